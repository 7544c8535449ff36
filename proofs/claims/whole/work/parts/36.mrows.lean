/-! ===== the reference makes its rows ===== -/
def mdA (S : hm_S) : List Nat → Prop
  | [] => True
  | x :: t => S 6 t.length = nI x ∧ mdA S t
def mdR (S : hm_S) (a : List Nat) : Prop := S 0 11 = nI a.length ∧ mdA S a
theorem mdA_at {S : hm_S} : ∀ {a : List Nat}, mdA S a → ∀ i, i < a.length → S 6 i = nI (a.reverse.getD i 0) := by
  intro a
  induction a with
  | nil => intro _ i hi; exact absurd hi (Nat.not_lt_zero i)
  | cons x t ih =>
    intro h i hi
    rw [List.reverse_cons, List.getD_eq_getElem?_getD]
    rcases Nat.lt_or_ge i t.length with q | q
    · rw [List.getElem?_append_left (by rw [List.length_reverse]; exact q), ← List.getD_eq_getElem?_getD]
      exact ih h.2 i q
    · have e : i = t.length := by have : i < t.length + 1 := hi; omega
      rw [List.getElem?_append_right (by rw [List.length_reverse]; exact q), List.length_reverse, e, Nat.sub_self]
      exact h.1
theorem mdA_up {S : hm_S} {i : Nat} {v : Int32} : ∀ {a : List Nat}, mdA S a → a.length ≤ i → mdA (hm_up S 6 i v) a := by
  intro a
  induction a with
  | nil => intro _ _; trivial
  | cons x t ih =>
    intro h hi
    have hl : (x :: t).length = t.length + 1 := rfl
    refine ⟨?_, ih h.2 (by omega)⟩
    rw [hm_up_col S v (by omega)]
    exact h.1
theorem mdA_up0 {S : hm_S} {k : Nat} {v : Int32} : ∀ {a : List Nat}, mdA S a → mdA (hm_up S 0 k v) a := by
  intro a
  induction a with
  | nil => intro _; trivial
  | cons x t ih =>
    intro h
    refine ⟨?_, ih h.2⟩
    rw [hm_up_row S _ _ (by decide)]
    exact h.1
theorem mdR.md {S : hm_S} {a : List Nat} (h : mdR S a) : md S a.reverse := ⟨by rw [List.length_reverse]; exact h.1, fun i hi => mdA_at h.2 i (by rw [List.length_reverse] at hi; exact hi)⟩
theorem cntM_rev (a : List Nat) : cntM a.reverse = cntM a := by
  induction a with
  | nil => rfl
  | cons x t ih => rw [List.reverse_cons, cntM_app, ih]; simp only [cntM]; omega
def nxR : Nat → List Nat → List Nat
  | 0, _ => []
  | _ + 1, [] => []
  | _ + 1, [x] => if cntM [x] ≤ 10 then [x] else []
  | f + 1, x :: y :: t => if cntM (x :: y :: t) ≤ 10 then x :: y :: t else nxR f ((y + 1) :: t)
set_option maxHeartbeats 1000000 in
theorem z_goesLoop {T : hm_T} {S0 : hm_S} {Q : Int32 → hm_S → hm_T → Prop} : ∀ (n : Nat) (a : List Nat), a.length ≤ n → a.length ≤ 11 → (∀ x ∈ a, x + a.length < 100) → ∀ S, mw S0 S → mdR S a → (∀ S', mw S0 S' → mdR S' (nxR (n + 1) a) → wb_11_goesOn_92 Q S' T) → ∃ f, wl_11_goesOn_41 Q f S T := by
  intro n
  induction n with
  | zero =>
    intro a ha _ _ S hw hd h
    have e : a = [] := List.length_eq_zero_iff.mp (by omega)
    subst e
    refine ⟨1, ?_⟩
    show wb_11_goesOn_41 Q _ S T
    unfold wb_11_goesOn_41
    rw [if_pos (show S 0 11 ≤ 0 by rw [hd.1]; decide)]
    exact h S hw hd
  | succ n ih =>
    intro a ha h11 hx S hw hd h
    match a, ha, h11, hx, hd, h with
    | [], _, _, _, hd, h =>
      refine ⟨1, ?_⟩
      show wb_11_goesOn_41 Q _ S T
      unfold wb_11_goesOn_41
      rw [if_pos (show S 0 11 ≤ 0 by rw [hd.1]; decide)]
      exact h S hw hd
    | [x], _, _, hx, hd, h =>
      have hx1 := hx x (List.mem_singleton.mpr rfl)
      have h1 : S 0 11 = nI 1 := hd.1
      have hS1 : hm_up S 0 11 (S 0 11 - 1) 0 11 = nI 0 := by rw [hm_up_same, h1]; rfl
      by_cases hc : cntM [x] ≤ 10
      · refine ⟨1, ?_⟩
        show wb_11_goesOn_41 Q _ S T
        unfold wb_11_goesOn_41
        rw [if_neg (show ¬ S 0 11 ≤ 0 by rw [h1]; decide)]
        refine z_counters hd.md (by simp) (fun y hy => ?_) ?_
        · have : y = x := by simpa using hy
          have hl : [x].length = 1 := rfl
          omega
        · rw [cntM_rev, if_pos (show nI (cntM [x]) ≤ 10 from by rw [q_10]; exact nI_le hc (by omega))]
          have e : nxR (n + 1 + 1) [x] = [x] := by simp only [nxR, if_pos hc]
          rw [e] at h
          exact h S hw hd
      · obtain ⟨f, hf⟩ := ih [] (by simp) (by simp) (fun _ q => absurd q List.not_mem_nil) (hm_up S 0 11 (S 0 11 - 1)) (hw.tr (mw.up0 S _)) ⟨hS1, trivial⟩ (fun S' hw' hd' => by
          have e : nxR (n + 1 + 1) [x] = [] := by simp only [nxR, if_neg hc]
          have e2 : nxR (n + 1) ([] : List Nat) = [] := rfl
          rw [e] at h
          rw [e2] at hd'
          exact h S' hw' hd')
        refine ⟨f + 1, ?_⟩
        show wb_11_goesOn_41 Q _ S T
        unfold wb_11_goesOn_41
        rw [if_neg (show ¬ S 0 11 ≤ 0 by rw [h1]; decide)]
        have hv : x < 100 := by have hl : [x].length = 1 := rfl; omega
        refine z_counters hd.md (by simp) (fun y hy => ?_) ?_
        · have : y = x := by simpa using hy
          omega
        · have hcs : cntM [x] < 2 ^ 31 := by simp only [cntM]; omega
          rw [cntM_rev, if_neg (show ¬ nI (cntM [x]) ≤ 10 from by rw [q_10]; exact nI_ge (by omega) hcs), hS1, if_pos (by decide)]
          exact hf
    | x :: y :: t, ha, h11, hx, hd, h =>
      have hl : (x :: y :: t).length = t.length + 2 := rfl
      have h1 : S 0 11 = nI (t.length + 2) := hd.1
      have hS1 : hm_up S 0 11 (S 0 11 - 1) 0 11 = nI (t.length + 1) := by rw [hm_up_same, h1]; exact nI_pred _
      have hb : ∀ z ∈ (x :: y :: t).reverse, z < 100 := fun z hz => by
        have := hx z (List.mem_reverse.mp hz)
        omega
      have hcs : cntM (x :: y :: t) < 2 ^ 31 := by
        have hs : ∀ (b : List Nat), (∀ z ∈ b, z < 100) → cntM b ≤ 100 * b.length := by
          intro b
          induction b with
          | nil => intro _; simp [cntM]
          | cons u w ihw =>
            intro hz
            have h1 := hz u List.mem_cons_self
            have h2 := ihw (fun z q => hz z (List.mem_cons_of_mem _ q))
            simp only [cntM, List.length_cons]
            omega
        have := hs (x :: y :: t) (fun z hz => by have := hx z hz; omega)
        omega
      by_cases hc : cntM (x :: y :: t) ≤ 10
      · refine ⟨1, ?_⟩
        show wb_11_goesOn_41 Q _ S T
        unfold wb_11_goesOn_41
        rw [if_neg (show ¬ S 0 11 ≤ 0 by rw [h1, q_0]; exact nI_ge (by omega) (by omega))]
        refine z_counters hd.md (by rw [List.length_reverse]; exact h11) hb ?_
        rw [cntM_rev, if_pos (show nI (cntM (x :: y :: t)) ≤ 10 from by rw [q_10]; exact nI_le hc (by omega))]
        have e : nxR (n + 1 + 1) (x :: y :: t) = x :: y :: t := by simp only [nxR, if_pos hc]
        rw [e] at h
        exact h S hw hd
      · have hy := hx y (List.mem_cons_of_mem _ List.mem_cons_self)
        have hyv : S 6 t.length = nI y := hd.2.2.1
        obtain ⟨f, hf⟩ := ih ((y + 1) :: t) (by simp only [List.length_cons] at ha ⊢; omega) (by simp only [List.length_cons] at h11 ⊢; omega) (fun z hz => by
            simp only [List.length_cons]
            rcases List.mem_cons.mp hz with e | e
            · omega
            · have := hx z (List.mem_cons_of_mem _ (List.mem_cons_of_mem _ e))
              omega) (hm_up (hm_up S 0 11 (S 0 11 - 1)) 6 t.length (nI (y + 1))) ((hw.tr (mw.up0 S _)).tr (mw.up6 _ _ _)) ⟨by rw [hm_up_row _ _ _ (by decide), hS1]; rfl, by rw [hm_up_same], mdA_up (mdA_up0 hd.2.2.2) (Nat.le_refl _)⟩ (fun S' hw' hd' => by
            have e : nxR (n + 1 + 1) (x :: y :: t) = nxR (n + 1) ((y + 1) :: t) := by rw [nxR, if_neg hc]
            rw [e] at h
            exact h S' hw' hd')
        refine ⟨f + 1, ?_⟩
        show wb_11_goesOn_41 Q _ S T
        unfold wb_11_goesOn_41
        rw [if_neg (show ¬ S 0 11 ≤ 0 by rw [h1, q_0]; exact nI_ge (by omega) (by omega))]
        refine z_counters hd.md (by rw [List.length_reverse]; exact h11) hb ?_
        rw [cntM_rev, if_neg (show ¬ nI (cntM (x :: y :: t)) ≤ 10 from by rw [q_10]; exact nI_ge (by omega) hcs), hS1, if_neg (show ¬ nI (t.length + 1) ≤ 0 by rw [q_0]; exact nI_ge (by omega) (by omega)), nI_pred, nI_clamp (by omega), hm_up_row S _ _ (by decide), hyv, nI_1]
        exact ⟨vp_in_nI (by omega) (by omega), vp_in_nI (by omega) (by omega), hf⟩
def nx1 (l : List Nat) : List Nat := nxR 12 ((l.reverse.headD 2) :: l.reverse)
theorem k_next : allB (fun r => nx1 (mrow r) == if r = 1214 then [] else (mrow (r + 1)).reverse) 1215 = true := by decide +kernel
theorem md_mdA {S : hm_S} : ∀ {a : List Nat}, (∀ i, i < a.length → S 6 i = nI (a.reverse.getD i 0)) → mdA S a := by
  intro a
  induction a with
  | nil => intro _; trivial
  | cons x t ih =>
    intro h
    have key : ∀ i, i < t.length → (x :: t).reverse.getD i 0 = t.reverse.getD i 0 := by
      intro i hi
      rw [List.reverse_cons, List.getD_eq_getElem?_getD, List.getD_eq_getElem?_getD, List.getElem?_append_left (by rw [List.length_reverse]; exact hi)]
    refine ⟨?_, ih (fun i hi => ?_)⟩
    · rw [h t.length (by simp), List.reverse_cons, List.getD_eq_getElem?_getD, List.getElem?_append_right (by rw [List.length_reverse]; exact Nat.le_refl _), List.length_reverse, Nat.sub_self]
      rfl
    · rw [h i (by simp; omega), key i hi]
theorem md.mdR {S : hm_S} {l : List Nat} (h : md S l) : mdR S l.reverse := ⟨by rw [List.length_reverse]; exact h.1, md_mdA (fun i hi => by rw [List.length_reverse] at hi; rw [List.reverse_reverse]; exact h.2 i hi)⟩
theorem z_goesOn {S : hm_S} {T : hm_T} {l : List Nat} (hm : md S l) (hl : l.length ≤ 10) (hx : ∀ x ∈ l, x < 22) {Q : Int32 → hm_S → hm_T → Prop} (h : ∀ S', mw S S' → mdR S' (nx1 l) → wb_11_goesOn_92 Q S' T) : wp_11_goesOn S T Q := by
  have hd := hm.mdR
  unfold wp_11_goesOn wb_11_goesOn_30
  have go : ∀ v : Nat, v < 22 → l.reverse.headD 2 = v → (vp_in (S 0 11) 12 ∧ ∃ f, wl_11_goesOn_41 Q f (hm_up (hm_up S 6 (Int32.toNatClampNeg (S 0 11)) (nI v)) 0 11 ((hm_up S 6 (Int32.toNatClampNeg (S 0 11)) (nI v)) 0 11 + 1)) T) := by
    intro v hv hh
    rw [hm.1, nI_clamp (by omega)]
    refine ⟨vp_in_nI (by omega) (by omega), ?_⟩
    refine z_goesLoop (S0 := S) 11 (v :: l.reverse) (by simp; omega) (by simp; omega) (fun x hxm => ?_) _ ((mw.up6 S _ _).tr (mw.up0 _ _)) ⟨?_, ?_, ?_⟩ (fun S' hw hd' => ?_)
    · have hlen : (v :: l.reverse).length = l.length + 1 := by simp
      rcases List.mem_cons.mp hxm with e | e
      · omega
      · have := hx x (List.mem_reverse.mp e)
        omega
    · rw [hm_up_same, hm_up_row S _ _ (by decide), hm.1, nI_1]
      simp
    · rw [hm_up_row _ _ _ (by decide), List.length_reverse, hm_up_same]
    · exact mdA_up0 (mdA_up hd.2 (by rw [List.length_reverse]; exact Nat.le_refl _))
    · refine h S' hw ?_
      unfold nx1
      rw [hh]
      exact hd'
  by_cases h0 : l.length = 0
  · have e : l = [] := List.length_eq_zero_iff.mp h0
    rw [if_pos (show S 0 11 = 0 by rw [hm.1, h0]; rfl), q_2]
    exact go 2 (by omega) (by rw [e]; rfl)
  · obtain ⟨n, hn⟩ : ∃ n, l.length = n + 1 := ⟨l.length - 1, by omega⟩
    have hp : S 0 11 - 1 = nI n := by rw [hm.1, hn]; exact nI_pred n
    have hlt : n < l.length := by omega
    have hv : S 6 n = nI (l.getD n 0) := hm.2 n hlt
    rw [if_neg (show ¬ S 0 11 = 0 by rw [hm.1, q_0, nI_eq (by omega) (by omega)]; exact h0), hp, nI_clamp (by omega), hv]
    refine ⟨vp_in_nI (by omega) (by omega), ?_⟩
    refine go (l.getD n 0) (hx _ (getD_mem hlt)) ?_
    rw [List.headD_eq_head?_getD, List.head?_reverse, List.getLast?_eq_getElem?, hn, Nat.add_sub_cancel, List.getD_eq_getElem?_getD, List.getElem?_eq_getElem hlt]
    rfl
