theorem srt_app {a b : List Nat} : srtL (a ++ b) = true → srtL a = true := by
  induction a with
  | nil => intro _; rfl
  | cons x t ih =>
    intro h
    cases t with
    | nil => rfl
    | cons y t =>
      simp only [List.cons_append, srtL, Bool.and_eq_true, decide_eq_true_eq] at h ⊢
      exact ⟨h.1, ih (by simpa only [List.cons_append] using h.2)⟩
theorem srt_last {a : List Nat} {x : Nat} (h : srtL (a ++ [x]) = true) : ∀ y ∈ a, y ≤ x := by
  intro y hy
  obtain ⟨i, hi, e⟩ := List.mem_iff_getElem.mp hy
  have := srt_le h (i := i) (j := a.length) (by omega) (by simp)
  rw [List.getD_eq_getElem?_getD, List.getElem?_append_left hi, List.getElem?_eq_getElem hi, List.getD_eq_getElem?_getD, List.getElem?_append_right (Nat.le_refl _), Nat.sub_self] at this
  rw [← e]
  exact this
def evl (c : Nat) : Nat := c / 2 * 2
/-- what is still put, with the flag -/
def remG (n g : Nat) (l : List Nat) : List Nat := if g = 0 then remC n l else l.map evl
theorem remG_sorted {n : Nat} : ∀ {l : List Nat}, srtL l = true → ∀ g A, (∀ y ∈ A, ∀ z ∈ l, y ≤ evl z) → srtL A = true → srtL (A ++ remG n g l) = true := by
  have app : ∀ (A B : List Nat), srtL A = true → srtL B = true → (∀ y ∈ A, ∀ z ∈ B, y ≤ z) → srtL (A ++ B) = true := by
    intro A
    induction A with
    | nil => intro B _ hB _; exact hB
    | cons x t ih =>
      intro B hA hB h
      cases t with
      | nil =>
        cases B with
        | nil => rfl
        | cons z B =>
          simp only [List.cons_append, List.nil_append, srtL, Bool.and_eq_true, decide_eq_true_eq]
          exact ⟨h x (by simp) z (by simp), hB⟩
      | cons y t =>
        simp only [srtL, Bool.and_eq_true, decide_eq_true_eq] at hA
        have := ih B hA.2 hB (fun u hu z hz => h u (List.mem_cons_of_mem _ hu) z hz)
        simp only [List.cons_append, srtL, Bool.and_eq_true, decide_eq_true_eq] at this ⊢
        exact ⟨hA.1, this⟩
  have rem : ∀ (l : List Nat), srtL l = true → srtL (remC n l) = true ∧ ∀ z ∈ remC n l, ∃ w ∈ l, z = evl w := by
    intro l
    induction l with
    | nil => intro _; exact ⟨rfl, fun z hz => by simp [remC] at hz⟩
    | cons c t ih =>
      intro hs
      have ht : srtL t = true := by
        cases t with
        | nil => rfl
        | cons y t => simp only [srtL, Bool.and_eq_true] at hs; exact hs.2
      simp only [remC]
      by_cases hc : c / 2 = n
      · rw [if_pos hc]
        refine ⟨even_sorted ht, fun z hz => ?_⟩
        obtain ⟨w, hw, e⟩ := List.mem_map.mp hz
        exact ⟨w, List.mem_cons_of_mem _ hw, e.symm⟩
      · rw [if_neg hc]
        obtain ⟨i1, i2⟩ := ih ht
        refine ⟨?_, fun z hz => ?_⟩
        · refine app [c / 2 * 2] _ rfl i1 (fun y hy z hz => ?_)
          have : y = c / 2 * 2 := by simpa using hy
          obtain ⟨w, hw, e⟩ := i2 z hz
          obtain ⟨j, hj, ej⟩ := List.mem_iff_getElem.mp hw
          have hle := srt_le hs (i := 0) (j := j + 1) (by omega) (by simp; omega)
          simp only [List.getD_cons_zero, List.getD_cons_succ] at hle
          rw [List.getD_eq_getElem?_getD, List.getElem?_eq_getElem hj] at hle
          have hle2 : c ≤ w := by rw [← ej]; exact hle
          unfold evl at e
          omega
        · rcases List.mem_cons.mp hz with e | e
          · exact ⟨c, List.mem_cons_self, e⟩
          · obtain ⟨w, hw, e2⟩ := i2 z e
            exact ⟨w, List.mem_cons_of_mem _ hw, e2⟩
  intro l hs g A hA hsA
  unfold remG
  by_cases hg : g = 0
  · rw [if_pos hg]
    obtain ⟨i1, i2⟩ := rem l hs
    refine app A _ hsA i1 (fun y hy z hz => ?_)
    obtain ⟨w, hw, e⟩ := i2 z hz
    rw [e]
    exact hA y hy w hw
  · rw [if_neg hg]
    refine app A _ hsA (even_sorted hs) (fun y hy z hz => ?_)
    obtain ⟨w, hw, e⟩ := List.mem_map.mp hz
    rw [← e]
    exact hA y hy w hw
theorem drop_c {a : List Nat} {i : Nat} (h : i < a.length) : a.drop i = a.getD i 0 :: a.drop (i + 1) := by
  rw [List.drop_eq_getElem_cons h, List.getD_eq_getElem?_getD, List.getElem?_eq_getElem h]
  rfl
theorem z_turnLoop {T : hm_T} {r p n one oth bd : Nat} (hr : r < 1215) (hp : p < 2) (hn : n < 100) {S0 : hm_S} (ht : tabM S0 T) {F : List Nat} (hF : srtL F = true) (hFl : F.length ≤ 10) (hFb : ∀ y ∈ F, y < 100) {Q : Int32 → hm_S → hm_T → Prop} (h : ∀ S', mw S0 S' → md S' F → wb_11_turned_66 Q (nI (2 * r + p)) (nI one) (nI oth) (nI bd) S' T) : ∀ c i g A S, i + c = (mrow r).length → g < 2 → A ++ remG n g ((mrow r).drop i) = F → mw S0 S → md S A → wl_11_turned_11 Q (c + 1) (nI (2 * r + p)) (nI n) (nI one) (nI oth) (nI bd) (nI g) (nI i) S T := by
  have hl10 := mrow_len10 hr
  intro c
  induction c with
  | zero =>
    intro i g A S hi hg he hw hm
    show wb_11_turned_11 Q _ _ _ _ _ _ _ _ S T
    unfold wb_11_turned_11
    rw [q_2, n_div2 (by omega), show (2 * r + p) / 2 = r by omega, nI_clamp (by omega), (ht.mw hw).1 r hr, ← mrow_len, if_pos (nI_le (by omega) (by omega))]
    refine ⟨vp_in_nI hr (by omega), h S hw ?_⟩
    have e0 : (mrow r).drop i = [] := List.drop_of_length_le (by omega)
    rw [e0] at he
    have : remG n g ([] : List Nat) = [] := by unfold remG; by_cases q : g = 0 <;> simp [q, remC]
    rw [this, List.append_nil] at he
    rw [← he]
    exact hm
  | succ c ih =>
    intro i g A S hi hg he hw hm
    have hil : i < (mrow r).length := by omega
    have hil2 : i < len (xpv r) := by rw [← mrow_len]; exact hil
    have hx := mrow_small hr (getD_mem hil)
    have hd := drop_c hil
    have put : ∀ g', g' < 2 → A ++ (evl ((mrow r).getD i 0) :: remG n g' ((mrow r).drop (i + 1))) = F → wb_11_turned_52 Q (wl_11_turned_11 Q (c + 1)) (nI (2 * r + p)) (nI n) (nI one) (nI oth) (nI bd) (nI g') (nI i) (nI ((mrow r).getD i 0 / 2)) S T := by
      intro g' hg' he'
      unfold wb_11_turned_52 wb_11_turned_60
      rw [q_2, pk_mul, nI_1]
      have e3 : 2 * ((mrow r).getD i 0 / 2) = evl ((mrow r).getD i 0) := by unfold evl; omega
      rw [e3]
      have hsF : srtL (A ++ [evl ((mrow r).getD i 0)]) = true := srt_app (b := remG n g' ((mrow r).drop (i + 1))) (by rw [List.append_assoc]; simpa using (he' ▸ hF))
      have hAl : A.length ≤ 10 := by
        have : (A ++ (evl ((mrow r).getD i 0) :: remG n g' ((mrow r).drop (i + 1)))).length ≤ 10 := by rw [he']; exact hFl
        rw [List.length_append, List.length_cons] at this
        omega
      have hAb : ∀ y ∈ A, y < 100 := fun y hy => hFb y (by rw [← he']; exact List.mem_append_left _ hy)
      refine z_puts hm hAl (srt_app hsF) (by unfold evl; omega) hAb (fun S' hw' hm' => ?_)
      rw [insL_end (srt_last hsF)] at hm'
      exact ih (i + 1) g' _ S' (by omega) hg' (by rw [List.append_assoc]; exact he') (hw.tr hw') hm'
    show wb_11_turned_11 Q _ _ _ _ _ _ _ _ S T
    unfold wb_11_turned_11
    have hdiv : nI (2 * r + p) / 2 = nI r := by rw [q_2, n_div2 (by omega), show (2 * r + p) / 2 = r by omega]
    rw [hdiv, nI_clamp (by omega), (ht.mw hw).1 r hr, if_neg (by rw [← mrow_len]; exact nI_ge hil (by omega)), z_heapAt (ht.mw hw) hr hp hil2]
    refine ⟨vp_in_nI hr (by omega), ?_⟩
    have hdv : nI ((mrow r).getD i 0) / 2 = nI ((mrow r).getD i 0 / 2) := by rw [q_2]; exact n_div2 (by omega)
    rw [hdv]
    rw [hd] at he
    by_cases hc : (mrow r).getD i 0 / 2 = n
    · rw [if_pos (by rw [hc])]
      by_cases hg0 : g = 0
      · rw [if_pos (by rw [hg0]; rfl)]
        unfold wb_11_turned_60
        rw [nI_1, q_1]
        refine ih (i + 1) 1 A S (by omega) (by omega) ?_ hw hm
        rw [← he, hg0]
        simp only [remG, remC, if_pos hc, if_true, if_neg (show ¬ (1 : Nat) = 0 by decide)]
        rfl
      · rw [if_neg (by rw [q_0, nI_eq (by omega) (by omega)]; exact hg0)]
        refine put g hg ?_
        rw [← he]
        simp only [remG, if_neg hg0, List.map_cons]
    · rw [if_neg (by rw [nI_eq (by omega) (by omega)]; exact hc)]
      refine put g hg ?_
      rw [← he]
      by_cases hg0 : g = 0
      · simp only [remG, if_pos hg0, remC, if_neg hc]
        rfl
      · simp only [remG, if_neg hg0, List.map_cons]
theorem z_turned {S : hm_S} {T : hm_T} {l p n one oth bd rest : Nat} (ht : tabM S T) (hl : l < 1215) (hp : p < 2) (hn : n < 100) (hb : bd < 2) (hrest : rest < 1215) (he : lay rest = remF n (lay l)) (hc : cnt rest + one + oth ≤ 10) {Q : Int32 → hm_S → hm_T → Prop} (h : ∀ S', mw S S' → Q (nI (2 * xpi (rwi rest one oth bd) + p)) S' T) : wp_11_turned (nI (2 * xpi l + p)) (nI n) (nI one) (nI oth) (nI bd) S T Q := by
  have hr := (tq_pi hl).1
  have hmr := mrow_pi hl
  unfold wp_11_turned
  have hF : remC n (mrow (xpi l)) = (lay rest).map (· + 2) := by rw [hmr, remC_map, he]
  have hsm : ∀ t, t < 1215 → srtL ((lay t).map (· + 2)) = true ∧ ((lay t).map (· + 2)).length ≤ 10 ∧ ∀ y ∈ (lay t).map (· + 2), y < 22 := by
    intro t ht'
    refine ⟨?_, by rw [List.length_map]; exact (tq_cnt ht').2, fun y hy => ?_⟩
    · have key : ∀ (a : List Nat), srtL a = true → srtL (a.map (· + 2)) = true := by
        intro a
        induction a with
        | nil => intro _; rfl
        | cons x t ih =>
          intro hs
          cases t with
          | nil => rfl
          | cons z t =>
            simp only [srtL, Bool.and_eq_true, decide_eq_true_eq] at hs
            have := ih hs.2
            simp only [List.map_cons, srtL, Bool.and_eq_true, decide_eq_true_eq] at this ⊢
            exact ⟨by omega, this⟩
      exact key _ (tq_srt ht')
    · obtain ⟨k, hk, rfl⟩ := List.mem_map.mp hy
      have := tq_small ht' hk
      omega
  -- the end: the name of what was made
  have fin : ∀ t S', t < 1215 → mw S S' → md S' ((lay t).map (· + 2)) → t = rwi rest one oth bd → wb_11_turned_96 Q (nI (2 * xpi l + p)) S' T := by
    intro t S' ht' hw hm e
    obtain ⟨s1, s2, s3⟩ := hsm t ht'
    unfold wb_11_turned_96
    refine z_nameOf hm (by omega) s3 ?_
    have hpt := (tq_pi ht').1
    have hnm : nmL ((lay t).map (· + 2)) = nmT (xpi t) := by unfold nmT; rw [mrow_pi ht']
    rw [hnm]
    refine z_rowOf (ht.mw hw).2.2 hpt ?_
    rw [q_2, n_rem2 (by omega), pk_mul, nI_add, show (2 * xpi l + p) % 2 = p by omega, e]
    exact h S' hw
  have second : ∀ t S', t < 1215 → cnt t + oth ≤ 10 → mw S S' → md S' ((lay t).map (· + 2)) → (if 0 < oth then jt t (2 * (oth - 1) + bd) else t) = rwi rest one oth bd → wb_11_turned_80 Q (nI (2 * xpi l + p)) (nI oth) (nI bd) S' T := by
    intro t S' ht' hct hw hm e
    obtain ⟨s1, s2, s3⟩ := hsm t ht'
    unfold wb_11_turned_80
    by_cases ho : 0 < oth
    · obtain ⟨j1, j2, j3, j4, j5⟩ := jt_put ht' ho hb hct
      rw [if_neg (show ¬ nI oth ≤ 0 by rw [q_0]; exact nI_ge ho (by omega)), q_2, pk_mul, nI_add]
      refine z_puts hm s2 s1 (by omega) (fun y hy => by have := s3 y hy; omega) (fun S'' hw' hm' => ?_)
      rw [if_pos ho] at e
      refine fin _ S'' j3 (hw.tr hw') ?_ e
      rw [show 2 * oth + bd = 2 * (oth - 1) + bd + 2 by omega, insL_map] at hm'
      rw [j5]
      exact hm'
    · rw [if_neg ho] at e
      rw [if_pos (show nI oth ≤ 0 by rw [q_0]; exact nI_le (by omega) (by omega))]
      exact fin t S' ht' hw hm e
  have hl10 := mrow_len10 hr
  obtain ⟨s1, s2, s3⟩ := hsm rest hrest
  have hw0 : mw S (hm_up S 0 11 0) := mw.up0 S 0
  refine ⟨(mrow (xpi l)).length + 1, z_turnLoop hr hp hn (S0 := hm_up S 0 11 0) (ht.mw hw0) s1 s2 (fun y hy => by have := s3 y hy; omega) (fun S' hw hm => ?_) (mrow (xpi l)).length 0 0 [] _ (by omega) (by omega) (by rw [List.nil_append, List.drop_zero]; simp only [remG, if_true]; exact hF) (mw.rf _) ⟨by rw [hm_up_same]; rfl, fun i hi => absurd hi (Nat.not_lt_zero i)⟩⟩
  have hwS := hw0.tr hw
  unfold wb_11_turned_66
  by_cases ho : 0 < one
  · obtain ⟨j1, j2, j3, j4, j5⟩ := jt_put hrest ho hb (by omega)
    rw [if_neg (show ¬ nI one ≤ 0 by rw [q_0]; exact nI_ge ho (by omega)), q_2, pk_mul, nI_add]
    refine z_puts hm s2 s1 (by omega) (fun y hy => by have := s3 y hy; omega) (fun S'' hw' hm' => ?_)
    rw [show 2 * one + bd = 2 * (one - 1) + bd + 2 by omega, insL_map] at hm'
    refine second (jt rest (2 * (one - 1) + bd)) S'' j3 (by omega) (hwS.tr hw') (by rw [j5]; exact hm') ?_
    unfold rwi
    simp only [if_pos ho]
  · rw [if_pos (show nI one ≤ 0 by rw [q_0]; exact nI_le (by omega) (by omega))]
    refine second rest S' hrest (by omega) hwS hm ?_
    unfold rwi
    simp only [if_neg ho]
