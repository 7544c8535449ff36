/-! ===== listsMoves ===== -/
def fl (P : Nat → Bool) : Nat → Nat → List Nat
  | 0, _ => []
  | c + 1, n => if P n then n :: fl P c (n + 1) else fl P c (n + 1)
theorem fl_range (P : Nat → Bool) : ∀ c s, (List.range' s c).filter P = fl P c s := by
  intro c
  induction c with
  | zero => intro s; rfl
  | succ c ih =>
    intro s
    rw [List.range'_succ, List.filter_cons, ih]
    rfl
theorem fl_congr {P R : Nat → Bool} : ∀ c s, (∀ n, s ≤ n → P n = R n) → fl P c s = fl R c s := by
  intro c
  induction c with
  | zero => intro s _; rfl
  | succ c ih =>
    intro s h
    simp only [fl]
    rw [h s (Nat.le_refl s), ih (s + 1) (fun n hn => h n (by omega))]
def mayP (l n : Nat) : Bool := (lay l).contains (2 * (n - 1) + bb l)
theorem tq_openfl {l : Nat} (h : l < 1215) : (opens l).map (fun q => q.1) = fl (mayP l) 10 1 := by
  rw [(tq_open h).2.1]
  have e : List.range 11 = 0 :: List.range' 1 10 := by decide
  rw [e, List.filter_cons, if_neg (by simp), fl_range]
  refine fl_congr 10 1 (fun n hn => ?_)
  unfold mayP
  simp [hn]
section ML
variable {T : hm_T}
theorem bb_lt (l : Nat) : bb l < 2 := by unfold bb; by_cases q : 0 < bnd l <;> simp [q]
theorem z_pass {l p : Nat} (hl : l < 1215) (hp : p < 2) {L : List Mv} {S : hm_S} (hL : L.length + (if p = 1 ∧ bnd l = 0 ∧ 0 < len l then 1 else 0) ≤ 31) (ht : tabM S T) (hm : mlM L S) {Q : hm_S → hm_T → Prop} (h : ∀ S', fb S S' → mlM (L ++ (if p = 1 ∧ bnd l = 0 ∧ 0 < len l then [paM l] else [])) S' → Q S' T) : wb_11_listsMoves_169 Q (nI (2 * xpi l + p)) (nI (bb l)) S T := by
  have hr := (tq_pi hl).1
  have hlen := tq_len hl
  have hdiv : nI (2 * xpi l + p) / 2 = nI (xpi l) := by rw [q_2, n_div2 (by omega), show (2 * xpi l + p) / 2 = xpi l by omega]
  have hrem : nI (2 * xpi l + p) - nI (2 * xpi l + p) / 2 * 2 = nI p := by rw [q_2, n_rem2 (by omega), show (2 * xpi l + p) % 2 = p by omega]
  unfold wb_11_listsMoves_169
  by_cases hb : bnd l = 0
  · have hbb : bb l = 0 := by unfold bb; rw [if_neg (by omega)]
    rw [hbb, if_pos (by decide), hrem, hdiv, nI_clamp (show xpi l < 2 ^ 31 by omega), ht.1 _ hr, len_pi hl]
    refine ⟨vp_in_nI hr (by omega), ?_⟩
    by_cases hle : 0 < len l
    · rw [if_neg (show ¬ nI (len l) ≤ 0 by rw [q_0]; exact nI_ge hle (by omega))]
      by_cases h1 : p = 1
      · rw [if_pos ⟨h1, hb, hle⟩] at hL
        simp only [if_pos (show p = 1 ∧ bnd l = 0 ∧ 0 < len l from ⟨h1, hb, hle⟩)] at h
        rw [if_pos (by rw [h1]; rfl)]
        simp only [u_7, u_8, u_9, u_10, u_11, u_12, hm.1, nI_clamp (show L.length < 2 ^ 31 by omega)]
        have v := vp_in_nI (n := L.length) (N := 64) (by omega) (by omega)
        have hx : nI (2 * xpi l + p) - 1 = nI (pM (2 * l)) := by
          rw [h1, nI_pred]
          unfold pM
          rw [show 2 * l / 2 = l by omega, show 2 * l % 2 = 0 by omega]
          rfl
        obtain ⟨g1, g2⟩ := mlM_add (a := 2) (b := 0) (c := 0) (d := 0) (e := 0) (f := 2 * l) hm (mw.rf _)
        refine ⟨v, v, v, v, v, v, ?_⟩
        rw [hx, nI_1]
        exact h _ g1 g2
      · simp only [if_neg (show ¬ (p = 1 ∧ bnd l = 0 ∧ 0 < len l) from fun q => h1 q.1), List.append_nil] at h
        rw [if_neg (by rw [q_1, nI_eq (by omega) (by omega)]; exact h1)]
        exact h S (fb.rf S) hm
    · simp only [if_neg (show ¬ (p = 1 ∧ bnd l = 0 ∧ 0 < len l) from fun q => hle q.2.2), List.append_nil] at h
      rw [if_pos (show nI (len l) ≤ 0 by rw [q_0]; exact nI_le (by omega) (by omega))]
      exact h S (fb.rf S) hm
  · have hbb : bb l = 1 := by unfold bb; rw [if_pos (by omega)]
    simp only [if_neg (show ¬ (p = 1 ∧ bnd l = 0 ∧ 0 < len l) from fun q => hb q.2.1), List.append_nil] at h
    rw [hbb, if_neg (by decide)]
    exact h S (fb.rf S) hm
theorem z_grows {ρ : Ru} (hr : rok ρ) {l p : Nat} (hl : l < 1215) (hp : p < 2) (hc : cnt l < 10) {Q : hm_S → hm_T → Prop} : ∀ c n, n + c = 10 → 1 ≤ n → ∀ (os : List (Nat × Nat)) (L : List Mv) (S : hm_S), (∀ q ∈ os, q ∈ opens l) → os.map (fun q => q.1) = fl (mayP l) (c + 1) n → L.length + os.length ≤ 31 → tabM S T → ruM ρ S → mlM L S → (∀ S', fb S S' → mlM (L ++ grO ρ p os) S' → wb_11_listsMoves_169 Q (nI (2 * xpi l + p)) (nI (bb l)) S' T) → wl_11_listsMoves_43 Q (c + 1) (nI (2 * xpi l + p)) (nI (bb l)) (nI n) S T := by
  have hbb := bb_lt l
  intro c
  induction c with
  | zero =>
    intro n hn h1 os L S hos hfl hL ht hu hm h
    show wb_11_listsMoves_43 Q _ _ _ _ S T
    unfold wb_11_listsMoves_43
    rw [if_pos (by rw [q_10]; exact nI_le (by omega) (by omega))]
    have e : os = [] := by
      cases os with
      | nil => rfl
      | cons q os =>
        have hq := (tq_open hl).1 q (hos q List.mem_cons_self)
        have hfl2 : fl (mayP l) 1 n = if mayP l n then [n] else [] := rfl
        rw [hfl2, List.map_cons] at hfl
        by_cases hmp : mayP l n = true
        · rw [if_pos hmp] at hfl
          have : q.1 = n := by simpa using (List.cons.inj hfl).1
          omega
        · rw [if_neg hmp] at hfl
          exact absurd hfl (by simp)
    refine h S (fb.rf S) ?_
    rw [e]
    simpa only [grO, List.append_nil] using hm
  | succ c ih =>
    intro n hn h1 os L S hos hfl hL ht hu hm h
    have hsum := (tq_cnt hl).1
    have hgr : ((S 0 5) >>> (nI n &&& 31)) &&& 1 = nI (bitN ρ.2.2.1 n) := by rw [hu.2.2.1]; exact shr_bit (by have := hr.2.2.1; omega) (by omega)
    have hfl2 : fl (mayP l) (c + 1 + 1) n = if mayP l n then n :: fl (mayP l) (c + 1) (n + 1) else fl (mayP l) (c + 1) (n + 1) := rfl
    rw [hfl2] at hfl
    show wb_11_listsMoves_43 Q _ _ _ _ S T
    unfold wb_11_listsMoves_43 wb_11_listsMoves_163
    rw [if_neg (by rw [q_10]; exact nI_ge (by omega) (by omega))]
    refine z_sum ht hl hp ?_
    rw [if_neg (by rw [q_10]; exact nI_ge hc (by omega))]
    refine z_mayMove ht hl hp h1 (by omega) hbb ?_
    by_cases hmp : mayP l n = true
    · have hmp' : (lay l).contains (2 * (n - 1) + bb l) = true := hmp
      rw [if_pos hmp] at hfl
      rw [if_pos hmp', if_neg (by decide), hgr]
      cases os with
      | nil => exact absurd hfl (by simp)
      | cons q os =>
        rw [List.map_cons] at hfl
        obtain ⟨e1, e2⟩ := List.cons.inj hfl
        have hq := (tq_open hl).1 q (hos q List.mem_cons_self)
        have hL2 : L.length + (os.length + 1) ≤ 31 := hL
        by_cases hbit : bitN ρ.2.2.1 n = 1
        · rw [if_pos (by rw [hbit]; rfl)]
          simp only [u_7, u_8, u_9, u_10, u_11, hm.1, nI_clamp (show L.length < 2 ^ 31 by omega), nI_1]
          have v := vp_in_nI (n := L.length) (N := 64) (by omega) (by omega)
          refine ⟨v, v, v, v, v, ?_⟩
          have hA : fb S (A5 S L.length (nI 1) (nI n) (nI 0) (nI 0) (nI (n + 1))) := A5_fb S _ _ _ _ _ _
          rw [q_0]
          refine z_turned (S := A5 S L.length (nI 1) (nI n) (nI 0) (nI 0) (nI (n + 1))) (rest := q.2) (hA.tab ht) hl hp (by omega) (by omega) hq.2.2.1 (by rw [hq.2.2.2.2, e1]) (by omega) (fun S' hw => ?_)
          have h18 : S' 0 18 = nI L.length := by rw [hw.2 18 (by decide)]; exact hm.1
          have hrw : rwi q.2 (n + 1) 0 0 = rwi q.2 0 (n + 1) 0 := by unfold rwi; simp
          have hlt := rwi_lt (l := q.2) (sm := 0) (gr := n + 1) (b := 0) ⟨hq.2.2.1, by omega⟩ (by omega)
          have hpm : 2 * xpi (rwi q.2 (n + 1) 0 0) + p = pM (2 * rwi q.2 0 (n + 1) 0 + p) := by
            unfold pM
            rw [hrw, show (2 * rwi q.2 0 (n + 1) 0 + p) / 2 = rwi q.2 0 (n + 1) 0 by omega, show (2 * rwi q.2 0 (n + 1) 0 + p) % 2 = p by omega]
          obtain ⟨g1, g2⟩ := mlM_add (f := 2 * rwi q.2 0 (n + 1) 0 + p) hm hw
          simp only [u_12, h18, nI_1]
          rw [hpm]
          refine ⟨v, ?_⟩
          refine ih (n + 1) (by omega) (by omega) os _ _ (fun q' hq' => hos q' (List.mem_cons_of_mem _ hq')) e2 (by rw [List.length_append]; simp; omega) (g1.tab ht) (g1.ru hu) g2 (fun S'' hf' hm'' => ?_)
          refine h S'' (g1.tr hf') ?_
          simp only [grO, e1, if_pos hbit, grM]
          rw [← List.append_assoc]
          exact hm''
        · rw [if_neg (by rw [q_1, nI_eq (by have := bitN_lt ρ.2.2.1 n; omega) (by omega)]; exact hbit), nI_1]
          refine ih (n + 1) (by omega) (by omega) os L S (fun q' hq' => hos q' (List.mem_cons_of_mem _ hq')) e2 (by omega) ht hu hm (fun S'' hf' hm'' => ?_)
          refine h S'' hf' ?_
          simp only [grO, e1, if_neg hbit, List.nil_append]
          exact hm''
    · have hmp' : ¬ (lay l).contains (2 * (n - 1) + bb l) = true := hmp
      rw [if_neg hmp] at hfl
      rw [if_neg hmp', if_pos (by decide), nI_1]
      exact ih (n + 1) (by omega) (by omega) os L S hos hfl hL ht hu hm h
theorem z_takesAll {ρ : Ru} (hr : rok ρ) {l p : Nat} (hl : l < 1215) (hp : p < 2) {Q : hm_S → hm_T → Prop} {B : Nat} (hB : B ≤ 31) : ∀ c n, n + c = 11 → 1 ≤ n → ∀ (os : List (Nat × Nat)) (L : List Mv) (S : hm_S), (∀ q ∈ os, q ∈ opens l) → os.map (fun q => q.1) = fl (mayP l) c n → L.length + tkBs os ≤ B → tabM S T → ruM ρ S → mlM L S → (∀ S', fb S S' → mlM (L ++ tkO ρ p os) S' → wb_11_listsMoves_41 Q (nI (2 * xpi l + p)) (nI (bb l)) S' T) → wl_11_listsMoves_13 Q (c + 1) (nI (2 * xpi l + p)) (nI (bb l)) (nI n) S T := by
  have hbb := bb_lt l
  intro c
  induction c with
  | zero =>
    intro n hn h1 os L S hos hfl hL ht hu hm h
    show wb_11_listsMoves_13 Q _ _ _ _ S T
    unfold wb_11_listsMoves_13
    rw [if_pos (by rw [q_10]; exact nI_lt (by omega) (by omega))]
    have e : os = [] := by
      cases os with
      | nil => rfl
      | cons q os => exact absurd hfl (by simp [fl])
    refine h S (fb.rf S) ?_
    rw [e]
    simpa only [tkO, List.append_nil] using hm
  | succ c ih =>
    intro n hn h1 os L S hos hfl hL ht hu hm h
    have hfl2 : fl (mayP l) (c + 1) n = if mayP l n then n :: fl (mayP l) c (n + 1) else fl (mayP l) c (n + 1) := rfl
    rw [hfl2] at hfl
    show wb_11_listsMoves_13 Q _ _ _ _ S T
    unfold wb_11_listsMoves_13 wb_11_listsMoves_35
    rw [if_neg (by rw [q_10]; exact nI_nlt (by omega) (by omega))]
    refine z_mayMove ht hl hp h1 (by omega) hbb ?_
    by_cases hmp : mayP l n = true
    · have hmp' : (lay l).contains (2 * (n - 1) + bb l) = true := hmp
      rw [if_pos hmp] at hfl
      rw [if_pos hmp', if_neg (by decide)]
      cases os with
      | nil => exact absurd hfl (by simp)
      | cons q os =>
        rw [List.map_cons] at hfl
        obtain ⟨e1, e2⟩ := List.cons.inj hfl
        have hq := (tq_open hl).1 q (hos q List.mem_cons_self)
        have hcl := (tq_cnt hl).1
        have hL2 : L.length + (tkB q.1 q.1 1 + tkBs os) ≤ B := hL
        have hlk := tkK_len ρ q.1 q.2 p q.1 1
        unfold wp_11_takes
        refine ⟨n + 1, ?_⟩
        rw [← e1, q_1]
        refine z_tkK hr hl hp hq.2.1 hq.2.2.1 hq.2.2.2.2 (by omega) q.1 1 (by omega) (by omega) L S (by omega) ht hu hm (fun S' hf hm' => ?_)
        rw [nI_add, e1]
        refine ih (n + 1) (by omega) (by omega) os _ S' (fun q' hq' => hos q' (List.mem_cons_of_mem _ hq')) e2 (by rw [List.length_append]; omega) (hf.tab ht) (hf.ru hu) hm' (fun S'' hf' hm'' => ?_)
        refine h S'' (hf.tr hf') ?_
        simp only [tkO]
        rw [← List.append_assoc]
        exact hm''
    · have hmp' : ¬ (lay l).contains (2 * (n - 1) + bb l) = true := hmp
      rw [if_neg hmp] at hfl
      rw [if_neg hmp', if_pos (by decide), nI_1]
      exact ih (n + 1) (by omega) (by omega) os L S hos hfl hL ht hu hm h
theorem z_listsMoves {ρ : Ru} (hr : rok ρ) {q : Nat} (hq : q < 2430) {S : hm_S} (ht : tabM S T) (hu : ruM ρ S) {Q : hm_S → hm_T → Prop} (h : ∀ S', fb S S' → mlM (mv ρ q) S' → Q S' T) : wp_11_listsMoves (nI (pM q)) S T Q := by
  have hl : q / 2 < 1215 := by omega
  have hp : q % 2 < 2 := by omega
  have hB := tq_mvB hq
  unfold mvB at hB
  have hpm : pM q = 2 * xpi (q / 2) + q % 2 := rfl
  have f0 : fb S (hm_up S 0 18 0) := fb.up0 0
  unfold wp_11_listsMoves
  rw [hpm]
  refine z_isBound (f0.tab ht) hl hp ?_
  have m0 : mlM [] (hm_up S 0 18 0) := ⟨by rw [hm_up_same]; rfl, fun i m hi => by simp at hi⟩
  refine ⟨11, z_takesAll hr hl hp (B := tkBs (opens (q / 2))) (by omega) 10 1 (by omega) (by omega) (opens (q / 2)) [] _ (fun _ h => h) (tq_openfl hl) (by simp) (f0.tab ht) (f0.ru hu) m0 (fun S1 g1 m1 => ?_)⟩
  rw [List.nil_append] at m1
  have f1 := f0.tr g1
  have hlt := tkO_len ρ (q % 2) (opens (q / 2))
  have hc10 := (tq_cnt hl).1
  have fin : ∀ (L : List Mv) (S3 : hm_S), fb S S3 → mlM L S3 → L = tkO ρ (q % 2) (opens (q / 2)) ++ (if cnt (q / 2) < 10 then grO ρ (q % 2) (opens (q / 2)) else []) → L.length + (if q % 2 = 1 ∧ bnd (q / 2) = 0 ∧ 0 < len (q / 2) then 1 else 0) ≤ 31 → wb_11_listsMoves_169 Q (nI (2 * xpi (q / 2) + q % 2)) (nI (bb (q / 2))) S3 T := by
    intro L S3 f3 m3 hL hb
    refine z_pass hl hp hb (f3.tab ht) m3 (fun S4 g4 m4 => ?_)
    refine h S4 (f3.tr g4) ?_
    unfold mv
    rw [← hL]
    exact m4
  unfold wb_11_listsMoves_41
  by_cases h10 : cnt (q / 2) < 10
  · rw [if_pos h10] at hB
    rw [q_1]
    refine ⟨10, z_grows hr hl hp h10 9 1 (by omega) (by omega) (opens (q / 2)) _ S1 (fun _ h => h) (tq_openfl hl) (by omega) (f1.tab ht) (f1.ru hu) m1 (fun S3 g3 m3 => ?_)⟩
    have hlg := grO_len ρ (q % 2) (opens (q / 2))
    exact fin _ S3 (f1.tr g3) m3 (by rw [if_pos h10]) (by rw [List.length_append]; omega)
  · rw [if_neg h10] at hB
    refine ⟨1, ?_⟩
    show wb_11_listsMoves_43 Q _ _ _ _ S1 T
    unfold wb_11_listsMoves_43
    rw [if_neg (by decide)]
    refine z_sum (f1.tab ht) hl hp ?_
    rw [if_pos (by rw [q_10]; exact nI_le (by omega) (by omega))]
    exact fin _ S1 f1 m1 (by rw [if_neg h10, List.append_nil]) (by omega)
end ML
