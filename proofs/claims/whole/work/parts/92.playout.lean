/-! ===== playOut, both sides ===== -/
noncomputable def plF (ρ : Ru) : Nat → Nat → Nat → List Nat → Nat × Nat × List Nat
  | 0, n, q, hs => (n, q, hs)
  | c + 1, n, q, hs => match (mv ρ q)[(bsN ρ q).toNatClampNeg]? with
    | none => (n, q, hs)
    | some m => plF ρ c (n + 1) (tgt m) (rec q hs)
theorem plF_0 {ρ : Ru} {c n q : Nat} {hs : List Nat} (e : mv ρ q = []) : plF ρ (c + 1) n q hs = (n, q, hs) := by
  simp only [plF]
  rw [e]
  rfl
theorem plF_1 {ρ : Ru} {c n q k : Nat} {hs : List Nat} {m : Mv} (hm : (mv ρ q)[k]? = some m) (e : bsN ρ q = nI k) (hk : k < 31) : plF ρ (c + 1) n q hs = plF ρ c (n + 1) (tgt m) (rec q hs) := by
  simp only [plF]
  rw [e, nI_clamp (by omega), hm]
theorem plF_ok {ρ : Ru} (hr : rok ρ) : ∀ c n q (hs : List Nat), q < 2430 → (∀ p ∈ hs, p < 2430) → (plF ρ c n q hs).2.1 < 2430 ∧ ∀ p ∈ (plF ρ c n q hs).2.2, p < 2430 := by
  intro c
  induction c with
  | zero => intro n q hs hq hh; exact ⟨hq, hh⟩
  | succ c ih =>
    intro n q hs hq hh
    rcases bs_cases hr hq with ⟨e, -⟩ | ⟨k, m, h1, h2, h3⟩
    · rw [plF_0 e]; exact ⟨hq, hh⟩
    · rw [plF_1 h1 h2 h3]
      exact ih _ _ _ (tgt_lt hq m (List.mem_of_getElem? h1)) (rec_ok hq hh)
section PO
variable {T : hm_T}
theorem x_playOutL {ρ : Ru} (hr : rok ρ) {tx : List Nat} {M : Nat} (hM : M ≤ 40) {R : Nat × Nat × List Nat} {Q : Int32 → hm_S → hm_T → Prop} (h : ∀ S, IX (ρ, tx, R.2.1, R.2.2) S → Q (nI R.1) S T) : ∀ c n q (hs : List Nat) S, n + c = M → q < 2430 → plF ρ c n q hs = R → IX (ρ, tx, q, hs) S → wl_10_playOut_16 Q (c + 1) (nI M) (nI n) S T := by
  intro c
  induction c with
  | zero =>
    intro n q hs S hn hq hR hI
    show wb_10_playOut_16 Q _ _ _ S T
    unfold wb_10_playOut_16
    rw [if_pos (nI_le (by omega) (by omega)), show M = n by omega]
    have e : R = (n, q, hs) := hR.symm
    rw [e] at h
    exact h S hI
  | succ c ih =>
    intro n q hs S hn hq hR hI
    show wb_10_playOut_16 Q _ _ _ S T
    unfold wb_10_playOut_16
    rw [if_neg (nI_ge (by omega) (by omega))]
    refine x_learnHere hr hI.1 hq hI.2.1 (fun kn S1 f1 hq1 x1 h15 s1 hm => ?_)
    have hI1 : IX (ρ, tx, q, hs) S1 := hI.lrn f1 ⟨kn, x1, Or.inr ⟨h15, s1⟩⟩
    refine x_bestMove hr hq hq1 x1 s1 hm ?_
    rcases bs_cases hr hq with ⟨e, e2⟩ | ⟨k, m, h1, h2, h3⟩
    · rw [plF_0 e] at hR
      rw [e2, if_pos rfl]
      rw [← hR] at h
      exact h S1 hI1
    · rw [plF_1 h1 h2 h3] at hR
      have htl := tgt_lt hq m (List.mem_of_getElem? h1)
      rw [h2, if_neg (nI_ne1 (by omega))]
      unfold wp_3_targetOf
      rw [e_get (by omega) (by omega)]
      simp only [Nat.reduceAdd]
      rw [(hm.2 k m h1).2.2.2.2.2]
      refine x_goTo (q := q) hI1.2.2.1 hI1.2.1 (fun S2 f2 k2 e2 h2 => ?_)
      rw [nI_1]
      exact ih (n + 1) (tgt m) (rec q hs) S2 (by omega) htl hR (hI1.go f2 (by decide) (hI1.1.fr f2 (by decide)) e2 h2)
theorem z_playOutL {ρ : Ru} (hr : rok ρ) {tx : List Nat} {M : Nat} (hM : M ≤ 40) {R : Nat × Nat × List Nat} {Q : Int32 → hm_S → hm_T → Prop} (h : ∀ S, IZ (ρ, tx, R.2.1, R.2.2) S T → Q (nI R.1) S T) : ∀ c n q (hs : List Nat) S, n + c = M → q < 2430 → plF ρ c n q hs = R → IZ (ρ, tx, q, hs) S T → S 0 19 = 1 → solM ρ S → mlM (mv ρ q) S → wl_11_playOut_19 Q (c + 1) (nI M) (nI n) S T := by
  intro c
  induction c with
  | zero =>
    intro n q hs S hn hq hR hI h19 hs1 hm
    show wb_11_playOut_19 Q _ _ _ S T
    unfold wb_11_playOut_19
    rw [if_pos (nI_le (by omega) (by omega))]
    have e : R = (n, q, hs) := hR.symm
    rw [e] at h
    exact h S hI
  | succ c ih =>
    intro n q hs S hn hq hR hI h19 hs1 hm
    show wb_11_playOut_19 Q _ _ _ S T
    unfold wb_11_playOut_19
    rw [if_neg (nI_ge (by omega) (by omega)), hm.1]
    rcases bs_cases hr hq with ⟨e, e2⟩ | ⟨k, m, h1, h2, h3⟩
    · rw [plF_0 e] at hR
      rw [e, if_pos (by decide)]
      rw [← hR] at h
      exact h S hI
    · rw [plF_1 h1 h2 h3] at hR
      have htl := tgt_lt hq m (List.mem_of_getElem? h1)
      have hkl := (List.getElem?_eq_some_iff.mp h1).1
      have hl := mv_31 (ρ := ρ) hq
      rw [if_neg (nI_nle (by omega) (by omega))]
      refine z_bestOf hr hq hs1 hm ?_
      refine z_keeps (q := q) hI.2.2.2.2.1 hI.2.2.2.1 (fun S2 f2 hh2 => ?_)
      have e12 : S2 12 k = nI (pM (tgt m)) := by rw [f2.1 12 (by decide)]; exact (hm.2 k m h1).2.2.2.2.2
      rw [h2, nI_clamp (show k < 2 ^ 31 by omega), e12, hm_up_same]
      refine ⟨vp_in_nI (by omega) (by omega), ?_⟩
      have f3 : fr [0] S2 (hm_up S2 0 7 (nI (pM (tgt m)))) := fr.up _ _ _ (by decide)
      have fA : fr [0, 5] S (hm_up S2 0 7 (nI (pM (tgt m)))) := f2.1.tr (f3.mono (by decide))
      have kA : ∀ j, j ≠ 7 → j ≠ 9 → hm_up S2 0 7 (nI (pM (tgt m))) 0 j = S 0 j := fun j a b => by rw [hm_up_col _ _ a, f2.2 j b]
      obtain ⟨a, b, d⟩ := hI.sl fA (by decide) (fun j hj => kA j (by revert j; decide) (by revert j; decide))
      have hI3 : IZ (ρ, tx, tgt m, rec q hs) (hm_up S2 0 7 (nI (pM (tgt m)))) T := ⟨a, b, d, hm_up_same _ _ _ _, hh2.fr0 f3 (by decide) (hm_up_col _ _ (by decide)), hI.2.2.2.2.2.fr0 fA (by decide) (kA 25 (by decide) (by decide))⟩
      have k19 : hm_up S2 0 7 (nI (pM (tgt m))) 0 19 = 1 := by rw [kA 19 (by decide) (by decide), h19]
      have s3 : solM ρ (hm_up S2 0 7 (nI (pM (tgt m)))) := hs1.fr fA (by decide)
      refine z_listsMoves hr htl a b (fun S4 f4 hm4 => ?_)
      have s4 : solM ρ S4 := s3.fr f4.1 (by decide)
      have e19 : S4 0 19 = 1 := by rw [f4.2 19 (by decide) (by decide), k19]
      rw [nI_1]
      exact ih (n + 1) (tgt m) (rec q hs) S4 (by omega) htl hR (hI3.lrn f4.fs (Or.inr ⟨e19, s4⟩)) e19 s4 hm4
noncomputable def r_playOut (s : Sp) (x : Int32) : Int32 × Sp := match idx x 41 with
  | none => (-2, s)
  | some 0 => (-2, s)
  | some (k + 1) => (nI (plF s.1 (k + 1) 0 s.2.2.1 s.2.2.2).1, (s.1, s.2.1, (plF s.1 (k + 1) 0 s.2.2.1 s.2.2.2).2.1, (plF s.1 (k + 1) 0 s.2.2.1 s.2.2.2).2.2))
theorem r_playOut0 {s : Sp} {x : Int32} (e : idx x 41 = none ∨ idx x 41 = some 0) : r_playOut s x = (-2, s) := by
  unfold r_playOut
  rcases e with e | e <;> rw [e]
theorem r_playOut1 {s : Sp} {x : Int32} {k : Nat} (e : idx x 41 = some (k + 1)) : r_playOut s x = (nI (plF s.1 (k + 1) 0 s.2.2.1 s.2.2.2).1, (s.1, s.2.1, (plF s.1 (k + 1) 0 s.2.2.1 s.2.2.2).2.1, (plF s.1 (k + 1) 0 s.2.2.1 s.2.2.2).2.2)) := by
  unfold r_playOut
  rw [e]
theorem ok_playOut {s : Sp} (x : Int32) (ho : okS s) : okS (r_playOut s x).2 := by
  rcases x_arg1 (x := x) (n := 40) (by omega) with ⟨g, e⟩ | ⟨g1, g2, e⟩ | ⟨k, h1, h2, e, n1, n2⟩
  · rw [r_playOut0 e]; exact ho
  · rw [r_playOut0 (Or.inl e)]; exact ho
  · rw [r_playOut1 e]
    exact ⟨ho.1, ho.2.1, plF_ok ho.1 _ _ _ _ ho.2.2.1 ho.2.2.2⟩
theorem X_playOut {s : Sp} (ho : okS s) {S : hm_S} (hI : IX s S) (x : Int32) {Q : Int32 → hm_S → hm_T → Prop} (h : ∀ S', IX (r_playOut s x).2 S' → Q (r_playOut s x).1 S' T) : wp_10_playOut x S T Q := by
  unfold wp_10_playOut
  rcases x_arg1 (x := x) (n := 40) (by omega) with ⟨g, e⟩ | ⟨g1, g2, e⟩ | ⟨k, h1, h2, e, n1, n2⟩
  · rw [r_playOut0 e] at h; rw [if_pos g]; exact h S hI
  · rw [r_playOut0 (Or.inl e)] at h; rw [if_neg g1, q_40, if_neg (Int32.not_le.mpr g2)]; exact h S hI
  · rw [r_playOut1 e] at h
    rw [if_neg n1, q_40, if_pos (Int32.not_lt.mp n2), h2, q_0]
    obtain ⟨ρ, tx, q, hs⟩ := s
    exact ⟨_, x_playOutL ho.1 (by omega) h (k + 1) 0 q hs S (by omega) ho.2.2.1 rfl hI⟩
theorem Z_playOut {s : Sp} (ho : okS s) {S : hm_S} (hI : IZ s S T) (x : Int32) {Q : Int32 → hm_S → hm_T → Prop} (h : ∀ S' T', IZ (r_playOut s x).2 S' T' → Q (r_playOut s x).1 S' T') : wp_11_playOut x S T Q := by
  unfold wp_11_playOut
  rw [q_1, q_40]
  refine z_in1 (by omega) (fun e => ?_) (fun k h1 h2 e => ?_)
  · rw [r_playOut0 e] at h; rw [if_pos rfl]; exact h S T hI
  · rw [r_playOut1 e] at h
    rw [if_neg (by decide)]
    refine z_looks ho.1 hI.1 hI.2.1 hI.2.2.1 ho.2.2.1 hI.2.2.2.1 (fun S1 f1 t1 u1 h19 s1 hm => ?_)
    have hI1 := hI.lrn f1 (Or.inr ⟨h19, s1⟩)
    rw [h2, q_0]
    obtain ⟨ρ, tx, q, hs⟩ := s
    exact ⟨_, z_playOutL ho.1 (by omega) (fun S' hS' => h S' T hS') (k + 1) 0 q hs S1 (by omega) ho.2.2.1 rfl hI1 h19 s1 hm⟩
end PO
