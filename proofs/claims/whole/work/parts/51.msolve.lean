/-! ===== the reference solves ===== -/
def pX (p : Nat) : Nat := 2 * xpv (p / 2) + p % 2
theorem pX_lt {p : Nat} (h : p < 2430) : pX p < 2430 := by
  have := (tq_pi (show p / 2 < 1215 by omega)).2.2.1
  unfold pX
  omega
theorem pM_lt {q : Nat} (h : q < 2430) : pM q < 2430 := by
  have := (tq_pi (show q / 2 < 1215 by omega)).1
  unfold pM
  omega
theorem pM_pX {p : Nat} (h : p < 2430) : pM (pX p) = p := by
  have := (tq_pi (show p / 2 < 1215 by omega)).2.2.2
  unfold pM pX
  rw [show (2 * xpv (p / 2) + p % 2) / 2 = xpv (p / 2) by omega, show (2 * xpv (p / 2) + p % 2) % 2 = p % 2 by omega, this]
  omega
theorem pX_pM {q : Nat} (h : q < 2430) : pX (pM q) = q := by
  have := (tq_pi (show q / 2 < 1215 by omega)).2.1
  unfold pM pX
  rw [show (2 * xpi (q / 2) + q % 2) / 2 = xpi (q / 2) by omega, show (2 * xpi (q / 2) + q % 2) % 2 = q % 2 by omega, this]
  omega
def fs (S S' : hm_S) : Prop := fr [0, 6, 7, 8, 9, 10, 11, 12, 13, 14, 15, 16] S S' ∧ ∀ k, k ≠ 11 → k ≠ 18 → k ≠ 19 → S' 0 k = S 0 k
theorem fs.rf (S : hm_S) : fs S S := ⟨fr.rf _ S, fun _ _ _ _ => rfl⟩
theorem fs.tr {S S' S'' : hm_S} (h : fs S S') (h' : fs S' S'') : fs S S'' := ⟨h.1.tr h'.1, fun k a b c => (h'.2 k a b c).trans (h.2 k a b c)⟩
theorem fb.fs {S S' : hm_S} (h : fb S S') : fs S S' := ⟨h.1.mono (by decide), fun k a b _ => h.2 k a b⟩
theorem fs.up {S : hm_S} {a : Nat} (k : Nat) (v : Int32) (ha : a ∈ [13, 14, 15, 16]) : fs S (hm_up S a k v) := ⟨fr.up S k v (by rcases (show a = 13 ∨ a = 14 ∨ a = 15 ∨ a = 16 by simpa using ha) with e | e | e | e <;> rw [e] <;> decide), fun j _ _ _ => by rw [hm_up_row S _ _ (by rintro rfl; exact absurd ha (by decide))]⟩
theorem fs.of {c : List Nat} {S S' : hm_S} (h : fr c S S') (hc : ∀ a ∈ c, a ∈ [13, 14, 15, 16]) : fs S S' := ⟨h.mono (fun a ha => by rcases (show a = 13 ∨ a = 14 ∨ a = 15 ∨ a = 16 by simpa using hc a ha) with e | e | e | e <;> rw [e] <;> decide), fun k _ _ _ => by rw [h 0 (fun q => absurd (hc 0 q) (by decide))]⟩
theorem fs.tab {S S' : hm_S} {T : hm_T} (h : fs S S') (ht : tabM S T) : tabM S' T := by
  unfold tabM
  rw [h.1 1 (by decide), h.1 2 (by decide)]
  exact ht
theorem fs.ru {ρ : Ru} {S S' : hm_S} (h : fs S S') (hu : ruM ρ S) : ruM ρ S' := by
  unfold ruM
  rw [h.1 4 (by decide), h.2 4 (by decide) (by decide) (by decide), h.2 5 (by decide) (by decide) (by decide), h.2 6 (by decide) (by decide) (by decide)]
  exact hu
def st (ρ : Ru) (p : Nat) : Nat := sumB (fun i => (mv ρ (pX i)).length) p
theorem st_s (ρ : Ru) (p : Nat) : st ρ (p + 1) = st ρ p + (mv ρ (pX p)).length := rfl
theorem st_le {ρ : Ru} : ∀ {p : Nat}, p ≤ 2430 → st ρ p ≤ 31 * p := by
  intro p
  induction p with
  | zero => intro _; exact Nat.le_refl _
  | succ p ih =>
    intro h
    rw [st_s]
    have := ih (by omega)
    have h1 := tq_mvB (pX_lt (show p < 2430 by omega))
    have h2 := mv_len (ρ := ρ) (q := pX p)
    omega
theorem st_mono {ρ : Ru} {a b : Nat} (h : a ≤ b) : st ρ a ≤ st ρ b := by
  induction b with
  | zero => have : a = 0 := by omega
            subst this; exact Nat.le_refl _
  | succ b ih =>
    rcases Nat.lt_or_ge a (b + 1) with q | q
    · have := ih (by omega)
      rw [st_s]
      omega
    · have : a = b + 1 := by omega
      subst this; exact Nat.le_refl _
/-- the moves laid side by side, for the positions below p -/
def gM (ρ : Ru) (p : Nat) (S : hm_S) : Prop := (∀ i, i < p → S 13 i = nI (st ρ i)) ∧ ∀ i j m, i < p → (mv ρ (pX i))[j]? = some m → S 14 (st ρ i + j) = nI (pM (tgt m))
noncomputable def lvI (ρ : Ru) (d q : Nat) : Int32 := if vO ρ d q < 2 then nI (dF ρ q) else -1
def l0 (ρ : Ru) (p : Nat) (S : hm_S) : Prop := ∀ i, i < p → S 15 i = nI (vO ρ 0 (pX i)) ∧ S 16 i = lvI ρ 0 (pX i)
section MS
variable {T : hm_T}
theorem z_copyNext {ρ : Ru} {p : Nat} (hp : p < 2430) {S0 : hm_S} (hm : mlM (mv ρ (pX p)) S0) {Q : hm_S → hm_T → Prop} {K17 : Int32 → Int32 → hm_S → hm_T → Prop} (h : ∀ S', fr [14] S0 S' → (∀ x, x < st ρ p → S' 14 x = S0 14 x) → (∀ j m, (mv ρ (pX p))[j]? = some m → S' 14 (st ρ p + j) = nI (pM (tgt m))) → wb_11_solves_67 Q K17 (nI (st ρ (p + 1))) (nI p) S' T) : ∀ c k, k + c = (mv ρ (pX p)).length → ∀ S, fr [14] S0 S → (∀ x, x < st ρ p → S 14 x = S0 14 x) → (∀ j m, j < k → (mv ρ (pX p))[j]? = some m → S 14 (st ρ p + j) = nI (pM (tgt m))) → wl_11_solves_38 Q K17 (c + 1) (nI (st ρ p + k)) (nI p) (nI k) S T := by
  have hB := st_le (ρ := ρ) (show p + 1 ≤ 2430 by omega)
  have hs := st_s ρ p
  have hmv : (mv ρ (pX p)).length ≤ 31 := Nat.le_trans mv_len (tq_mvB (pX_lt hp))
  intro c
  induction c with
  | zero =>
    intro k hk S hf h1 h2
    show wb_11_solves_38 Q K17 _ _ _ _ S T
    unfold wb_11_solves_38
    rw [hf 0 (by decide), hm.1, if_pos (nI_le (by omega) (by omega)), show st ρ p + k = st ρ (p + 1) by omega]
    exact h S hf h1 (fun j m hj => h2 j m (by have := (List.getElem?_eq_some_iff.mp hj).1; omega) hj)
  | succ c ih =>
    intro k hk S hf h1 h2
    have hkl : k < (mv ρ (pX p)).length := by omega
    obtain ⟨m, hm2⟩ : ∃ m, (mv ρ (pX p))[k]? = some m := ⟨_, List.getElem?_eq_getElem hkl⟩
    have h12 : S 12 k = nI (pM (tgt m)) := by rw [hf 12 (by decide)]; exact (hm.2 k m hm2).2.2.2.2.2
    show wb_11_solves_38 Q K17 _ _ _ _ S T
    unfold wb_11_solves_38
    rw [hf 0 (by decide), hm.1, if_neg (nI_ge hkl (by omega)), nI_clamp (by omega), nI_clamp (by omega), h12, nI_1, nI_1]
    refine ⟨vp_in_nI (by omega) (by omega), vp_in_nI (by omega) (by omega), ?_⟩
    refine ih (k + 1) (by omega) _ (hf.tr (fr.up S _ _ (by decide))) (fun x hx => by rw [hm_up_col S _ (by omega)]; exact h1 x hx) (fun j m' hj hj2 => ?_)
    by_cases e : j = k
    · rw [e, hm_up_same]
      rw [e, hm2] at hj2
      cases hj2
      rfl
    · rw [hm_up_col S _ (by omega)]
      exact h2 j m' (by omega) hj2
theorem lv0 {ρ : Ru} {q : Nat} : lvI ρ 0 q = if vO ρ 0 q < 2 then 0 else -1 := by
  unfold lvI
  by_cases h : vO ρ 0 q < 2
  · rw [if_pos h, if_pos h, dF_eq h (fun e he => absurd he (Nat.not_lt_zero e))]; rfl
  · rw [if_neg h, if_neg h]
theorem z_solve1 {ρ : Ru} (hr : rok ρ) {S0 : hm_S} (ht0 : tabM S0 T) (hu0 : ruM ρ S0) (h19 : S0 0 19 = 1) {Q : hm_S → hm_T → Prop} (h : ∀ S', fs S0 S' → S' 0 19 = 1 → gM ρ 2430 S' → l0 ρ 2430 S' → wb_11_solves_120 Q (nI (st ρ 2430)) S' T) : ∀ c p, p + c = 2430 → ∀ S, fs S0 S → S 0 19 = 1 → gM ρ p S → l0 ρ p S → wl_11_solves_17 Q (c + 1) (nI (st ρ p)) (nI p) S T := by
  intro c
  induction c with
  | zero =>
    intro p hp S hf h1 hg hl
    show wb_11_solves_17 Q _ _ _ S T
    unfold wb_11_solves_17
    have e : p = 2430 := by omega
    rw [e] at hg hl ⊢
    rw [if_pos (by rw [q_2430]; exact nI_le (Nat.le_refl _) (by omega))]
    exact h S hf h1 hg hl
  | succ c ih =>
    intro p hp S hf h1 hg hl
    have hp1 : p < 2430 := by omega
    have hB := st_le (ρ := ρ) (show p + 1 ≤ 2430 by omega)
    have hss := st_s ρ p
    show wb_11_solves_17 Q _ _ _ S T
    unfold wb_11_solves_17
    rw [if_neg (by rw [q_2430]; exact nI_ge hp1 (by omega)), nI_clamp (by omega)]
    refine ⟨vp_in_nI (by omega) (by omega), ?_⟩
    have fA : fs S (hm_up S 13 p (nI (st ρ p))) := fs.up _ _ (by decide)
    rw [show nI p = nI (pM (pX p)) by rw [pM_pX hp1]]
    refine z_listsMoves hr (pX_lt hp1) ((hf.tr fA).tab ht0) ((hf.tr fA).ru hu0) (fun S2 f2 m2 => ?_)
    rw [pM_pX hp1]
    have fS2 : fs S0 S2 := (hf.tr fA).tr f2.fs
    have r19 : S2 0 19 = 1 := by rw [f2.2 19 (by decide) (by decide), hm_up_row S _ _ (by decide)]; exact h1
    have r13 : S2 13 = hm_up S 13 p (nI (st ρ p)) 13 := f2.1 13 (by decide)
    have r14 : S2 14 = S 14 := by rw [f2.1 14 (by decide), hm_up_row S _ _ (by decide)]
    have r15 : S2 15 = S 15 := by rw [f2.1 15 (by decide), hm_up_row S _ _ (by decide)]
    have r16 : S2 16 = S 16 := by rw [f2.1 16 (by decide), hm_up_row S _ _ (by decide)]
    refine ⟨(mv ρ (pX p)).length + 1, z_copyNext hp1 m2 (fun S3 f3 a1 a2 => ?_) _ 0 (by omega) S2 (fr.rf _ S2) (fun _ _ => rfl) (fun j m hj => absurd hj (Nat.not_lt_zero j))⟩
    have fS3 : fs S0 S3 := fS2.tr (fs.of f3 (by decide))
    have h18 : S3 0 18 = nI (mv ρ (pX p)).length := by rw [f3 0 (by decide)]; exact m2.1
    have h6 : S3 0 6 = nI ρ.2.2.2 := (fS3.ru hu0).2.2.2
    have hmv : (mv ρ (pX p)).length ≤ 31 := Nat.le_trans mv_len (tq_mvB (pX_lt hp1))
    have hmi := hr.2.2.2
    have v := vp_in_nI (n := p) (N := 2430) hp1 (by omega)
    -- the end of a position
    have fin : ∀ (z w : Int32), z = nI (vO ρ 0 (pX p)) → w = lvI ρ 0 (pX p) → wl_11_solves_17 Q (c + 1) (nI (st ρ (p + 1))) (nI p + 1) (hm_up (hm_up S3 15 p z) 16 p w) T := by
      intro z w hz hw
      rw [nI_1]
      refine ih (p + 1) (by omega) _ (fS3.tr ((fs.up _ _ (by decide)).tr (fs.up _ _ (by decide)))) ?_ ⟨fun i hi => ?_, fun i j m hi hj => ?_⟩ (fun i hi => ?_)
      · rw [hm_up_row _ _ _ (by decide), hm_up_row _ _ _ (by decide), f3 0 (by decide)]; exact r19
      · rw [hm_up_row _ _ _ (by decide), hm_up_row _ _ _ (by decide), f3 13 (by decide), r13]
        by_cases e : i = p
        · rw [e, hm_up_same]
        · rw [hm_up_col S _ e]; exact hg.1 i (by omega)
      · rw [hm_up_row _ _ _ (by decide), hm_up_row _ _ _ (by decide)]
        by_cases e : i = p
        · rw [e] at hj ⊢
          exact a2 j m hj
        · have hjl := (List.getElem?_eq_some_iff.mp hj).1
          have hst : st ρ i + j < st ρ p := by
            have h1 := st_s ρ i
            have h2 := st_mono (ρ := ρ) (show i + 1 ≤ p by omega)
            omega
          rw [a1 _ hst, r14]
          exact hg.2 i j m (by omega) hj
      · by_cases e : i = p
        · rw [e]
          refine ⟨?_, ?_⟩
          · rw [hm_up_row _ _ _ (by decide), hm_up_same, hz]
          · rw [hm_up_same, hw]
        · refine ⟨?_, ?_⟩
          · rw [hm_up_row _ _ _ (by decide), hm_up_col _ _ e, f3 15 (by decide), r15]
            exact (hl i (by omega)).1
          · rw [hm_up_col _ _ e, hm_up_row _ _ _ (by decide), f3 16 (by decide), r16]
            exact (hl i (by omega)).2
    have t95 : ∀ z : Int32, z = nI (vO ρ 0 (pX p)) → wb_11_solves_95 Q (wl_11_solves_17 Q (c + 1)) (nI (st ρ (p + 1))) (nI p) z (nI p) S3 T := by
      intro z hz
      unfold wb_11_solves_95 wb_11_solves_113
      rw [nI_clamp (by omega), hm_up_row S3 _ _ (show (0 : Nat) ≠ 15 by decide), h18]
      refine ⟨v, ?_⟩
      by_cases hz0 : (mv ρ (pX p)).length = 0
      · rw [if_pos (by rw [hz0]; decide)]
        refine ⟨v, fin z 0 hz ?_⟩
        rw [lv0, if_pos (by simp only [vO, if_pos hz0]; omega)]
      · rw [if_neg (by rw [q_0]; exact nI_ge (by omega) (by omega))]
        refine ⟨v, fin z (-1) hz ?_⟩
        rw [lv0, if_neg (by simp only [vO, if_neg hz0]; omega)]
    unfold wb_11_solves_67
    rw [h18, h6]
    by_cases hz0 : (mv ρ (pX p)).length = 0
    · rw [if_pos (by rw [hz0]; decide)]
      have e0 : vO ρ 0 (pX p) = ρ.2.2.2 := by simp only [vO, if_pos hz0]
      rcases (show ρ.2.2.2 = 0 ∨ ρ.2.2.2 = 1 by omega) with e | e
      · rw [if_pos (by rw [e]; rfl)]
        exact t95 0 (by rw [e0, e]; rfl)
      · rw [if_neg (by rw [e]; decide)]
        exact t95 1 (by rw [e0, e]; rfl)
    · rw [if_neg (by rw [q_0]; exact nI_ge (by omega) (by omega))]
      exact t95 2 (by simp only [vO, if_neg hz0]; rfl)
end MS
