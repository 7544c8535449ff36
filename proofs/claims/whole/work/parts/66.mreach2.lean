/-! ===== the reference: reachable, outcome, distance ===== -/
def fsr (S S' : hm_S) : Prop := fr [0, 6, 7, 8, 9, 10, 11, 12, 13, 14, 15, 16, 21, 22] S S' ∧ ∀ k, k ≠ 11 → k ≠ 18 → k ≠ 19 → S' 0 k = S 0 k
theorem fsr.rf (S : hm_S) : fsr S S := ⟨fr.rf _ S, fun _ _ _ _ => rfl⟩
theorem fsr.tr {S S' S'' : hm_S} (h : fsr S S') (h' : fsr S' S'') : fsr S S'' := ⟨h.1.tr h'.1, fun k a b c => (h'.2 k a b c).trans (h.2 k a b c)⟩
theorem fs.fsr {S S' : hm_S} (h : fs S S') : fsr S S' := ⟨h.1.mono (by decide), h.2⟩
theorem solM.fr {c : List Nat} {ρ : Ru} {S S' : hm_S} (h : solM ρ S) (hf : fr c S S') (hc : ∀ a ∈ [13, 14, 15, 16], a ∉ c) : solM ρ S' := by
  unfold solM gM
  rw [hf 13 (hc 13 (by decide)), hf 14 (hc 14 (by decide)), hf 15 (hc 15 (by decide)), hf 16 (hc 16 (by decide))]
  exact h
section MR2
variable {T : hm_T}
theorem z_rchClear {Q : Int32 → hm_S → hm_T → Prop} {S0 : hm_S} (h : ∀ S, fr [21, 22] S0 S → (∀ i, i < 2430 → S 21 i = 0) → wb_11_reachable_26 Q S T) : ∀ c i S, i + c = 2430 → fr [21, 22] S0 S → (∀ j, j < i → S 21 j = 0) → wl_11_reachable_6 Q (c + 1) (nI i) S T := by
  intro c
  induction c with
  | zero =>
    intro i S hi hf hz
    show wb_11_reachable_6 Q _ _ S T
    unfold wb_11_reachable_6
    rw [q_2430, if_pos (nI_le (by omega) (by omega))]
    exact h S hf (fun j hj => hz j (by omega))
  | succ c ih =>
    intro i S hi hf hz
    show wb_11_reachable_6 Q _ _ S T
    unfold wb_11_reachable_6
    rw [q_2430, if_neg (nI_ge (by omega) (by omega)), nI_1, nI_clamp (by omega)]
    refine ⟨vp_in_nI (by omega) (by omega), ih (i + 1) _ (by omega) (hf.tr (fr.up _ _ _ (by decide))) (fun j hj => ?_)⟩
    by_cases e : j = i
    · rw [e, hm_up_same]
    · rw [hm_up_col _ _ e]
      exact hz j (by omega)
theorem z_reachable {ρ : Ru} (hr : rok ρ) {S : hm_S} (ht : tabM S T) (hu : ruM ρ S) (hc : S 0 19 = 0 ∨ (S 0 19 = 1 ∧ solM ρ S)) {q : Nat} (hq : q < 2430) (h7 : S 0 7 = nI (pM q)) {Q : Int32 → hm_S → hm_T → Prop} (h : ∀ S', fsr S S' → S' 0 19 = 1 → solM ρ S' → Q (nI (rchN ρ q)) S' T) : wp_11_reachable S T Q := by
  unfold wp_11_reachable
  refine z_solves hr ht hu hc (fun S1 f1 h19 s1 => ?_)
  have hpq := pM_lt hq
  have h7' : S1 0 7 = nI (pM q) := by rw [f1.2 7 (by decide) (by decide) (by decide), h7]
  rw [q_0]
  refine ⟨_, z_rchClear (S0 := S1) (fun S2 f2 z2 => ?_) 2430 0 S1 (by omega) (fr.rf _ S1) (fun j hj => absurd hj (Nat.not_lt_zero j))⟩
  unfold wb_11_reachable_26
  have h7'' : S2 0 7 = nI (pM q) := by rw [f2 0 (by decide), h7']
  have hz : Int32.toNatClampNeg 0 = 0 := rfl
  rw [hm_up_row _ _ _ (by decide), h7'', nI_clamp (show pM q < 2 ^ 31 by omega), hz, q_1]
  refine ⟨vp_in_nI (by omega) (by omega), by rw [q_0]; exact vp_in_nI (by omega) (by omega), ?_⟩
  rw [q_0]
  have f3 : fr [21, 22] S1 (hm_up (hm_up S2 21 (pM q) (nI 1)) 22 0 (nI (pM q))) := (f2.tr (fr.up _ _ _ (by decide))).tr (fr.up _ _ _ (by decide))
  refine ⟨_, z_rchOut s1 hq (fun S' f' => ?_) 2430 0 [q] _ (by omega) rfl f3 ⟨by simp, fun p hp => ?_, fun i p hp => ?_, fun p hp => ?_⟩⟩
  · exact h S' (f1.fsr.tr ⟨f'.mono (by decide), fun k _ _ _ => by rw [f' 0 (by decide)]⟩) (by rw [f' 0 (by decide), h19]) (s1.fr f' (by decide))
  · have e : p = q := by simpa using hp
    rw [e]; exact hq
  · rcases gE_last (l := []) hp with ⟨b1, -⟩ | ⟨b1, b2⟩
    · exact absurd b1 (Nat.not_lt_zero i)
    · rw [b1, b2]; exact hm_up_same _ _ _ _
  · rw [hm_up_row _ _ _ (by decide)]
    by_cases e : p = q
    · rw [e, hm_up_same, if_pos (by simp)]; rfl
    · rw [hm_up_col _ _ (fun g => e (pM_inj hp hq g)), z2 _ (pM_lt hp), if_neg (by simpa using e)]
theorem z_outcome {ρ : Ru} (hr : rok ρ) {S : hm_S} (ht : tabM S T) (hu : ruM ρ S) (hc : S 0 19 = 0 ∨ (S 0 19 = 1 ∧ solM ρ S)) {q : Nat} (hq : q < 2430) (h7 : S 0 7 = nI (pM q)) {Q : Int32 → hm_S → hm_T → Prop} (h : ∀ S', fs S S' → S' 0 19 = 1 → solM ρ S' → Q (nI (oF ρ q)) S' T) : wp_11_outcome S T Q := by
  unfold wp_11_outcome
  refine z_solves hr ht hu hc (fun S1 f1 h19 s1 => ?_)
  have hpq := pM_lt hq
  rw [f1.2 7 (by decide) (by decide) (by decide), h7, nI_clamp (show pM q < 2 ^ 31 by omega), (s1.2.2 q hq).1]
  exact ⟨vp_in_nI (by omega) (by omega), h S1 f1 h19 s1⟩
theorem z_distance {ρ : Ru} (hr : rok ρ) {S : hm_S} (ht : tabM S T) (hu : ruM ρ S) (hc : S 0 19 = 0 ∨ (S 0 19 = 1 ∧ solM ρ S)) {q : Nat} (hq : q < 2430) (h7 : S 0 7 = nI (pM q)) {Q : Int32 → hm_S → hm_T → Prop} (h : ∀ S', fs S S' → S' 0 19 = 1 → solM ρ S' → Q (dI ρ q) S' T) : wp_11_distance S T Q := by
  unfold wp_11_distance
  refine z_solves hr ht hu hc (fun S1 f1 h19 s1 => ?_)
  have hpq := pM_lt hq
  rw [f1.2 7 (by decide) (by decide) (by decide), h7, nI_clamp (show pM q < 2 ^ 31 by omega), (s1.2.2 q hq).2]
  exact ⟨vp_in_nI (by omega) (by omega), h S1 f1 h19 s1⟩
end MR2
