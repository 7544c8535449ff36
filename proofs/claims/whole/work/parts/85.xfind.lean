/-! ===== the class finds the Grundy values, whole ===== -/
def GX (ρ : Ru) (S : hm_S) : Prop := S 61 0 = 0 ∧ (S 59 3 = 0 ∨ (S 59 3 = 1 ∧ (∀ i, i ≤ 60 → S 61 i = nI (gv ρ i)) ∧ S 59 4 = (per ρ).1 ∧ S 59 5 = (per ρ).2))
theorem GX.fr {c : List Nat} {ρ : Ru} {S S' : hm_S} (h : GX ρ S) (hf : fr c S S') (hc : ∀ a ∈ [59, 61], a ∉ c) : GX ρ S' := by
  unfold GX
  rw [hf 59 (hc 59 (by decide)), hf 61 (hc 61 (by decide))]
  exact h
section XGW
variable {T : hm_T}
theorem x_findLoop {ρ : Ru} (hr : rok ρ) {S0 : hm_S} (hu : ruX ρ S0) {Q : hm_S → hm_T → Prop} (h : ∀ S, fr [61, 63] S0 S → (∀ i, i ≤ 60 → S 61 i = nI (gv ρ i)) → wb_0_find_47 Q S T) : ∀ c n S, n + c = 61 → 1 ≤ n → fr [61, 63] S0 S → (∀ i, i < n → S 61 i = nI (gv ρ i)) → (∀ v, v < 512 → ∃ m, m < n ∧ S 63 v = nI m) → wl_0_find_17 Q (c + 1) (nI n) S T := by
  intro c
  induction c with
  | zero =>
    intro n S hn h1 hf hv hm
    show wb_0_find_17 Q _ _ S T
    unfold wb_0_find_17
    rw [q_60, if_pos (nI_lt (by omega) (by omega))]
    exact h S hf (fun i hi => hv i (by omega))
  | succ c ih =>
    intro n S hn h1 hf hv hm
    show wb_0_find_17 Q _ _ S T
    unfold wb_0_find_17 wp_0_reachAllFrom wp_0_leastNotReachedFrom
    rw [q_60, if_neg (nI_nlt (by omega) (by omega)), q_1]
    have hl : ∀ v ∈ grL ρ (gv ρ) n, v < n := grL_lt (fun i _ => gv_le' ρ i)
    refine ⟨_, x_grK hr (by omega) (hu.fr hf (by decide)) hv (F := grL ρ (gv ρ) n) (fun S1 f1 g1 => ?_) (min 10 n) 1 [] S (by omega) (by omega) rfl (fr.rf _ S) (fun v hv' => ⟨fun q => absurd q (by simp), fun _ => hm v hv'⟩)⟩
    rw [q_0]
    refine ⟨_, x_least (by omega) g1 hl (M := gv ρ n) ?_ n 0 (by omega) (gv_s ρ h1).symm⟩
    rw [← q_1, e_set (by omega) (by omega), nI_1]
    simp only [Nat.reduceAdd]
    have f2 : fr [61, 63] S0 (hm_up S1 61 n (nI (gv ρ n))) := (hf.tr (f1.mono (by decide))).tr (fr.up _ _ _ (by decide))
    refine ih (n + 1) _ (by omega) (by omega) f2 (fun i hi => ?_) (fun v hv' => ?_)
    · by_cases e : i = n
      · rw [e, hm_up_same]
      · rw [hm_up_col _ _ e, f1 61 (by decide)]; exact hv i (by omega)
    · rw [hm_up_row _ _ _ (by decide)]
      by_cases q : v ∈ grL ρ (gv ρ) n
      · exact ⟨n, by omega, (g1 v hv').1 q⟩
      · obtain ⟨m, a, b⟩ := (g1 v hv').2 q
        exact ⟨m, by omega, b⟩
theorem x_find {ρ : Ru} (hr : rok ρ) {S : hm_S} (hu : ruX ρ S) (hG : GX ρ S) {Q : hm_S → hm_T → Prop} (h : ∀ S', fr [59, 61, 63] S S' → GX ρ S' → (∀ i, i ≤ 60 → S' 61 i = nI (gv ρ i)) → S' 59 4 = (per ρ).1 → S' 59 5 = (per ρ).2 → Q S' T) : wp_0_find S T Q := by
  obtain ⟨h0, hc⟩ := id hG
  unfold wp_0_find
  rcases hc with e | ⟨e, a, b, d⟩
  · rw [if_pos e]
    refine z_clear (by omega) ?_
    simp only [Nat.reduceAdd]
    have f1 : fr [63] S (hm_fill S 63 512 0) := fr.fill _ _ _ (by decide)
    rw [q_1]
    refine ⟨_, x_findLoop hr (hu.fr f1 (by decide)) (fun S1 f2 hv => ?_) 60 1 _ (by omega) (by omega) (fr.rf _ _) (fun i hi => ?_) (fun v hv => ⟨0, by omega, ?_⟩)⟩
    · unfold wb_0_find_47
      refine x_findPeriod hv (fun i hi => Nat.le_trans (gv_le' ρ i) hi) (fun S2 f3 k3 p4 p5 => ?_)
      have f4 : fr [59] S2 (hm_up S2 59 3 1) := fr.up _ _ _ (by decide)
      have fA : fr [59, 61, 63] S (hm_up S2 59 3 1) := (((f1.mono (by decide)).tr (f2.mono (by decide))).tr (f3.mono (by decide))).tr (f4.mono (by decide))
      have v2 : ∀ i, i ≤ 60 → hm_up S2 59 3 1 61 i = nI (gv ρ i) := by rw [f4 61 (by decide), f3 61 (by decide)]; exact hv
      have q4 : hm_up S2 59 3 1 59 4 = (per ρ).1 := by rw [hm_up_col _ _ (by decide)]; exact p4
      have q5 : hm_up S2 59 3 1 59 5 = (per ρ).2 := by rw [hm_up_col _ _ (by decide)]; exact p5
      exact h _ fA ⟨v2 0 (by omega), Or.inr ⟨hm_up_same _ _ _ _, v2, q4, q5⟩⟩ v2 q4 q5
    · rw [show i = 0 by omega, f1 61 (by decide), h0, gv_0]; rfl
    · simp [hm_fill, hv, n_z]
  · rw [if_neg (by rw [e]; decide)]
    exact h S (fr.rf _ S) hG a b d
theorem x_valueOf {ρ : Ru} (hr : rok ρ) {S : hm_S} (hu : ruX ρ S) (hG : GX ρ S) {n : Nat} (hn : n ≤ 60) {Q : Int32 → hm_S → hm_T → Prop} (h : ∀ S', fr [59, 61, 63] S S' → GX ρ S' → Q (nI (gv ρ n)) S' T) : wp_0_valueOf (nI n) S T Q := by
  unfold wp_0_valueOf
  refine x_find hr hu hG (fun S1 f1 g1 v1 _ _ => ?_)
  rw [e_get (by omega) (by omega)]
  simp only [Nat.reduceAdd]
  rw [v1 n hn]
  exact h S1 f1 g1
theorem x_periodLength {ρ : Ru} (hr : rok ρ) {S : hm_S} (hu : ruX ρ S) (hG : GX ρ S) {Q : Int32 → hm_S → hm_T → Prop} (h : ∀ S', fr [59, 61, 63] S S' → GX ρ S' → Q (per ρ).1 S' T) : wp_0_periodLength S T Q := by
  unfold wp_0_periodLength
  refine x_find hr hu hG (fun S1 f1 g1 v1 p4 _ => ?_)
  rw [p4]
  exact h S1 f1 g1
theorem x_periodStart {ρ : Ru} (hr : rok ρ) {S : hm_S} (hu : ruX ρ S) (hG : GX ρ S) {Q : Int32 → hm_S → hm_T → Prop} (h : ∀ S', fr [59, 61, 63] S S' → GX ρ S' → Q (per ρ).2 S' T) : wp_0_periodStart S T Q := by
  unfold wp_0_periodStart
  refine x_find hr hu hG (fun S1 f1 g1 v1 _ p5 => ?_)
  rw [p5]
  exact h S1 f1 g1
end XGW
