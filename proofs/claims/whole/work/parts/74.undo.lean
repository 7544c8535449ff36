/-! ===== undo and outcomeWith, both sides ===== -/
section UN
variable {T : hm_T}
theorem x_undo0 {S : hm_S} (hh : HX [] S) {Q : Int32 → hm_S → hm_T → Prop} (h : Q (-3) S T) : wp_10_undo S T Q := by
  obtain ⟨n, -, -, h3, -⟩ := hh
  unfold wp_10_undo
  rw [if_pos (show S 71 2 = 0 from h3)]
  exact h
theorem x_undo1 {p : Nat} {hs : List Nat} {S : hm_S} (hh : HX (p :: hs) S) {Q : Int32 → hm_S → hm_T → Prop} (h : ∀ S', fr [0, 71] S S' → (∀ k, k ≠ 9 → S' 0 k = S 0 k) → S' 0 9 = nI p → HX hs S' → Q (nI hs.length) S' T) : wp_10_undo S T Q := by
  have hl : S 71 2 = nI (hs.length + 1) ∧ hs.length + 1 ≤ 30 := by
    obtain ⟨n, -, -, h3, h4, -⟩ := hh
    rw [List.length_cons] at h3 h4
    exact ⟨h3, h4⟩
  unfold wp_10_undo
  rw [if_neg (by rw [hl.1, q_0, nI_eq (by omega) (by omega)]; omega)]
  refine x_takeLatest hh (fun S' f' hx => ?_)
  obtain ⟨n, h1, h2, h3, h4, h5⟩ := hx
  have e2 : hm_up S' 0 9 (nI p) 71 2 = nI hs.length := by rw [hm_up_row _ _ _ (by decide), h3]
  rw [e2]
  refine h _ ((f'.mono (by decide)).tr (fr.up _ _ _ (by decide))) (fun k hk => ?_) (hm_up_same _ _ _ _) ⟨n, h1, ?_, e2, h4, ?_⟩
  · rw [hm_up_col _ _ hk, f' 0 (by decide)]
  · rw [hm_up_row _ _ _ (by decide), h2]
  · rw [hm_up_row _ _ _ (by decide)]; exact h5
theorem z_undo0 {S : hm_S} (hh : HM [] S) {Q : Int32 → hm_S → hm_T → Prop} (h : Q (-3) S T) : wp_11_undo S T Q := by
  unfold wp_11_undo
  rw [if_pos (show S 0 9 = 0 from hh.1)]
  exact h
theorem z_undo1 {p : Nat} {hs : List Nat} {S : hm_S} (hh : HM (p :: hs) S) {Q : Int32 → hm_S → hm_T → Prop} (h : ∀ S', fr [0] S S' → (∀ k, k ≠ 9 → k ≠ 7 → S' 0 k = S 0 k) → S' 0 7 = nI (pM p) → HM hs S' → Q (nI hs.length) S' T) : wp_11_undo S T Q := by
  obtain ⟨h1, h2, h3⟩ := hh
  rw [List.length_cons] at h1 h2 h3
  unfold wp_11_undo
  rw [if_neg (by rw [h1, q_0, nI_eq (by omega) (by omega)]; omega), h1, nI_pred, hm_up_same, nI_clamp (show hs.length < 2 ^ 31 by omega), hm_up_row S (i := 0) (a := 5) _ _ (by decide)]
  have e5 : S 5 hs.length = nI (pM p) := by
    have := h3 0 p (by simp)
    rwa [show hs.length + 1 - 1 - 0 = hs.length by omega] at this
  rw [e5]
  refine ⟨vp_in_nI (by omega) (by omega), ?_⟩
  have e9 : hm_up (hm_up S 0 9 (nI hs.length)) 0 7 (nI (pM p)) 0 9 = nI hs.length := by rw [hm_up_col _ _ (by decide), hm_up_same]
  rw [e9]
  refine h _ ((fr.up _ _ _ (by decide)).tr (fr.up _ _ _ (by decide))) (fun k ha hb => by rw [hm_up_col _ _ hb, hm_up_col _ _ ha]) (hm_up_same _ _ _ _) ⟨e9, by omega, fun i q hq => ?_⟩
  have hi := (List.getElem?_eq_some_iff.mp hq).1
  rw [hm_up_row _ _ _ (by decide), hm_up_row _ _ _ (by decide)]
  have := h3 (i + 1) q (by simpa using hq)
  rwa [show hs.length + 1 - 1 - (i + 1) = hs.length - 1 - i by omega] at this
/-- the position with the pass set to b -/
def wps (q b : Nat) : Nat := 2 * (q / 2) + b
theorem wps_lt {q b : Nat} (hq : q < 2430) (hb : b < 2) : wps q b < 2430 := by unfold wps; omega
theorem x_outcomeWith {ρ : Ru} (hr : rok ρ) {S : hm_S} (hS : SV ρ S) {q : Nat} (hq : q < 2430) (h9 : S 0 9 = nI q) (x : Int32) {Q : Int32 → hm_S → hm_T → Prop} (h : ∀ S', fr fX S S' → SV ρ S' → Q (nI (oF ρ (wps q (if x = 0 then 0 else 1)))) S' T) : wp_10_outcomeWith x S T Q := by
  have go : ∀ b, b < 2 → (∀ S', fr fX S S' → SV ρ S' → Q (nI (oF ρ (wps q b))) S' T) → wb_10_outcomeWith_16 Q (nI b) (nI (q / 2)) S T := by
    intro b hb h'
    unfold wb_10_outcomeWith_16 wp_10_learn
    rw [e_positionOf]
    refine x_learn hr hS (wps_lt hq hb) (fun kn S1 f1 hq1 x1 h15 s1 => ?_)
    exact x_outcomeOf x1.2.2.2.1 s1 hq1 (h' S1 f1 ⟨kn, x1, Or.inr ⟨h15, s1⟩⟩)
  unfold wp_10_outcomeWith
  rw [h9, e_layoutOf (by omega)]
  by_cases hx : x = 0
  · rw [if_pos hx]
    rw [if_pos hx] at h
    exact go 0 (by omega) h
  · rw [if_neg hx]
    rw [if_neg hx] at h
    exact go 1 (by omega) h
theorem pM_wps {q b : Nat} (hb : b < 2) : pM (wps q b) = 2 * xpi (q / 2) + b := by
  unfold pM wps
  rw [show (2 * (q / 2) + b) / 2 = q / 2 by omega, show (2 * (q / 2) + b) % 2 = b by omega]
theorem z_withPass {q : Nat} (hq : q < 2430) (x : Int32) {S : hm_S} {Q : Int32 → hm_S → hm_T → Prop} (h : Q (nI (pM (wps q (if x = 0 then 0 else 1)))) S T) : wp_11_withPass (nI (pM q)) x S T Q := by
  have hp := pM_lt hq
  have e : pM q / 2 = xpi (q / 2) := by unfold pM; omega
  unfold wp_11_withPass
  rw [q_2, n_div2 (by omega), e, pk_mul, q_0, q_1, nI_add, nI_add]
  rw [q_0] at h
  by_cases hx : x = nI 0
  · rw [if_pos hx, pM_wps (by omega)] at h
    rw [if_pos hx, Nat.mul_comm]
    exact h
  · rw [if_neg hx, pM_wps (by omega)] at h
    rw [if_neg hx, Nat.mul_comm]
    exact h
end UN
