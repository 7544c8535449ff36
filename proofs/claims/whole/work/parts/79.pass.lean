/-! ===== setPass and outcomeWith, the rest ===== -/
section SPs
variable {T : hm_T}
theorem x_setPass {q : Nat} (hq : q < 2430) {S : hm_S} (h9 : S 0 9 = nI q) {hs : List Nat} (hh : HX hs S) (x : Int32) {Q : Int32 → hm_S → hm_T → Prop} (h : ∀ S', fr [0, 71, 73] S S' → (∀ k, k ≠ 9 → S' 0 k = S 0 k) → S' 0 9 = nI (wps q (if x = 0 then 0 else 1)) → HX (rec q hs) S' → Q (nI (q % 2)) S' T) : wp_10_setPass x S T Q := by
  have go : ∀ b, (∀ S', fr [0, 71, 73] S S' → (∀ k, k ≠ 9 → S' 0 k = S 0 k) → S' 0 9 = nI (wps q b) → HX (rec q hs) S' → Q (nI (q % 2)) S' T) → wb_10_setPass_25 Q (nI (q % 2)) (nI b) (nI (q / 2)) S T := by
    intro b h'
    unfold wb_10_setPass_25
    rw [e_positionOf]
    exact x_goTo (q := q) hh h9 (fun S' f' k' e' hx' => h' S' f' k' e' hx')
  unfold wp_10_setPass
  rw [h9, e_passOf (by omega), h9, e_layoutOf (by omega)]
  by_cases hx : x = 0
  · rw [if_pos hx]
    rw [if_pos hx] at h
    exact go 0 h
  · rw [if_neg hx]
    rw [if_neg hx] at h
    exact go 1 h
theorem z_outcomeWith {ρ : Ru} (hr : rok ρ) {S : hm_S} (ht : tabM S T) (hu : ruM ρ S) (hc : cM ρ S) {q : Nat} (hq : q < 2430) (h7 : S 0 7 = nI (pM q)) (x : Int32) {Q : Int32 → hm_S → hm_T → Prop} (h : ∀ S', fs S S' → cM ρ S' → Q (nI (oF ρ (wps q (if x = 0 then 0 else 1)))) S' T) : wp_11_outcomeWith x S T Q := by
  unfold wp_11_outcomeWith
  refine z_solves hr ht hu hc (fun S1 f1 h19 s1 => ?_)
  rw [f1.2 7 (by decide) (by decide) (by decide), h7]
  refine z_withPass hq x ?_
  have hb : (if x = 0 then 0 else 1) < 2 := by by_cases e : x = 0 <;> simp [e]
  have hw := wps_lt hq hb
  have hp := pM_lt hw
  rw [nI_clamp (by omega), (s1.2.2 _ hw).1]
  exact ⟨vp_in_nI hp (by omega), h S1 f1 (Or.inr ⟨h19, s1⟩)⟩
end SPs
