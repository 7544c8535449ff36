/-! ===== the reference: looks, best, good ===== -/
/-- solved or not, but right -/
def cM (ρ : Ru) (S : hm_S) : Prop := S 0 19 = 0 ∨ (S 0 19 = 1 ∧ solM ρ S)
section MB
variable {T : hm_T}
theorem z_looks {ρ : Ru} (hr : rok ρ) {S : hm_S} (ht : tabM S T) (hu : ruM ρ S) (hc : cM ρ S) {q : Nat} (hq : q < 2430) (h7 : S 0 7 = nI (pM q)) {Q : hm_S → hm_T → Prop} (h : ∀ S', fs S S' → tabM S' T → ruM ρ S' → S' 0 19 = 1 → solM ρ S' → mlM (mv ρ q) S' → Q S' T) : wp_11_looks S T Q := by
  unfold wp_11_looks
  refine z_solves hr ht hu hc (fun S1 f1 h19 s1 => ?_)
  rw [f1.2 7 (by decide) (by decide) (by decide), h7]
  refine z_listsMoves hr hq (f1.tab ht) (f1.ru hu) (fun S2 f2 hm => ?_)
  exact h S2 (f1.tr f2.fs) (f2.fs.tab (f1.tab ht)) (f2.fs.ru (f1.ru hu)) (by rw [f2.2 19 (by decide) (by decide), h19]) (s1.fr f2.1 (by decide)) hm
theorem z_bestOf {ρ : Ru} (hr : rok ρ) {q : Nat} (hq : q < 2430) {S : hm_S} (hs : solM ρ S) (hm : mlM (mv ρ q) S) {Q : Int32 → hm_S → hm_T → Prop} (h : Q (bsN ρ q) S T) : wp_11_bestOf S T Q := by
  unfold wp_11_bestOf
  refine z_goal hr hq hs hm ?_
  rw [q_0]
  exact ⟨_, z_bestLoop hr hq hs hm h (mv ρ q).length 0 (-1) (-1) (by omega) (Or.inl rfl) rfl⟩
theorem z_best {ρ : Ru} (hr : rok ρ) {S : hm_S} (ht : tabM S T) (hu : ruM ρ S) (hc : cM ρ S) {q : Nat} (hq : q < 2430) (h7 : S 0 7 = nI (pM q)) {Q : Int32 → hm_S → hm_T → Prop} (h : ∀ S', fs S S' → cM ρ S' → Q (bsN ρ q) S' T) : wp_11_best S T Q := by
  unfold wp_11_best
  exact z_looks hr ht hu hc hq h7 (fun S1 f1 _ _ h19 s1 hm => z_bestOf hr hq s1 hm (h S1 f1 (Or.inr ⟨h19, s1⟩)))
theorem z_good {ρ : Ru} (hr : rok ρ) {S : hm_S} (ht : tabM S T) (hu : ruM ρ S) (hc : cM ρ S) {q : Nat} (hq : q < 2430) (h7 : S 0 7 = nI (pM q)) {Q : Int32 → hm_S → hm_T → Prop} (h : ∀ S', fs S S' → cM ρ S' → Q (nI (gdN ρ q)) S' T) : wp_11_good S T Q := by
  unfold wp_11_good
  refine z_looks hr ht hu hc hq h7 (fun S1 f1 _ _ h19 s1 hm => z_goal hr hq s1 hm ?_)
  rw [q_0]
  exact ⟨_, z_goodLoop hr hq s1 hm (h S1 f1 (Or.inr ⟨h19, s1⟩)) (mv ρ q).length 0 0 (by omega) (by rw [Nat.zero_add, List.drop_zero]; rfl)⟩
end MB
