/-! ===== type, the reference ===== -/
section TY2
variable {T : hm_T}
theorem z_type {tx : List Nat} {S : hm_S} (ht : TM tx S) (x : Int32) {Q : Int32 → hm_S → hm_T → Prop} (hno : (x < 0 ∨ ¬ x ≤ 127) → Q (-2) S T) (hfull : ¬ x < 0 → x ≤ 127 → tx.length = 40 → Q (-4) S T) (h : ∀ c, ¬ x < 0 → x ≤ 127 → x = nI c → tx.length < 40 → ∀ S', fr [0, 17] S S' → (∀ k, k ≠ 25 → S' 0 k = S 0 k) → TM (tx ++ [c]) S' → Q (nI (tx.length + 1)) S' T) : wp_11_type x S T Q := by
  obtain ⟨h1, h2, h3⟩ := ht
  unfold wp_11_type wp_11_in
  by_cases g0 : x < 0
  · rw [if_pos g0]; dsimp only; rw [if_pos rfl]; exact hno (Or.inl g0)
  · rw [if_neg g0]
    by_cases g1 : x ≤ 127
    · rw [if_neg (Int32.not_lt.mpr g1)]
      dsimp only
      rw [if_neg (by decide), h1]
      by_cases g2 : tx.length < 40
      · obtain ⟨c, hc, ec⟩ := nI_of g0
        rw [if_neg (by rw [q_40, nI_eq (by omega) (by omega)]; omega), nI_clamp (show tx.length < 2 ^ 31 by omega)]
        refine ⟨vp_in_nI g2 (by omega), ?_⟩
        have e1 : hm_up S 17 tx.length x 0 25 = nI tx.length := by rw [hm_up_row _ _ _ (by decide), h1]
        rw [e1, nI_1, hm_up_same]
        refine h c g0 g1 ec g2 _ ((fr.up _ _ _ (by decide)).tr (fr.up _ _ _ (by decide))) (fun k hk => by rw [hm_up_col _ _ hk, hm_up_row _ _ _ (by decide)]) ⟨by rw [hm_up_same, List.length_append, List.length_singleton], by rw [List.length_append, List.length_singleton]; omega, fun i d hd => ?_⟩
        rw [hm_up_row _ _ _ (by decide)]
        rcases gE_last hd with ⟨b1, b2⟩ | ⟨b1, b2⟩
        · rw [hm_up_col _ _ (by omega)]; exact h3 i d b2
        · rw [b1, b2, hm_up_same, ec]
      · rw [if_pos (by rw [q_40, nI_eq (by omega) (by omega)]; omega)]
        exact hfull g0 g1 (by omega)
    · rw [if_pos (Int32.not_le.mp g1)]; dsimp only; rw [if_pos rfl]; exact hno (Or.inr g1)
end TY2
