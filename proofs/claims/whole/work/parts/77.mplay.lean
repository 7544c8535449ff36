/-! ===== play, the reference ===== -/
section MP
variable {T : hm_T}
theorem z_in {x : Int32} {n : Nat} (hn : n < 2 ^ 31) {S : hm_S} {Q : Int32 → hm_S → hm_T → Prop} (hno : (∀ i, i < n → x ≠ nI i) → Q 0 S T) (h : ∀ i, i < n → x = nI i → Q 1 S T) : wp_11_in x 0 (nI n - 1) S T Q := by
  unfold wp_11_in
  rcases in_cases x hn with g | ⟨g1, g2⟩ | ⟨i, g1, g2⟩
  · rw [if_pos g]
    refine hno (fun i hi e => ?_)
    rw [e] at g
    exact nI_nlt (a := i) (b := 0) (by omega) (by omega) g
  · have hnl : ∀ i, i < n → x ≠ nI i := by
      intro i hi e
      rw [e] at g2
      exact nI_ge hi (by omega) g2
    rw [if_neg g1]
    have hlt : nI n - 1 < x := by
      rcases Nat.eq_zero_or_pos n with e | e
      · rw [e]
        exact Int32.lt_of_lt_of_le (show nI 0 - 1 < (0 : Int32) by decide) (Int32.not_lt.mp g1)
      · obtain ⟨y, rfl⟩ : ∃ y, n = y + 1 := ⟨n - 1, by omega⟩
        rw [nI_pred]
        exact Int32.lt_of_lt_of_le (nI_lt (Nat.lt_succ_self y) hn) g2
    rw [if_pos hlt]
    exact hno hnl
  · obtain ⟨y, rfl⟩ : ∃ y, n = y + 1 := ⟨n - 1, by omega⟩
    rw [nI_pred, g2, if_neg (show ¬ nI i < (0 : Int32) from nI_nlt (a := i) (b := 0) (by omega) (by omega)), if_neg (nI_nlt (by omega) (by omega))]
    exact h i g1 g2
end MP
