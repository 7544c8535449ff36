/-! ===== the text: type and erase, both sides ===== -/
def TX (tx : List Nat) (S : hm_S) : Prop := S 64 1 = nI tx.length ∧ tx.length ≤ 40 ∧ ∀ (i c : Nat), tx[i]? = some c → S 66 i = nI c
def TM (tx : List Nat) (S : hm_S) : Prop := S 0 25 = nI tx.length ∧ tx.length ≤ 40 ∧ ∀ (i c : Nat), tx[i]? = some c → S 17 i = nI c
section TY
variable {T : hm_T}
theorem x_erase {tx : List Nat} {S : hm_S} (ht : TX tx S) {Q : Int32 → hm_S → hm_T → Prop} (h : ∀ S', fr [64] S S' → TX [] S' → Q (nI tx.length) S' T) : wp_10_erase S T Q := by
  unfold wp_10_erase wp_9_clear
  rw [ht.1]
  exact h _ (fr.up _ _ _ (by decide)) ⟨hm_up_same _ _ _ _, by simp, fun i c hc => absurd hc (by simp)⟩
theorem z_erase {tx : List Nat} {S : hm_S} (ht : TM tx S) {Q : Int32 → hm_S → hm_T → Prop} (h : ∀ S', fr [0] S S' → (∀ k, k ≠ 25 → S' 0 k = S 0 k) → TM [] S' → Q (nI tx.length) S' T) : wp_11_erase S T Q := by
  unfold wp_11_erase
  rw [ht.1]
  exact h _ (fr.up _ _ _ (by decide)) (fun k hk => hm_up_col _ _ hk) ⟨hm_up_same _ _ _ _, by simp, fun i c hc => absurd hc (by simp)⟩
theorem x_type {tx : List Nat} {S : hm_S} (ht : TX tx S) (x : Int32) {Q : Int32 → hm_S → hm_T → Prop} (hno : (x < 0 ∨ ¬ x ≤ 127) → Q (-2) S T) (hfull : ¬ x < 0 → x ≤ 127 → tx.length = 40 → Q (-4) S T) (h : ∀ c, ¬ x < 0 → x ≤ 127 → x = nI c → tx.length < 40 → ∀ S', fr [64, 66] S S' → TX (tx ++ [c]) S' → Q (nI (tx.length + 1)) S' T) : wp_10_type x S T Q := by
  obtain ⟨h1, h2, h3⟩ := ht
  unfold wp_10_type wp_9_append
  by_cases g0 : x < 0
  · rw [if_pos g0]; exact hno (Or.inl g0)
  · rw [if_neg g0]
    by_cases g1 : x ≤ 127
    · rw [if_pos g1, h1]
      by_cases g2 : tx.length < 40
      · obtain ⟨c, hc, ec⟩ := nI_of g0
        rw [if_pos (by rw [q_40]; exact nI_lt g2 (by omega)), e_set g2 (by omega)]
        simp only [Nat.reduceAdd]
        have e1 : hm_up S 66 tx.length x 64 1 = nI tx.length := by rw [hm_up_row _ _ _ (by decide), h1]
        rw [e1, nI_1, hm_up_same]
        refine h c g0 g1 ec g2 _ ((fr.up _ _ _ (by decide)).tr (fr.up _ _ _ (by decide))) ⟨by rw [hm_up_same, List.length_append, List.length_singleton], by rw [List.length_append, List.length_singleton]; omega, fun i d hd => ?_⟩
        rw [hm_up_row _ _ _ (by decide)]
        rcases gE_last hd with ⟨b1, b2⟩ | ⟨b1, b2⟩
        · rw [hm_up_col _ _ (by omega)]; exact h3 i d b2
        · rw [b1, b2, hm_up_same, ec]
      · rw [if_neg (by rw [q_40]; exact nI_nlt (by omega) (by omega))]
        exact hfull g0 g1 (by omega)
    · rw [if_neg g1]; exact hno (Or.inr g1)
end TY
