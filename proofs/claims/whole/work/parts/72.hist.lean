/-! ===== the history: the latest first, at most 30 ===== -/
theorem n_rem30 {n : Nat} (h : n < 2 ^ 30) : nI n - nI n / 30 * 30 = nI (n % 30) := by
  rw [q_30]
  exact pk_rem (by omega) (by omega) (by omega)
def HX (hs : List Nat) (S : hm_S) : Prop := ∃ n, n < 30 ∧ S 71 1 = nI n ∧ S 71 2 = nI hs.length ∧ hs.length ≤ 30 ∧ ∀ (i q : Nat), hs[i]? = some q → S 73 ((n + 29 - i) % 30) = nI q
def rec (q : Nat) (hs : List Nat) : List Nat := (q :: hs).take 30
theorem rec_len (q : Nat) (hs : List Nat) (h : hs.length ≤ 30) : (rec q hs).length = if hs.length = 30 then 30 else hs.length + 1 := by
  unfold rec
  rw [List.length_take, List.length_cons]
  by_cases e : hs.length = 30
  · rw [if_pos e]; omega
  · rw [if_neg e]; omega
theorem rec_at {q : Nat} {hs : List Nat} {i p : Nat} (h : (rec q hs)[i]? = some p) : (i = 0 ∧ p = q) ∨ ∃ j, i = j + 1 ∧ j < 29 ∧ hs[j]? = some p := by
  unfold rec at h
  have hi : i < 30 := by
    have := (List.getElem?_eq_some_iff.mp h).1
    rw [List.length_take] at this
    omega
  rw [List.getElem?_take_of_lt hi] at h
  cases i with
  | zero => exact Or.inl ⟨rfl, by simpa using h.symm⟩
  | succ j => exact Or.inr ⟨j, rfl, by omega, by simpa using h⟩
section XH
variable {T : hm_T}
theorem x_record {hs : List Nat} {S : hm_S} (hh : HX hs S) {q : Nat} {Q : hm_S → hm_T → Prop} (h : ∀ S', fr [71, 73] S S' → HX (rec q hs) S' → Q S' T) : wp_1_record (nI q) S T Q := by
  obtain ⟨n, h1, h2, h3, h4, h5⟩ := hh
  unfold wp_1_record
  rw [h2, e_set h1 (by omega)]
  simp only [Nat.reduceAdd]
  have a1 : hm_up S 73 n (nI q) 71 1 = nI n := by rw [hm_up_row _ _ _ (by decide), h2]
  rw [a1, nI_1, n_rem30 (by omega)]
  have a2 : hm_up (hm_up S 73 n (nI q)) 71 1 (nI ((n + 1) % 30)) 71 2 = nI hs.length := by rw [hm_up_col _ _ (by decide), hm_up_row _ _ _ (by decide), h3]
  rw [a2, nI_1]
  have a3 : (if (30 : Int32) < nI (hs.length + 1) then (30 : Int32) else nI (hs.length + 1)) = nI (rec q hs).length := by
    rw [rec_len q hs h4]
    by_cases e : hs.length = 30
    · rw [if_pos e, if_pos (by rw [q_30]; exact nI_lt (by omega) (by omega))]; rfl
    · rw [if_neg e, if_neg (by rw [q_30]; exact nI_nlt (by omega) (by omega))]
  rw [a3]
  refine h _ (((fr.up _ _ _ (by decide)).tr (fr.up _ _ _ (by decide))).tr (fr.up _ _ _ (by decide))) ⟨(n + 1) % 30, by omega, ?_, hm_up_same _ _ _ _, ?_, fun i p hp => ?_⟩
  · rw [hm_up_col _ _ (by decide), hm_up_same]
  · rw [rec_len q hs h4]
    by_cases e : hs.length = 30
    · rw [if_pos e]; omega
    · rw [if_neg e]; omega
  · rw [hm_up_row _ _ _ (by decide), hm_up_row _ _ _ (by decide)]
    rcases rec_at hp with ⟨e1, e2⟩ | ⟨j, e1, e2, e3⟩
    · rw [e1, e2, show ((n + 1) % 30 + 29 - 0) % 30 = n by omega, hm_up_same]
    · rw [e1, show ((n + 1) % 30 + 29 - (j + 1)) % 30 = (n + 29 - j) % 30 by omega, hm_up_col _ _ (by omega)]
      exact h5 j p e3
theorem x_takeLatest {q : Nat} {hs : List Nat} {S : hm_S} (hh : HX (q :: hs) S) {Q : Int32 → hm_S → hm_T → Prop} (h : ∀ S', fr [71] S S' → HX hs S' → Q (nI q) S' T) : wp_1_takeLatest S T Q := by
  obtain ⟨n, h1, h2, h3, h4, h5⟩ := hh
  rw [List.length_cons] at h3 h4
  unfold wp_1_takeLatest
  have a0 : nI n + 30 - 1 = nI (n + 29) := by rw [q_30, nI_add, show n + 30 = n + 29 + 1 by omega, nI_pred]
  rw [h2, a0, n_rem30 (by omega)]
  have a1 : hm_up S 71 1 (nI ((n + 29) % 30)) 71 2 = nI (hs.length + 1) := by rw [hm_up_col _ _ (by decide), h3]
  rw [a1, nI_pred]
  have a2 : hm_up (hm_up S 71 1 (nI ((n + 29) % 30))) 71 2 (nI hs.length) 71 1 = nI ((n + 29) % 30) := by rw [hm_up_col _ _ (by decide), hm_up_same]
  rw [a2, e_get (by omega) (by omega)]
  simp only [Nat.reduceAdd]
  have f1 : fr [71] S (hm_up (hm_up S 71 1 (nI ((n + 29) % 30))) 71 2 (nI hs.length)) := (fr.up _ _ _ (by decide)).tr (fr.up _ _ _ (by decide))
  have e0 := h5 0 q (by simp)
  rw [show n + 29 - 0 = n + 29 by omega] at e0
  rw [f1 73 (by decide), e0]
  refine h _ f1 ⟨(n + 29) % 30, by omega, a2, hm_up_same _ _ _ _, by omega, fun i p hp => ?_⟩
  have hi := (List.getElem?_eq_some_iff.mp hp).1
  rw [f1 73 (by decide)]
  have := h5 (i + 1) p (by simpa using hp)
  rwa [show (n + 29 - (i + 1)) % 30 = ((n + 29) % 30 + 29 - i) % 30 by omega] at this
end XH
