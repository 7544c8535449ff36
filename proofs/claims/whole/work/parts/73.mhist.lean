/-! ===== the reference's history ===== -/
def HM (hs : List Nat) (S : hm_S) : Prop := S 0 9 = nI hs.length ∧ hs.length ≤ 30 ∧ ∀ (i q : Nat), hs[i]? = some q → S 5 (hs.length - 1 - i) = nI (pM q)
/-- only the history has changed -/
def fh (S S' : hm_S) : Prop := fr [0, 5] S S' ∧ ∀ k, k ≠ 9 → S' 0 k = S 0 k
section MH
variable {T : hm_T}
theorem z_shift {S0 : hm_S} {Q : hm_S → hm_T → Prop} (h : ∀ S, fr [5] S0 S → (∀ j, j < 29 → S 5 j = S0 5 (j + 1)) → wb_11_keeps_37 Q S T) : ∀ c x S, x + 1 + c = 30 → fr [5] S0 S → (∀ j, j < x → S 5 j = S0 5 (j + 1)) → (∀ j, x ≤ j → S 5 j = S0 5 j) → wl_11_keeps_11 Q (c + 1) (nI (x + 1)) S T := by
  intro c
  induction c with
  | zero =>
    intro x S hx hf h1 h2
    show wb_11_keeps_11 Q _ _ S T
    unfold wb_11_keeps_11
    rw [if_pos (by rw [q_30]; exact nI_le (by omega) (by omega))]
    exact h S hf (fun j hj => h1 j (by omega))
  | succ c ih =>
    intro x S hx hf h1 h2
    show wb_11_keeps_11 Q _ _ S T
    unfold wb_11_keeps_11
    rw [if_neg (by rw [q_30]; exact nI_ge (by omega) (by omega)), nI_pred, nI_clamp (show x < 2 ^ 31 by omega), nI_clamp (show x + 1 < 2 ^ 31 by omega), nI_1]
    refine ⟨vp_in_nI (by omega) (by omega), vp_in_nI (by omega) (by omega), ih (x + 1) _ (by omega) (hf.tr (fr.up _ _ _ (by decide))) (fun j hj => ?_) (fun j hj => ?_)⟩
    · by_cases e : j = x
      · rw [e, hm_up_same]; exact h2 (x + 1) (by omega)
      · rw [hm_up_col _ _ e]; exact h1 j (by omega)
    · rw [hm_up_col _ _ (by omega)]; exact h2 j (by omega)
theorem z_keeps {hs : List Nat} {S : hm_S} (hh : HM hs S) {q : Nat} (h7 : S 0 7 = nI (pM q)) {Q : hm_S → hm_T → Prop} (h : ∀ S', fh S S' → HM (rec q hs) S' → Q S' T) : wp_11_keeps S T Q := by
  obtain ⟨h1, h2, h3⟩ := hh
  -- the write, once there is room
  have wr : ∀ n S1, n < 30 → fh S S1 → S1 0 9 = nI n → (rec q hs).length = n + 1 → (∀ (j p : Nat), j < 29 → hs[j]? = some p → j < n → S1 5 (n - 1 - j) = nI (pM p)) → wb_11_keeps_47 Q S1 T := by
    intro n S1 hn f1 e1 e2 e3
    unfold wb_11_keeps_47
    have a1 : S1 0 7 = nI (pM q) := by rw [f1.2 7 (by decide), h7]
    rw [e1, nI_clamp (show n < 2 ^ 31 by omega), a1]
    refine ⟨vp_in_nI hn (by omega), ?_⟩
    rw [hm_up_row _ _ _ (by decide), e1, nI_1]
    refine h _ ⟨(f1.1.tr (fr.up _ _ _ (by decide))).tr (fr.up _ _ _ (by decide)), fun k hk => ?_⟩ ⟨by rw [hm_up_same, e2], by omega, fun i p hp => ?_⟩
    · rw [hm_up_col _ _ hk, hm_up_row _ _ _ (by decide), f1.2 k hk]
    · have hi := (List.getElem?_eq_some_iff.mp hp).1
      rw [hm_up_row _ _ _ (by decide), e2]
      rcases rec_at hp with ⟨g1, g2⟩ | ⟨j, g1, g2, g3⟩
      · rw [g1, g2, show n + 1 - 1 - 0 = n by omega, hm_up_same]
      · rw [g1, hm_up_col _ _ (by omega), show n + 1 - 1 - (j + 1) = n - 1 - j by omega]
        exact e3 j p g2 g3 (by omega)
  unfold wp_11_keeps
  rw [h1]
  by_cases e : hs.length = 30
  · rw [if_pos (by rw [e]; rfl)]
    have st : (1 : Int32) = nI (0 + 1) := rfl
    rw [st]
    refine ⟨_, z_shift (S0 := S) (fun S1 f1 hsh => ?_) 29 0 S (by omega) (fr.rf _ S) (fun j hj => absurd hj (Nat.not_lt_zero j)) (fun j _ => rfl)⟩
    unfold wb_11_keeps_37
    have b1 : S1 0 9 - 1 = nI 29 := by rw [f1 0 (by decide), h1, e]; exact nI_pred 29
    rw [b1]
    refine wr 29 _ (by omega) ⟨(f1.mono (by decide)).tr (fr.up _ _ _ (by decide)), fun k hk => by rw [hm_up_col _ _ hk, f1 0 (by decide)]⟩ (hm_up_same _ _ _ _) (by rw [rec_len q hs h2, if_pos e]) (fun j p hj hp _ => ?_)
    rw [hm_up_row _ _ _ (by decide), hsh _ (by omega)]
    have := h3 j p hp
    rwa [e, show 30 - 1 - j = 29 - 1 - j + 1 by omega] at this
  · rw [if_neg (by rw [q_30, nI_eq (by omega) (by omega)]; exact e)]
    exact wr hs.length S (by omega) ⟨fr.rf _ S, fun _ _ => rfl⟩ h1 (by rw [rec_len q hs h2, if_neg e]) (fun j p _ hp _ => h3 j p hp)
end MH
