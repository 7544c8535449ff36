/-! ===== play, both sides ===== -/
section PL
variable {T : hm_T}
/-- x lies in the list of n -/
theorem in_cases (x : Int32) {n : Nat} (hn : n < 2 ^ 31) : (x < 0) ∨ (¬ x < 0 ∧ nI n ≤ x) ∨ ∃ i, i < n ∧ x = nI i := by
  by_cases h0 : x < 0
  · exact Or.inl h0
  · by_cases h1 : nI n ≤ x
    · exact Or.inr (Or.inl ⟨h0, h1⟩)
    · obtain ⟨i, hi, hx⟩ := nI_of h0
      refine Or.inr (Or.inr ⟨i, ?_, hx⟩)
      rcases Nat.lt_or_ge i n with g | g
      · exact g
      · exact absurd (by rw [hx]; exact nI_le g hi) h1
theorem SV.fr {c : List Nat} {ρ : Ru} {S S' : hm_S} (h : SV ρ S) (hf : fr c S S') (hc : ∀ a ∈ [1, 3, 6, 8, 10, 12, 14, 16, 18, 19, 21, 23, 25, 27, 29, 31, 36, 38, 40, 42, 44, 50, 52], a ∉ c) : SV ρ S' := by
  obtain ⟨kn, hx, hs⟩ := h
  have e36 : S' 36 = S 36 := hf 36 (hc 36 (by decide))
  refine ⟨kn, ⟨hx.1.fr hf (fun a ha => hc a ?_), hx.2.1.fr hf (fun a ha => hc a ?_), hx.2.2.1.fr hf (fun a ha => hc a ?_), hx.2.2.2.1.fr hf (fun a ha => hc a ?_) (by rw [e36]), hx.2.2.2.2.fr hf (fun a ha => hc a ?_)⟩, ?_⟩
  · revert a; decide
  · revert a; decide
  · revert a; decide
  · revert a; decide
  · revert a; decide
  · rw [e36]
    rcases hs with e | ⟨e1, e2⟩
    · exact Or.inl e
    · exact Or.inr ⟨e1, e2.fr hf (fun a ha => hc a (by revert a; decide))⟩
theorem SV.fm {ρ : Ru} {S S' : hm_S} (h : SV ρ S) (hf : fm S S') (hl : lcX ρ S') : SV ρ S' := by
  obtain ⟨kn, hx, hs⟩ := h
  have e36 : S' 36 = S 36 := hf 36 (by decide)
  refine ⟨kn, hx.fm hf hl, ?_⟩
  rw [e36]
  rcases hs with e | ⟨e1, e2⟩
  · exact Or.inl e
  · exact Or.inr ⟨e1, e2.fr hf (by decide)⟩
theorem HX.fr {c hs : List Nat} {S S' : hm_S} (h : HX hs S) (hf : fr c S S') (hc : ∀ a ∈ [71, 73], a ∉ c) : HX hs S' := by
  unfold HX
  rw [hf 71 (hc 71 (by decide)), hf 73 (hc 73 (by decide))]
  exact h
/-- the class goes to another position -/
theorem x_goTo {hs : List Nat} {S : hm_S} (hh : HX hs S) {q : Nat} (h9 : S 0 9 = nI q) {p : Nat} {Q : hm_S → hm_T → Prop} (h : ∀ S', fr [0, 71, 73] S S' → (∀ k, k ≠ 9 → S' 0 k = S 0 k) → S' 0 9 = nI p → HX (rec q hs) S' → Q S' T) : wp_10_goTo (nI p) S T Q := by
  unfold wp_10_goTo
  rw [h9]
  refine x_record hh (fun S1 f1 h1 => ?_)
  have f2 : fr [0] S1 (hm_up S1 0 9 (nI p)) := fr.up _ _ _ (by decide)
  exact h _ ((f1.mono (by decide)).tr (f2.mono (by decide))) (fun k hk => by rw [hm_up_col _ _ hk, f1 0 (by decide)]) (hm_up_same _ _ _ _) (h1.fr f2 (by decide))
end PL
