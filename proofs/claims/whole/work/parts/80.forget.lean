/-! ===== the class forgets its answers ===== -/
section FG
variable {T : hm_T}
theorem x_forgetAnswers {ρ ρ' : Ru} {S0 S : hm_S} (hS : SV ρ S0) (hf : fr [1, 3] S0 S) (hu : ruX ρ' S) {Q : hm_S → hm_T → Prop} (h : ∀ S', fr [19, 36, 38, 59] S S' → S' 59 3 = 0 → SV ρ' S' → Q S' T) : wp_10_forgetAnswers S T Q := by
  obtain ⟨kn, hx, -⟩ := hS
  have ht : tabX S := hx.1.fr hf (by decide)
  have h42 : S 42 0 = nI 0 := by rw [hf 42 (by decide)]; exact hx.2.2.2.2.1 0 (by omega)
  unfold wp_10_forgetAnswers wp_3_forget wp_8_forget wp_0_forget
  refine z_clear (by omega) ?_
  simp only [Nat.reduceAdd]
  have f1 : fr [19] S (hm_up S 19 12 (-1)) := fr.up _ _ _ (by decide)
  have f2 : fr [38] (hm_up S 19 12 (-1)) (hm_fill (hm_up S 19 12 (-1)) 38 2430 0) := fr.fill _ _ _ (by decide)
  have f3 : fr [36] (hm_fill (hm_up S 19 12 (-1)) 38 2430 0) (hm_up (hm_up (hm_fill (hm_up S 19 12 (-1)) 38 2430 0) 36 13 0) 36 15 0) := (fr.up _ _ _ (by decide)).tr (fr.up _ _ _ (by decide))
  have f4 : fr [59] (hm_up (hm_up (hm_fill (hm_up S 19 12 (-1)) 38 2430 0) 36 13 0) 36 15 0) (hm_up (hm_up (hm_up (hm_fill (hm_up S 19 12 (-1)) 38 2430 0) 36 13 0) 36 15 0) 59 3 0) := fr.up _ _ _ (by decide)
  have fa : fr [19, 36, 38, 59] S (hm_up (hm_up (hm_up (hm_fill (hm_up S 19 12 (-1)) 38 2430 0) 36 13 0) 36 15 0) 59 3 0) := (((f1.mono (by decide)).tr (f2.mono (by decide))).tr (f3.mono (by decide))).tr (f4.mono (by decide))
  refine h _ fa (hm_up_same _ _ _ _) ⟨[], ⟨ht.fr fa (by decide), hu.fr fa (by decide), fun q hq e => ?_, ⟨List.nodup_nil, fun q hq => absurd hq (by simp), ?_, fun i q hq => absurd hq (by simp), fun q hq _ => ?_⟩, fun a ha => ?_, fun a b q m h1 => absurd h1 (by simp)⟩, Or.inl ?_⟩
  · rw [f4 19 (by decide), f3 19 (by decide), f2 19 (by decide), hm_up_same] at e
    have g : nI q < 0 := by rw [← e]; decide
    exact absurd g (nI_nlt (a := q) (b := 0) (by omega) (by omega))
  · rw [f4 36 (by decide), hm_up_col _ _ (by decide), hm_up_same]; rfl
  · rw [f4 38 (by decide), f3 38 (by decide)]
    simp [hm_fill, hq]
  · have e : a = 0 := by simpa using ha
    rw [e, fa 42 (by decide), h42]; rfl
  · rw [f4 36 (by decide), hm_up_same]
end FG
