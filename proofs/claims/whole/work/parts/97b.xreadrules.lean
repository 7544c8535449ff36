/-! ===== readRules, the class ===== -/
def nzN (l : List Nat) : Nat := sumB (fun i => if dgF l (i + 1) = 0 then 0 else 1) 10
def r_readRules (s : Sp) : Int32 × Sp := if (rdR s.2.1).1 = -1 then (nI (nzN (rdR s.2.1).2), ((dgF (rdR s.2.1).2, s.1.2), [], s.2.2.1, s.2.2.2)) else (-2000 - (rdR s.2.1).1, s)
theorem ok_readRules {s : Sp} (ho : okS s) : okS (r_readRules s).2 := by
  unfold r_readRules
  by_cases e : (rdR s.2.1).1 = -1
  · rw [if_pos e]
    exact ⟨⟨fun k => dgF_lt (rdR_lt _) k, ho.1.2⟩, fun c hc => absurd hc (by simp), ho.2.2⟩
  · rw [if_neg e]; exact ho
section RXX
variable {T : hm_T}
theorem X_readRules {s : Sp} (ho : okS s) {S : hm_S} (hI : IX s S) {Q : Int32 → hm_S → hm_T → Prop} (h : ∀ S', IX (r_readRules s).2 S' → Q (r_readRules s).1 S' T) : wp_10_readRules S T Q := by
  obtain ⟨ρ, tx, q, hs⟩ := s
  have htx : TX tx S := hI.2.2.2.1
  unfold r_readRules at h
  unfold wp_10_readRules
  refine x_rdR ho.2.1 htx (fun S1 f1 t1 d1 => ?_)
  replace h : ∀ S', IX (if (rdR tx).1 = -1 then (nI (nzN (rdR tx).2), ((dgF (rdR tx).2, ρ.2), [], q, hs)) else (-2000 - (rdR tx).1, (ρ, tx, q, hs)) : Int32 × Sp).2 S' → Q (if (rdR tx).1 = -1 then (nI (nzN (rdR tx).2), ((dgF (rdR tx).2, ρ.2), [], q, hs)) else (-2000 - (rdR tx).1, (ρ, tx, q, hs)) : Int32 × Sp).1 S' T := h
  by_cases e : (rdR tx).1 = -1
  · rw [if_pos e] at h ⊢
    have dl := d1 e
    have l8 := rdR_lt tx
    generalize (rdR tx).2 = l at h dl l8
    have hu : ruX ρ S := hI.1.ru
    have key : ∀ c i S2, i + c = 10 → fr [3] S1 S2 → (∀ j, 1 ≤ j → j ≤ i → S2 3 j = nI (dgF l j)) → wl_10_readRules_27 Q (c + 1) (nI (sumB (fun i => if dgF l (i + 1) = 0 then 0 else 1) i)) (nI (i + 1)) S2 T := by
      intro c
      induction c with
      | zero =>
        intro i S2 hi f2 hd
        show wb_10_readRules_27 Q _ _ _ S2 T
        unfold wb_10_readRules_27 wb_10_readRules_72 wp_9_clear
        rw [q_10, if_pos (nI_lt (by omega) (by omega)), show i = 10 by omega]
        have f3 : fr [64] S2 (hm_up S2 64 1 0) := fr.up _ _ _ (by decide)
        have fA : fr [3, 64, 69] S (hm_up S2 64 1 0) := ((f1.mono (by decide)).tr (f2.mono (by decide))).tr (f3.mono (by decide))
        generalize hS3 : hm_up S2 64 1 0 = S3 at f3 fA ⊢
        have g1 : fr [64, 69] S (fun a => if a = 3 then S 3 else S3 a) := by
          intro a ha
          by_cases w : a = 3
          · subst w; rfl
          · simp only [if_neg w]
            refine fA a (fun q => ?_)
            rcases List.mem_cons.mp q with k | k
            · exact w k
            · exact ha k
        have g2 : fr [1, 3] (fun a => if a = 3 then S 3 else S3 a) S3 := by
          intro a ha
          have w : a ≠ 3 := fun k => ha (by rw [k]; decide)
          simp only [if_neg w]
        have sv0 : SV ρ (fun a => if a = 3 then S 3 else S3 a) := hI.1.fr g1 (by decide)
        have hu3 : ruX (dgF l, ρ.2) S3 := by
          refine ⟨fun k h1 h2 => ?_, ?_⟩
          · rw [f3 3 (by decide)]; exact hd k h1 (by omega)
          · rw [fA 1 (by decide)]; exact hu.2
        refine x_forgetAnswers sv0 g2 hu3 (fun S4 f4 e4 s4 => ?_)
        have fB : fr [3, 64, 69, 19, 36, 38, 59] S S4 := (fA.mono (by decide)).tr (f4.mono (by decide))
        have a64 : S4 64 1 = 0 := by rw [f4 64 (by decide), ← hS3, hm_up_same]
        exact h S4 ⟨s4, by rw [fB 0 (by decide)]; exact hI.2.1, hI.2.2.1.fr fB (by decide), ⟨a64, by simp, fun i c hc => absurd hc (by simp)⟩, by rw [fB 61 (by decide)]; exact hI.2.2.2.2.1, Or.inl e4⟩
      | succ c ih =>
        intro i S2 hi f2 hd
        have h8 := dgF_lt l8 (i + 1)
        have e69 : S2 69 (i + 1) = nI (dgF l (i + 1)) := by rw [f2 69 (by decide)]; exact dl (i + 1) (by omega) (by omega)
        show wb_10_readRules_27 Q _ _ _ S2 T
        unfold wb_10_readRules_27 wb_10_readRules_64 wp_7_digitOf wp_6_changeDigit
        rw [q_10, if_neg (nI_nlt (by omega) (by omega)), e_get (by omega) (by omega)]
        dsimp only
        rw [e_set (by omega) (by omega)]
        simp only [Nat.reduceAdd]
        rw [e69, nI_1 (i + 1)]
        have nx := ih (i + 1) (hm_up S2 3 (i + 1) (nI (dgF l (i + 1)))) (by omega) (f2.tr (fr.up _ _ _ (by decide))) (fun j h1 h2 => by
          by_cases w : j = i + 1
          · rw [w, hm_up_same]
          · rw [hm_up_col _ _ w]; exact hd j h1 (by omega))
        have es : sumB (fun i => if dgF l (i + 1) = 0 then 0 else 1) (i + 1) = sumB (fun i => if dgF l (i + 1) = 0 then 0 else 1) i + (if dgF l (i + 1) = 0 then 0 else 1) := rfl
        rw [es] at nx
        by_cases w : dgF l (i + 1) = 0
        · rw [if_pos w] at nx
          rw [if_pos (show nI (dgF l (i + 1)) = 0 by rw [w]; rfl), q_0, nI_add]; exact nx
        · rw [if_neg w] at nx
          rw [if_neg (nI_ne0 (by omega) (by omega)), nI_1]; exact nx
    rw [q_0, q_1]
    exact ⟨_, key 10 0 S1 (by omega) (fr.rf _ S1) (fun j h1 h2 => absurd h2 (by omega))⟩
  · rw [if_neg e] at h ⊢
    exact h S1 ⟨hI.1.fr f1 (by decide), by rw [f1 0 (by decide)]; exact hI.2.1, hI.2.2.1.fr f1 (by decide), t1, hI.2.2.2.2.fr f1 (by decide)⟩
end RXX
