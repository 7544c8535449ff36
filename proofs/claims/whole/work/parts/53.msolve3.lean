theorem lm_next {ρ : Ru} {d : Nat} {S : hm_S} (h : lm ρ d 2430 S) : lm ρ (d + 1) 0 S := by
  intro i hi
  have h1 := h i hi
  have e1 : lvA d 2430 i = d + 1 := by unfold lvA; rw [if_pos hi]
  have e2 : lvA (d + 1) 0 i = d + 1 := by unfold lvA; rw [if_neg (Nat.not_lt_zero i)]
  rw [e1] at h1
  rw [e2]
  exact h1
theorem gM.fr {ρ : Ru} {p : Nat} {S S' : hm_S} (h : gM ρ p S) (hf : fr [15, 16] S S') : gM ρ p S' := by
  unfold gM
  rw [hf 13 (by decide), hf 14 (by decide)]
  exact h
/-- the reference is solved -/
def solM (ρ : Ru) (S : hm_S) : Prop := gM ρ 2430 S ∧ S 13 2430 = nI (st ρ 2430) ∧ ∀ q, q < 2430 → S 15 (pM q) = nI (oF ρ q) ∧ S 16 (pM q) = dI ρ q
section MZ
variable {T : hm_T}
theorem z_pass1 {ρ : Ru} (hr : rok ρ) {d : Nat} (hd : d < 2 ^ 30) {S0 : hm_S} (hg0 : gM ρ 2430 S0) (h130 : S0 13 2430 = nI (st ρ 2430)) {Q : hm_S → hm_T → Prop} {K133 : Int32 → Int32 → hm_S → hm_T → Prop} (h : ∀ S' w, fr [15, 16] S0 S' → lm ρ d 2430 S' → w < 2 → (w = 1 ↔ ∃ i, i < 2430 ∧ ¬ vO ρ d (pX i) < 2 ∧ vO ρ (d + 1) (pX i) < 2) → K133 (nI w) (nI (d + 2)) S' T) : ∀ c p w S, p + c = 2430 → w < 2 → (w = 1 ↔ ∃ i, i < p ∧ ¬ vO ρ d (pX i) < 2 ∧ vO ρ (d + 1) (pX i) < 2) → fr [15, 16] S0 S → lm ρ d p S → wl_11_solves_142 Q K133 (c + 1) (nI w) (nI (d + 1)) (nI p) S T := by
  intro c
  induction c with
  | zero =>
    intro p w S hp hw hW hf hm
    show wb_11_solves_142 Q K133 _ _ _ _ S T
    unfold wb_11_solves_142 wb_11_solves_176
    have e : p = 2430 := by omega
    subst e
    rw [if_pos (by rw [q_2430]; exact nI_le (Nat.le_refl _) (by omega)), nI_1]
    exact h S w hf hm hw hW
  | succ c ih =>
    intro p w S hp hw hW hf hm
    have hp1 : p < 2430 := by omega
    show wb_11_solves_142 Q K133 _ _ _ _ S T
    unfold wb_11_solves_142 wb_11_solves_164 wb_11_solves_169
    rw [if_neg (by rw [q_2430]; exact nI_ge hp1 (by omega))]
    refine z_decides hr hd hp1 (hg0.fr hf) (by rw [hf 13 (by decide)]; exact h130) hm (fun S' f' m' => ?_)
    have next : ∀ w', w' < 2 → (w' = 1 ↔ w = 1 ∨ (¬ vO ρ d (pX p) < 2 ∧ vO ρ (d + 1) (pX p) < 2)) → ∀ x : Int32, x = nI w' → wl_11_solves_142 Q K133 (c + 1) x (nI (d + 1)) (nI p + 1) S' T := by
      intro w' a1 a2 x hx
      rw [hx, nI_1]
      refine ih (p + 1) w' S' (by omega) a1 ?_ (hf.tr f') m'
      rw [a2, hW]
      constructor
      · rintro (⟨i, hi, hc⟩ | hc)
        · exact ⟨i, by omega, hc⟩
        · exact ⟨p, by omega, hc⟩
      · rintro ⟨i, hi, hc⟩
        rcases Nat.lt_or_ge i p with q | q
        · exact Or.inl ⟨i, q, hc⟩
        · have : i = p := by omega
          rw [this] at hc
          exact Or.inr hc
    by_cases hc : ¬ vO ρ d (pX p) < 2 ∧ vO ρ (d + 1) (pX p) < 2
    · rw [if_pos hc, if_neg (by decide)]
      exact next 1 (by omega) ⟨fun _ => Or.inr hc, fun _ => rfl⟩ 1 rfl
    · rw [if_neg hc, if_pos rfl]
      rcases (show w = 0 ∨ w = 1 by omega) with e | e
      · rw [if_pos (by rw [e]; rfl)]
        exact next 0 (by omega) ⟨fun q => absurd q (by decide), fun q => by rcases q with q | q; omega; exact absurd q hc⟩ 0 rfl
      · rw [if_neg (by rw [e]; decide)]
        exact next 1 (by omega) ⟨fun _ => Or.inl e, fun _ => rfl⟩ 1 rfl
theorem z_levels {ρ : Ru} (hr : rok ρ) {S0 : hm_S} (hg0 : gM ρ 2430 S0) (h130 : S0 13 2430 = nI (st ρ 2430)) {Q : hm_S → hm_T → Prop} (h : ∀ S', fr [15, 16] S0 S' → solM ρ S' → Q S' T) : ∀ n d S, uD ρ d ≤ n → d + uD ρ d ≤ 2430 → fr [15, 16] S0 S → lm ρ d 0 S → wl_11_solves_133 Q (n + 2) 1 (nI (d + 1)) S T := by
  intro n
  -- one pass, and then either the end or the rest
  have pass : ∀ (f : Nat) (d : Nat) (S : hm_S), d + uD ρ d ≤ 2430 → fr [15, 16] S0 S → lm ρ d 0 S → (∀ S', uD ρ (d + 1) < uD ρ d → fr [15, 16] S0 S' → lm ρ (d + 1) 0 S' → wl_11_solves_133 Q (f + 1) 1 (nI (d + 2)) S' T) → wl_11_solves_133 Q (f + 2) 1 (nI (d + 1)) S T := by
    intro f d S hd hf hm hrec
    have hul := uD_le ρ d
    show wb_11_solves_133 Q _ _ _ S T
    unfold wb_11_solves_133
    rw [if_neg (by decide), q_0]
    refine ⟨2431, z_pass1 hr (by omega) (hg0.fr hf) (by rw [hf 13 (by decide)]; exact h130) (fun S' w f' m' hw hW => ?_) 2430 0 0 S (by omega) (by omega) ⟨fun q => absurd q (by decide), fun ⟨i, hi, _⟩ => absurd hi (Nat.not_lt_zero i)⟩ (fr.rf _ S) hm⟩
    rcases (show w = 0 ∨ w = 1 by omega) with e | e
    · -- nothing has changed: solved
      rw [e]
      show wb_11_solves_133 Q _ _ _ S' T
      unfold wb_11_solves_133
      rw [if_pos (show nI 0 = 0 from rfl)]
      have hno : ∀ q, q < 2430 → vO ρ (d + 1) q = vO ρ d q := by
        intro q hq
        by_cases hv : vO ρ d q < 2
        · exact vO_keep hv 1
        · have h1 : ¬ vO ρ (d + 1) q < 2 := by
            intro hv2
            have : w = 1 := hW.mpr ⟨pM q, pM_lt hq, by rw [pX_pM hq]; exact ⟨hv, hv2⟩⟩
            omega
          have := vO_le hr d q
          have := vO_le hr (d + 1) q
          omega
      refine h S' (hf.tr f') ⟨(hg0.fr hf).fr f', by rw [f' 13 (by decide), hf 13 (by decide)]; exact h130, fun q hq => ?_⟩
      obtain ⟨v15, v16⟩ := lm_next m' (pM q) (pM_lt hq)
      have e2 : lvA (d + 1) 0 (pM q) = d + 1 := by unfold lvA; rw [if_neg (Nat.not_lt_zero _)]
      rw [e2, pX_pM hq] at v15 v16
      by_cases hv : vO ρ (d + 1) q < 2
      · obtain ⟨o1, o2⟩ := oF_dec hv
        refine ⟨by rw [v15, o1], ?_⟩
        rw [v16, o2]
        unfold lvI
        rw [if_pos hv]
      · have hall : ∀ e, ¬ vO ρ e q < 2 := by
          intro e he
          rcases Nat.lt_or_ge e (d + 1) with q2 | q2
          · exact hv (by rw [vO_mono he (show e ≤ d + 1 by omega)]; exact he)
          · have := vO_stable hno (e - d) q hq
            rw [show d + (e - d) = e by omega] at this
            rw [hno q hq, ← this] at hv
            exact hv he
        obtain ⟨o1, o2⟩ := oF_und hr hall
        have h2 := vO_le hr (d + 1) q
        refine ⟨by rw [v15, o1, show vO ρ (d + 1) q = 2 by omega], ?_⟩
        rw [v16, o2]
        unfold lvI
        rw [if_neg hv]
    · rw [e]
      obtain ⟨i, hi, h1, h2⟩ := hW.mp e
      exact hrec S' (uD_s ⟨pX i, pX_lt hi, h1, h2⟩) (hf.tr f') (lm_next m')
  induction n with
  | zero =>
    intro d S hn hd hf hm
    exact pass 0 d S hd hf hm (fun S' hlt _ _ => absurd hlt (by omega))
  | succ n ih =>
    intro d S hn hd hf hm
    refine pass (n + 1) d S hd hf hm (fun S' hlt f' m' => ?_)
    exact ih (d + 1) S' (by omega) (by omega) f' m'
theorem z_solves {ρ : Ru} (hr : rok ρ) {S : hm_S} (ht : tabM S T) (hu : ruM ρ S) (hc : S 0 19 = 0 ∨ (S 0 19 = 1 ∧ solM ρ S)) {Q : hm_S → hm_T → Prop} (h : ∀ S', fs S S' → S' 0 19 = 1 → solM ρ S' → Q S' T) : wp_11_solves S T Q := by
  unfold wp_11_solves
  rcases hc with e | ⟨e, hs⟩
  · rw [if_pos e]
    have f0 : fs S (hm_up S 0 19 1) := ⟨fr.up S _ _ (by decide), fun k _ _ h19 => hm_up_col S _ h19⟩
    refine ⟨2431, ?_⟩
    have := z_solve1 hr (f0.tab ht) (f0.ru hu) (hm_up_same S 0 19 1) (Q := Q) (T := T) (fun S1 f1 h19 hg hl => ?_) 2430 0 (by omega) (hm_up S 0 19 1) (fs.rf _) (hm_up_same S 0 19 1) ⟨fun i hi => absurd hi (Nat.not_lt_zero i), fun i j m hi => absurd hi (Nat.not_lt_zero i)⟩ (fun i hi => absurd hi (Nat.not_lt_zero i))
    · exact this
    · unfold wb_11_solves_120
      rw [q_2430, nI_clamp (by omega)]
      refine ⟨vp_in_nI (by omega) (by omega), 2432, ?_⟩
      have f2 : fs S1 (hm_up S1 13 2430 (nI (st ρ 2430))) := fs.up _ _ (by decide)
      have hu0 := uD_le ρ 0
      refine z_levels hr (S0 := hm_up S1 13 2430 (nI (st ρ 2430))) ⟨fun i hi => by rw [hm_up_col S1 _ (by omega)]; exact hg.1 i hi, fun i j m hi hj => by rw [hm_up_row S1 _ _ (by decide)]; exact hg.2 i j m hi hj⟩ (hm_up_same S1 13 2430 _) (fun S' f' hs => ?_) 2430 0 _ hu0 (by omega) (fr.rf _ _) (fun i hi => ?_)
      · refine h S' (((f0.tr f1).tr f2).tr (fs.of f' (by decide))) ?_ hs
        rw [f' 0 (by decide), hm_up_row S1 _ _ (by decide)]
        exact h19
      · have e2 : lvA 0 0 i = 0 := by unfold lvA; rw [if_neg (Nat.not_lt_zero i)]
        rw [e2, hm_up_row S1 _ _ (by decide), hm_up_row S1 _ _ (by decide)]
        exact hl i hi
  · rw [if_neg (by rw [e]; decide)]
    exact h S (fs.rf S) e hs
end MZ
