/-! ===== readRules, the reference ===== -/
section RZ2
variable {T : hm_T}
theorem z_readsDigits {tx : List Nat} (hx : ∀ c ∈ tx, c < 128) {p : Nat} {S : hm_S} (hc : CZ tx p S) (hd : DZ [] S) (h27 : S 0 27 = -1) {Q : hm_S → hm_T → Prop} (hno : ca tx p ≠ 46 → ∀ S', fR S S' → CZ tx p S' → S' 0 27 = nI p → Q S' T) (h : ca tx p = 46 → ∀ S', fR S S' → CZ tx (p + 1 + (ocF tx 10 (p + 1)).length) S' → DZ (ocF tx 10 (p + 1)) S' → S' 0 27 = (if ocF tx 10 (p + 1) = [] then nI (p + 1) else -1) → Q S' T) : wp_11_readsDigits S T Q := by
  have hp := hc.2.2
  have hl := hc.1.2.1
  unfold wp_11_readsDigits
  rw [z_byte hx hc]
  by_cases e : ca tx p = 46
  · have hpl := ca_lt (tx := tx) (i := p) (by omega)
    rw [if_pos (show cI (ca tx p) = 46 from (cI_eq (c := 46) (ca_le hx p) (by omega)).mpr e), hc.2.1, nI_1]
    have fin : ∀ l S1, l = ocF tx 10 (p + 1) → l.length ≤ 10 → fR S S1 → S1 0 27 = -1 → CZ tx (p + 1 + l.length) S1 → DZ l S1 → wb_11_readsDigits_91 Q (nI (l.length + 1)) S1 T := by
      intro l S1 hl' hl10 f1 e1 c1 d1
      unfold wb_11_readsDigits_91
      have hb := c1.2.2
      by_cases w : l = []
      · rw [if_pos (by rw [w]; rfl), c1.2.1]
        refine z_fails (fun S2 f2 j2 e2 _ => ?_)
        have c2 : CZ tx (p + 1 + l.length) S2 := ⟨c1.1.fr0 f2 (by decide) (j2 25 (by decide)), by rw [j2 26 (by decide)]; exact c1.2.1, c1.2.2⟩
        have d2 : DZ l S2 := d1.fr f2 (by decide)
        have g2 := e2 e1
        rw [hl'] at c2 d2
        rw [hl'] at w
        refine h e S2 (f1.tr ⟨f2.mono (by decide), fun k _ b => j2 k b⟩) c2 d2 ?_
        rw [g2, hl', if_pos w, w]
        rfl
      · have : l.length ≠ 0 := fun q => w (List.length_eq_zero_iff.mp q)
        rw [if_neg (by rw [q_1, nI_eq (by omega) (by omega)]; omega)]
        rw [hl'] at c1 d1 w
        exact h e S1 f1 c1 d1 (by rw [e1, if_neg w])
    have key : ∀ c l S1, l.length + c = 10 → l ++ ocF tx c (p + 1 + l.length) = ocF tx 10 (p + 1) → fR S S1 → S1 0 27 = -1 → CZ tx (p + 1 + l.length) S1 → DZ l S1 → wl_11_readsDigits_34 Q (c + 1) (nI (l.length + 1)) S1 T := by
      intro c
      induction c with
      | zero =>
        intro l S1 hc1 he f1 e1 c1 d1
        show wb_11_readsDigits_34 Q _ _ S1 T
        unfold wb_11_readsDigits_34
        simp only [ocF, List.append_nil] at he
        have r := fin l S1 he (by omega) f1 e1 c1 d1
        rw [z_byte hx c1, q_48, q_55, z_inC (ca_le hx _) (by omega) (by omega)]
        by_cases w : 48 ≤ ca tx (p + 1 + l.length) ∧ ca tx (p + 1 + l.length) ≤ 55
        · rw [if_pos w, if_neg (by decide), q_11, if_pos (nI_le (by omega) (by omega))]; exact r
        · rw [if_neg w, if_pos rfl]; exact r
      | succ c ih =>
        intro l S1 hc1 he f1 e1 c1 d1
        show wb_11_readsDigits_34 Q _ _ S1 T
        unfold wb_11_readsDigits_34
        have ho : ocF tx (c + 1) (p + 1 + l.length) = if 48 ≤ ca tx (p + 1 + l.length) ∧ ca tx (p + 1 + l.length) ≤ 55 then (ca tx (p + 1 + l.length) - 48) :: ocF tx c (p + 1 + l.length + 1) else [] := rfl
        rw [ho] at he
        rw [z_byte hx c1, q_48, q_55, z_inC (ca_le hx _) (by omega) (by omega)]
        by_cases w : 48 ≤ ca tx (p + 1 + l.length) ∧ ca tx (p + 1 + l.length) ≤ 55
        · have hlt := ca_lt (tx := tx) (i := p + 1 + l.length) (by omega)
          rw [if_pos w] at he
          rw [if_pos w, if_neg (by decide), q_11, if_neg (nI_ge (by omega) (by omega)), z_byte hx c1, cI_s (by omega), pk_sub (by omega), nI_clamp (show l.length + 1 < 2 ^ 31 by omega), hm_up_row _ _ _ (by decide), c1.2.1, nI_1, nI_1]
          refine ⟨vp_in_nI (by omega) (by omega), ?_⟩
          have d2 := d1.app (ca tx (p + 1 + l.length) - 48)
          have c2 := c1.u18 (l.length + 1) (nI (ca tx (p + 1 + l.length) - 48))
          have el : (l ++ [ca tx (p + 1 + l.length) - 48]).length = l.length + 1 := by simp
          have nx := ih (l ++ [ca tx (p + 1 + l.length) - 48]) (hm_up (hm_up S1 18 (l.length + 1) (nI (ca tx (p + 1 + l.length) - 48))) 0 26 (nI (p + 1 + l.length + 1))) (by rw [el]; omega) (by rw [el, List.append_assoc]; exact he) ((f1.tr (fR.u18 _ _ _)).tr (fz.up _ _).fR) (by rw [hm_up_col _ _ (by decide), hm_up_row _ _ _ (by decide)]; exact e1) (by rw [el]; exact CZ.up c2.1 (by omega)) (d2.fr (fr.up (c := [0]) _ _ _ (by decide)) (by decide))
          rw [el] at nx
          exact nx
        · rw [if_neg w, List.append_nil] at he
          rw [if_neg w, if_pos rfl]
          exact fin l S1 he (by omega) f1 e1 c1 d1
    rw [q_1]
    exact ⟨_, key 10 [] (hm_up S 0 26 (nI (p + 1))) rfl rfl (fz.up _ _).fR (by rw [hm_up_col _ _ (by decide)]; exact h27) (CZ.up hc.1 hpl) (hd.fr (fr.up (c := [0]) _ _ _ (by decide)) (by decide))⟩
  · rw [if_neg (show ¬ cI (ca tx p) = 46 from fun q => e ((cI_eq (c := 46) (ca_le hx p) (by omega)).mp q)), hc.2.1]
    refine z_fails (fun S2 f2 j2 e2 _ => ?_)
    exact hno e S2 ⟨f2.mono (by decide), fun k _ b => j2 k b⟩ ⟨hc.1.fr0 f2 (by decide) (j2 25 (by decide)), by rw [j2 26 (by decide)]; exact hc.2.1, hc.2.2⟩ (e2 h27)
theorem z_rest {tx : List Nat} (hx : ∀ c ∈ tx, c < 128) {p : Nat} {S : hm_S} (hc : CZ tx p S) {Q : hm_S → hm_T → Prop} (h : ∀ S', fR S S' → fr [0] S S' → TM tx S' → S' 0 27 = (if S 0 27 = -1 then rst tx p else S 0 27) → Q S' T) : wb_11_readsRulesAll_64 Q S T := by
  unfold wb_11_readsRulesAll_64
  refine z_skips hx hc (fun S1 f1 c1 => ?_)
  have hl := c1.1.2.1
  have hs := c1.2.2
  have e27 : S1 0 27 = S 0 27 := f1.2 27 (by decide)
  rw [c1.1.1, c1.2.1]
  by_cases e : tx.length ≤ sk tx p
  · rw [if_pos (nI_le e (by omega))]
    refine h S1 f1.fR f1.1 c1.1 ?_
    rw [e27]
    by_cases w : S 0 27 = -1
    · rw [if_pos w, w]; unfold rst; rw [if_pos e]
    · rw [if_neg w]
  · rw [if_neg (nI_ge (by omega) (by omega))]
    refine z_fails (fun S2 f2 j2 e2 e3 => ?_)
    refine h S2 (f1.fR.tr ⟨f2.mono (by decide), fun k _ b => j2 k b⟩) (f1.1.tr f2) (c1.1.fr0 f2 (by decide) (j2 25 (by decide))) ?_
    by_cases w : S 0 27 = -1
    · rw [if_pos w, e2 (by rw [e27]; exact w)]; unfold rst; rw [if_neg e]
    · rw [if_neg w, e3 (by rw [e27]; exact w), e27]
theorem z_rdR {tx : List Nat} (hx : ∀ c ∈ tx, c < 128) {S : hm_S} (ht : TM tx S) {Q : hm_S → hm_T → Prop} (h : ∀ S', fR S S' → TM tx S' → S' 0 27 = (rdR tx).1 → ((rdR tx).1 = -1 → DZ (rdR tx).2 S') → Q S' T) : wp_11_readsRulesAll S T Q := by
  have hl := ht.2.1
  have hs0 := (sk_b (tx := tx) (p := 0) (by omega)).2
  have fin : ∀ S1, fR S S1 → CZ tx 0 S1 → S1 0 27 = -1 → DZ [] S1 → wb_11_readsRulesAll_31 Q S1 T := by
    intro S1 f1 c1 e1 d1
    unfold wb_11_readsRulesAll_31
    refine z_skips hx c1 (fun S2 f2 c2 => ?_)
    have fA := f1.tr f2.fR
    have d2 : DZ [] S2 := d1.fr f2.1 (by decide)
    have e2 : S2 0 27 = -1 := by rw [f2.2 27 (by decide)]; exact e1
    rw [z_byte hx c2, q_97, q_122, z_inC (ca_le hx _) (by omega) (by omega)]
    unfold rdR at h
    by_cases g1 : 97 ≤ ca tx (sk tx 0) ∧ ca tx (sk tx 0) ≤ 122
    · rw [if_pos g1] at h ⊢
      rw [if_neg (by decide)]
      refine z_readsName hx c2 d2 e2 (fun S3 f3 c3 d3 e3 => ?_)
      refine z_rest hx c3 (fun S4 f4 k4 t4 e4 => ?_)
      rw [e3] at e4
      by_cases g2 : nmJ (slc tx (sk tx 0) (wd tx (sk tx 0))) = 8
      · rw [if_pos g2] at h e4
        rw [if_neg (nI_ne1 (by omega))] at e4
        exact h S4 ((fA.tr f3).tr f4) t4 e4 (fun q => absurd q (nI_ne1 (by omega)))
      · rw [if_neg g2] at h e4
        rw [if_pos rfl] at e4
        exact h S4 ((fA.tr f3).tr f4) t4 e4 (fun _ => d3.fr k4 (by decide))
    · rw [if_neg g1] at h ⊢
      rw [if_pos rfl]
      refine z_readsDigits hx c2 d2 e2 (fun g2 S3 f3 c3 e3 => ?_) (fun g2 S3 f3 c3 d3 e3 => ?_)
      · rw [if_neg g2] at h
        refine z_rest hx c3 (fun S4 f4 k4 t4 e4 => ?_)
        rw [e3, if_neg (nI_ne1 (by omega))] at e4
        exact h S4 ((fA.tr f3).tr f4) t4 e4 (fun q => absurd q (nI_ne1 (by omega)))
      · rw [if_pos g2] at h
        have hb := c3.2.2
        refine z_rest hx c3 (fun S4 f4 k4 t4 e4 => ?_)
        rw [e3] at e4
        by_cases g3 : ocF tx 10 (sk tx 0 + 1) = []
        · rw [if_pos g3] at h e4
          rw [if_neg (nI_ne1 (by omega))] at e4
          exact h S4 ((fA.tr f3).tr f4) t4 e4 (fun q => absurd q (nI_ne1 (by omega)))
        · rw [if_neg g3] at h e4
          rw [if_pos rfl] at e4
          exact h S4 ((fA.tr f3).tr f4) t4 e4 (fun _ => d3.fr k4 (by decide))
  have key : ∀ c i S1, i + c = 11 → fR S S1 → CZ tx 0 S1 → S1 0 27 = -1 → (∀ j, j < i → S1 18 j = 0) → wl_11_readsRulesAll_12 Q (c + 1) (nI i) S1 T := by
    intro c
    induction c with
    | zero =>
      intro i S1 hi f1 c1 e1 hz
      show wb_11_readsRulesAll_12 Q _ _ S1 T
      unfold wb_11_readsRulesAll_12
      rw [q_11, if_pos (nI_le (by omega) (by omega))]
      refine fin S1 f1 c1 e1 (fun k h1 h2 => ?_)
      rw [hz k (by omega)]
      unfold dgF
      rw [if_neg (by omega)]
      rfl
    | succ c ih =>
      intro i S1 hi f1 c1 e1 hz
      show wb_11_readsRulesAll_12 Q _ _ S1 T
      unfold wb_11_readsRulesAll_12
      rw [q_11, if_neg (nI_ge (by omega) (by omega)), nI_clamp (show i < 2 ^ 31 by omega), nI_1]
      refine ⟨vp_in_nI (by omega) (by omega), ih (i + 1) _ (by omega) (f1.tr (fR.u18 _ _ _)) (c1.u18 _ _) (by rw [hm_up_row _ _ _ (by decide)]; exact e1) (fun j hj => ?_)⟩
      by_cases w : j = i
      · rw [w, hm_up_same]
      · rw [hm_up_col _ _ w]; exact hz j (by omega)
  unfold wp_11_readsRulesAll
  rw [q_0]
  have f0 : fR S (hm_up (hm_up S 0 26 (nI 0)) 0 27 (-1)) := ⟨(fr.up _ _ _ (by decide)).tr (fr.up _ _ _ (by decide)), fun k a b => by rw [hm_up_col _ _ b, hm_up_col _ _ a]⟩
  exact ⟨_, key 11 0 _ (by omega) f0 ⟨f0.tm ht, by rw [hm_up_col _ _ (by decide), hm_up_same], by omega⟩ (hm_up_same _ _ _ _) (fun j hj => absurd hj (Nat.not_lt_zero j))⟩
theorem Z_readRules {s : Sp} (ho : okS s) {S : hm_S} (hI : IZ s S T) {Q : Int32 → hm_S → hm_T → Prop} (h : ∀ S' T', IZ (r_readRules s).2 S' T' → Q (r_readRules s).1 S' T') : wp_11_readRules S T Q := by
  obtain ⟨ρ, tx, q, hs⟩ := s
  have htx : TM tx S := hI.2.2.2.2.2
  unfold r_readRules at h
  unfold wp_11_readRules
  refine z_rdR ho.2.1 htx (fun S1 f1 t1 e27 d1 => ?_)
  replace h : ∀ S' T', IZ (if (rdR tx).1 = -1 then (nI (nzN (rdR tx).2), ((dgF (rdR tx).2, ρ.2), [], q, hs)) else (-2000 - (rdR tx).1, (ρ, tx, q, hs)) : Int32 × Sp).2 S' T' → Q (if (rdR tx).1 = -1 then (nI (nzN (rdR tx).2), ((dgF (rdR tx).2, ρ.2), [], q, hs)) else (-2000 - (rdR tx).1, (ρ, tx, q, hs)) : Int32 × Sp).1 S' T' := h
  rw [e27]
  by_cases e : (rdR tx).1 = -1
  · rw [if_pos e] at h ⊢
    have dl := d1 e
    have l8 := rdR_lt tx
    generalize (rdR tx).2 = l at h dl l8
    have hu : ruM ρ S := hI.2.1
    have key : ∀ c i S2, i + c = 10 → fr [4] S1 S2 → (∀ j, 1 ≤ j → j ≤ i → S2 4 j = nI (dgF l j)) → wl_11_readRules_25 Q (c + 1) (nI (sumB (fun i => if dgF l (i + 1) = 0 then 0 else 1) i)) (nI (i + 1)) S2 T := by
      intro c
      induction c with
      | zero =>
        intro i S2 hi f2 hd
        show wb_11_readRules_25 Q _ _ _ S2 T
        unfold wb_11_readRules_25 wb_11_readRules_66 wp_11_changesRules
        rw [q_11, if_pos (nI_le (by omega) (by omega)), show i = 10 by omega]
        have fB : fr [0] S2 (hm_up (hm_up S2 0 19 0) 0 25 0) := (fr.up _ _ _ (by decide)).tr (fr.up _ _ _ (by decide))
        have fA : fr [0, 4, 18] S (hm_up (hm_up S2 0 19 0) 0 25 0) := ((f1.1.mono (by decide)).tr (f2.mono (by decide))).tr (fB.mono (by decide))
        have kA : ∀ k, k ≠ 19 → k ≠ 25 → k ≠ 26 → k ≠ 27 → hm_up (hm_up S2 0 19 0) 0 25 0 0 k = S 0 k := fun k a b c d => by rw [hm_up_col _ _ b, hm_up_col _ _ a, f2 0 (by decide), f1.2 k c d]
        refine h _ T ⟨hI.1.fr fA (by decide), ⟨fun j h1 h2 => ?_, ?_, ?_, ?_⟩, Or.inl ?_, ?_, ?_, ⟨hm_up_same _ _ _ _, by simp, fun i c hc => absurd hc (by simp)⟩⟩
        · rw [fB 4 (by decide)]; exact hd j h1 (by omega)
        · rw [kA 4 (by decide) (by decide) (by decide) (by decide)]; exact hu.2.1
        · rw [kA 5 (by decide) (by decide) (by decide) (by decide)]; exact hu.2.2.1
        · rw [kA 6 (by decide) (by decide) (by decide) (by decide)]; exact hu.2.2.2
        · rw [hm_up_col _ _ (by decide), hm_up_same]
        · rw [kA 7 (by decide) (by decide) (by decide) (by decide)]; exact hI.2.2.2.1
        · exact hI.2.2.2.2.1.fr0 fA (by decide) (kA 9 (by decide) (by decide) (by decide) (by decide))
      | succ c ih =>
        intro i S2 hi f2 hd
        have h8 := dgF_lt l8 (i + 1)
        have e18 : S2 18 (i + 1) = nI (dgF l (i + 1)) := by rw [f2 18 (by decide)]; exact dl (i + 1) (by omega) (by omega)
        show wb_11_readRules_25 Q _ _ _ S2 T
        unfold wb_11_readRules_25 wb_11_readRules_58
        have v : vp_in (nI (i + 1)) 11 := vp_in_nI (by omega) (by omega)
        rw [q_11, if_neg (nI_ge (by omega) (by omega)), nI_clamp (show i + 1 < 2 ^ 31 by omega), hm_up_row _ _ _ (by decide), e18, nI_1 (i + 1)]
        refine ⟨v, v, v, ?_⟩
        have nx := ih (i + 1) (hm_up S2 4 (i + 1) (nI (dgF l (i + 1)))) (by omega) (f2.tr (fr.up _ _ _ (by decide))) (fun j h1 h2 => by
          by_cases w : j = i + 1
          · rw [w, hm_up_same]
          · rw [hm_up_col _ _ w]; exact hd j h1 (by omega))
        have es : sumB (fun i => if dgF l (i + 1) = 0 then 0 else 1) (i + 1) = sumB (fun i => if dgF l (i + 1) = 0 then 0 else 1) i + (if dgF l (i + 1) = 0 then 0 else 1) := rfl
        rw [es] at nx
        by_cases w : dgF l (i + 1) = 0
        · rw [if_pos w] at nx
          rw [if_pos (show nI (dgF l (i + 1)) ≤ 0 by rw [w]; decide), q_0, nI_add]; exact nx
        · rw [if_neg w] at nx
          rw [if_neg (nI_nle (by omega) (by omega)), nI_1]; exact nx
    rw [q_0, q_1]
    exact ⟨_, key 10 0 S1 (by omega) (fr.rf _ S1) (fun j h1 h2 => absurd h2 (by omega))⟩
  · rw [if_neg e] at h ⊢
    refine h S1 T ?_
    obtain ⟨a, b, d⟩ := hI.sl f1.1 (by decide) (fun k hk => f1.2 k (by revert k; decide) (by revert k; decide))
    exact ⟨a, b, d, by rw [f1.2 7 (by decide) (by decide)]; exact hI.2.2.2.1, hI.2.2.2.2.1.fr0 f1.1 (by decide) (f1.2 9 (by decide) (by decide)), t1⟩
end RZ2
