/-! ===== the law, over the pure predicates ===== -/
theorem lw_exit {L i : Nat} (hL : L ≤ 2048) (hi : i ≤ 2048) : nI L - 4 < nI i ↔ L < i + 4 := by
  rw [Int32.lt_iff_toInt_lt, q_4, pk_sub_toInt (by omega) (by omega), nI_toInt (by omega)]
  omega
set_option maxHeartbeats 4000000 in
set_option maxRecDepth 20000 in
theorem lw_loop (xs : Nat → Int32) {L : Nat} (hL : L ≤ 2048) {T : hm_T} : ∀ c i s S U V, L < i + 4 * c + 4 → i ≤ 2048 → okS s → IX s S → IZ s U V → wl_12_law_18 xs L (c + 1) (nI i) S T U V := by
  intro c
  induction c with
  | zero =>
    intro i s S U V hc hi ho hX hZ
    show wb_12_law_18 xs L _ _ S T U V
    unfold wb_12_law_18 wb_12_law_825
    rw [if_pos ((lw_exit hL hi).mpr (by omega))]
    trivial
  | succ c ih =>
    intro i s S U V hc hi ho hX hZ
    show wb_12_law_18 xs L _ _ S T U V
    unfold wb_12_law_18
    by_cases hx : L < i + 4
    · unfold wb_12_law_825
      rw [if_pos ((lw_exit hL hi).mpr hx)]
      trivial
    have v0 : vp_in (nI i) L := vp_in_nI (by omega) (by omega)
    have v1 : vp_in (nI (i + 1)) L := vp_in_nI (by omega) (by omega)
    have v2 : vp_in (nI (i + 2)) L := vp_in_nI (by omega) (by omega)
    have v3 : vp_in (nI (i + 3)) L := vp_in_nI (by omega) (by omega)
    have e1 : nI i + 1 = nI (i + 1) := nI_1 i
    have e2 : nI i + 2 = nI (i + 2) := by rw [q_2, nI_add]
    have e3 : nI i + 3 = nI (i + 3) := by rw [q_3, nI_add]
    have c1 : Int32.toNatClampNeg (nI (i + 1)) = i + 1 := nI_clamp (by omega)
    have c2 : Int32.toNatClampNeg (nI (i + 2)) = i + 2 := nI_clamp (by omega)
    have c3 : Int32.toNatClampNeg (nI (i + 3)) = i + 3 := nI_clamp (by omega)
    have nx : ∀ s' S' U' V', okS s' → IX s' S' → IZ s' U' V' → wb_12_law_819 xs L (wl_12_law_18 xs L (c + 1)) (nI i) S' T U' V' := by
      intro s' S' U' V' o' x' z'
      unfold wb_12_law_819
      rw [q_4, nI_add]
      exact ih (i + 4) s' S' U' V' (by omega) (by omega) o' x' z'
    rw [if_neg (fun q => hx ((lw_exit hL hi).mp q)), nI_clamp (show i < 2 ^ 31 by omega), e1, e2, c1, c2]
    refine ⟨v0, ?_⟩
    by_cases h0 : xs i &&& 31 = 0
    · rw [if_pos h0]
      refine ⟨v1, v2, ?_⟩
      refine X_setDigit ho hX (xs (i + 1)) (xs (i + 2)) (fun S' I' => ?_)
      refine ⟨v1, v2, ?_⟩
      refine Z_setDigit ho hZ (xs (i + 1)) (xs (i + 2)) (fun U' V' J' => ?_)
      rw [if_pos rfl]
      exact nx _ S' U' V' (ok_setDigit (xs (i + 1)) (xs (i + 2)) ho) I' J'
    rw [if_neg h0]
    by_cases h1 : xs i &&& 31 = 1
    · rw [if_pos h1]
      refine ⟨v1, ?_⟩
      refine X_setObliging hX (xs (i + 1)) (fun S' I' => ?_)
      refine ⟨v1, ?_⟩
      refine Z_setObliging hZ (xs (i + 1)) (fun U' V' J' => ?_)
      rw [if_pos rfl]
      exact nx _ S' U' V' (ok_setObliging (xs (i + 1)) ho) I' J'
    rw [if_neg h1]
    by_cases h2 : xs i &&& 31 = 2
    · rw [if_pos h2]
      refine ⟨v1, ?_⟩
      refine X_setGrowing hX (xs (i + 1)) (fun S' I' => ?_)
      refine ⟨v1, ?_⟩
      refine Z_setGrowing hZ (xs (i + 1)) (fun U' V' J' => ?_)
      rw [if_pos rfl]
      exact nx _ S' U' V' (ok_setGrowing (xs (i + 1)) ho) I' J'
    rw [if_neg h2]
    by_cases h3 : xs i &&& 31 = 3
    · rw [if_pos h3]
      refine ⟨v1, ?_⟩
      by_cases z : xs (i + 1) = 0
      · rw [if_pos z]
        unfold wb_12_law_253
        refine X_setMisere hX 0 (fun S' I' => ?_)
        rw [e1, c1, if_pos z]
        refine ⟨v1, ?_⟩
        unfold wb_12_law_270
        refine Z_setMisere ho hZ 0 (by decide) (fun U' V' J' => ?_)
        rw [if_pos rfl]
        exact nx _ S' U' V' (ok_setMisere 0 ho) I' J'
      · rw [if_neg z]
        unfold wb_12_law_253
        refine X_setMisere hX 1 (fun S' I' => ?_)
        rw [e1, c1, if_neg z]
        refine ⟨v1, ?_⟩
        unfold wb_12_law_270
        refine Z_setMisere ho hZ 1 (by decide) (fun U' V' J' => ?_)
        rw [if_pos rfl]
        exact nx _ S' U' V' (ok_setMisere 1 ho) I' J'
    rw [if_neg h3]
    by_cases h4 : xs i &&& 31 = 4
    · rw [if_pos h4]
      refine ⟨v1, ?_⟩
      refine X_type hX (xs (i + 1)) (fun S' I' => ?_)
      refine ⟨v1, ?_⟩
      refine Z_type hZ (xs (i + 1)) (fun U' V' J' => ?_)
      rw [if_pos rfl]
      exact nx _ S' U' V' (ok_type (xs (i + 1)) ho) I' J'
    rw [if_neg h4]
    by_cases h5 : xs i &&& 31 = 5
    · rw [if_pos h5]
      refine X_erase hX (fun S' I' => ?_)
      refine Z_erase hZ (fun U' V' J' => ?_)
      rw [if_pos rfl]
      exact nx _ S' U' V' (ok_erase ho) I' J'
    rw [if_neg h5]
    by_cases h6 : xs i &&& 31 = 6
    · rw [if_pos h6]
      refine X_readRules ho hX (fun S' I' => ?_)
      refine Z_readRules ho hZ (fun U' V' J' => ?_)
      rw [if_pos rfl]
      exact nx _ S' U' V' (ok_readRules ho) I' J'
    rw [if_neg h6]
    by_cases h7 : xs i &&& 31 = 7
    · rw [if_pos h7]
      refine ⟨v1, ?_⟩
      refine x_rule (s := s) hX.1.ru (xs (i + 1)) ?_
      refine ⟨v1, ?_⟩
      refine z_rule (s := s) ho hZ.2.1 (xs (i + 1)) ?_
      rw [if_pos rfl]
      exact nx s S U V ho hX hZ
    rw [if_neg h7]
    by_cases h8 : xs i &&& 31 = 8
    · rw [if_pos h8]
      refine ⟨v1, ?_⟩
      refine X_place ho hX (xs (i + 1)) (fun S' I' => ?_)
      refine ⟨v1, ?_⟩
      refine Z_place ho hZ (xs (i + 1)) (fun U' V' J' => ?_)
      rw [if_pos rfl]
      exact nx _ S' U' V' (ok_place (xs (i + 1)) ho) I' J'
    rw [if_neg h8]
    by_cases h9 : xs i &&& 31 = 9
    · rw [if_pos h9]
      refine ⟨v1, ?_⟩
      refine X_lift ho hX (xs (i + 1)) (fun S' I' => ?_)
      refine ⟨v1, ?_⟩
      refine Z_lift ho hZ (xs (i + 1)) (fun U' V' J' => ?_)
      rw [if_pos rfl]
      exact nx _ S' U' V' (ok_lift (xs (i + 1)) ho) I' J'
    rw [if_neg h9]
    by_cases h10 : xs i &&& 31 = 10
    · rw [if_pos h10]
      refine ⟨v1, ?_⟩
      by_cases z : xs (i + 1) = 0
      · rw [if_pos z]
        unfold wb_12_law_410
        refine X_setPass ho hX 0 (fun S' I' => ?_)
        rw [e1, c1, if_pos z]
        refine ⟨v1, ?_⟩
        unfold wb_12_law_427
        refine Z_setPass ho hZ 0 (fun U' V' J' => ?_)
        rw [if_pos rfl]
        exact nx _ S' U' V' (ok_setPass 0 ho) I' J'
      · rw [if_neg z]
        unfold wb_12_law_410
        refine X_setPass ho hX 1 (fun S' I' => ?_)
        rw [e1, c1, if_neg z]
        refine ⟨v1, ?_⟩
        unfold wb_12_law_427
        refine Z_setPass ho hZ 1 (fun U' V' J' => ?_)
        rw [if_pos rfl]
        exact nx _ S' U' V' (ok_setPass 1 ho) I' J'
    rw [if_neg h10]
    by_cases h11 : xs i &&& 31 = 11
    · rw [if_pos h11]
      refine X_readPosition ho hX (fun S' I' => ?_)
      refine Z_readPosition ho hZ (fun U' V' J' => ?_)
      rw [if_pos rfl]
      exact nx _ S' U' V' (ok_readPosition hX.2.2.2.1.2.1 ho) I' J'
    rw [if_neg h11]
    by_cases h12 : xs i &&& 31 = 12
    · rw [if_pos h12]
      refine ⟨v1, v2, ?_⟩
      refine X_heap ho hX (xs (i + 1)) (xs (i + 2)) (fun S' I' => ?_)
      refine ⟨v1, v2, ?_⟩
      refine Z_heap ho hZ (xs (i + 1)) (xs (i + 2)) (fun U' J' => ?_)
      rw [if_pos rfl]
      exact nx s S' U' V ho I' J'
    rw [if_neg h12]
    by_cases h13 : xs i &&& 31 = 13
    · rw [if_pos h13]
      refine X_undo hX (fun S' I' => ?_)
      refine Z_undo hZ (fun U' V' J' => ?_)
      rw [if_pos rfl]
      exact nx _ S' U' V' (ok_undo ho) I' J'
    rw [if_neg h13]
    by_cases h14 : xs i &&& 31 = 14
    · rw [if_pos h14]
      refine ⟨v1, v2, ?_⟩
      refine X_move ho hX (xs (i + 1)) (xs (i + 2)) (fun S' I' => ?_)
      refine ⟨v1, v2, ?_⟩
      refine Z_move ho hZ (xs (i + 1)) (xs (i + 2)) (fun U' V' J' => ?_)
      rw [if_pos rfl]
      exact nx s S' U' V' ho I' J'
    rw [if_neg h14]
    by_cases h15 : xs i &&& 31 = 15
    · rw [if_pos h15]
      refine ⟨v1, ?_⟩
      refine X_play ho hX (xs (i + 1)) (fun S' I' => ?_)
      refine ⟨v1, ?_⟩
      refine Z_play ho hZ (xs (i + 1)) (fun U' V' J' => ?_)
      rw [if_pos rfl]
      exact nx _ S' U' V' (ok_play (xs (i + 1)) ho) I' J'
    rw [if_neg h15]
    by_cases h16 : xs i &&& 31 = 16
    · rw [if_pos h16]
      refine X_outcome ho hX (fun S' I' => ?_)
      refine Z_outcome ho hZ (fun U' J' => ?_)
      rw [if_pos rfl]
      exact nx s S' U' V ho I' J'
    rw [if_neg h16]
    by_cases h17 : xs i &&& 31 = 17
    · rw [if_pos h17]
      refine X_distance ho hX (fun S' I' => ?_)
      refine Z_distance ho hZ (fun U' J' => ?_)
      rw [if_pos rfl]
      exact nx s S' U' V ho I' J'
    rw [if_neg h17]
    by_cases h18 : xs i &&& 31 = 18
    · rw [if_pos h18]
      refine X_best ho hX (fun S' I' => ?_)
      refine Z_best ho hZ (fun U' J' => ?_)
      rw [if_pos rfl]
      exact nx s S' U' V ho I' J'
    rw [if_neg h18]
    by_cases h19 : xs i &&& 31 = 19
    · rw [if_pos h19]
      refine X_good ho hX (fun S' I' => ?_)
      refine Z_good ho hZ (fun U' J' => ?_)
      rw [if_pos rfl]
      exact nx s S' U' V ho I' J'
    rw [if_neg h19]
    by_cases h20 : xs i &&& 31 = 20
    · rw [if_pos h20]
      refine ⟨v1, ?_⟩
      refine X_playOut ho hX (xs (i + 1)) (fun S' I' => ?_)
      refine ⟨v1, ?_⟩
      refine Z_playOut ho hZ (xs (i + 1)) (fun U' V' J' => ?_)
      rw [if_pos rfl]
      exact nx _ S' U' V' (ok_playOut (xs (i + 1)) ho) I' J'
    rw [if_neg h20]
    by_cases h21 : xs i &&& 31 = 21
    · rw [if_pos h21]
      refine ⟨v1, ?_⟩
      by_cases z : xs (i + 1) = 0
      · rw [if_pos z]
        unfold wb_12_law_639
        refine X_outcomeWith ho hX 0 (fun S' I' => ?_)
        rw [e1, c1, if_pos z]
        refine ⟨v1, ?_⟩
        unfold wb_12_law_656
        refine Z_outcomeWith ho hZ 0 (fun U' V' J' => ?_)
        rw [if_pos rfl]
        exact nx s S' U' V' ho I' J'
      · rw [if_neg z]
        unfold wb_12_law_639
        refine X_outcomeWith ho hX 1 (fun S' I' => ?_)
        rw [e1, c1, if_neg z]
        refine ⟨v1, ?_⟩
        unfold wb_12_law_656
        refine Z_outcomeWith ho hZ 1 (fun U' V' J' => ?_)
        rw [if_pos rfl]
        exact nx s S' U' V' ho I' J'
    rw [if_neg h21]
    by_cases h22 : xs i &&& 31 = 22
    · rw [if_pos h22]
      refine ⟨v1, v2, ?_⟩
      by_cases z : xs (i + 2) = 0
      · rw [if_pos z]
        unfold wb_12_law_683
        rw [e3, c3]
        refine ⟨v3, ?_⟩
        refine X_census ho hX (xs (i + 1)) 0 (xs (i + 3)) (fun S' I' => ?_)
        rw [e1, e2, c1, c2, if_pos z]
        refine ⟨v1, v2, ?_⟩
        unfold wb_12_law_710
        rw [e3, c3]
        refine ⟨v3, ?_⟩
        refine Z_census ho hZ (xs (i + 1)) 0 (xs (i + 3)) (fun U' V' J' => ?_)
        rw [if_pos rfl]
        exact nx s S' U' V' ho I' J'
      · rw [if_neg z]
        unfold wb_12_law_683
        rw [e3, c3]
        refine ⟨v3, ?_⟩
        refine X_census ho hX (xs (i + 1)) 1 (xs (i + 3)) (fun S' I' => ?_)
        rw [e1, e2, c1, c2, if_neg z]
        refine ⟨v1, v2, ?_⟩
        unfold wb_12_law_710
        rw [e3, c3]
        refine ⟨v3, ?_⟩
        refine Z_census ho hZ (xs (i + 1)) 1 (xs (i + 3)) (fun U' V' J' => ?_)
        rw [if_pos rfl]
        exact nx s S' U' V' ho I' J'
    rw [if_neg h22]
    by_cases h23 : xs i &&& 31 = 23
    · rw [if_pos h23]
      refine ⟨v1, ?_⟩
      refine X_grundy ho hX (xs (i + 1)) (fun S' I' => ?_)
      refine ⟨v1, ?_⟩
      refine Z_grundy ho hZ (xs (i + 1)) (fun U' V' J' => ?_)
      rw [if_pos rfl]
      exact nx s S' U' V' ho I' J'
    rw [if_neg h23]
    by_cases h24 : xs i &&& 31 = 24
    · rw [if_pos h24]
      refine X_nimSum ho hX (fun S' I' => ?_)
      refine Z_nimSum ho hZ (fun U' V' J' => ?_)
      rw [if_pos rfl]
      exact nx s S' U' V' ho I' J'
    rw [if_neg h24]
    by_cases h25 : xs i &&& 31 = 25
    · rw [if_pos h25]
      refine ⟨v1, ?_⟩
      refine X_period ho hX (xs (i + 1)) (fun S' I' => ?_)
      refine ⟨v1, ?_⟩
      refine Z_period ho hZ (xs (i + 1)) (fun U' J' _ => ?_)
      rw [if_pos rfl]
      exact nx s S' U' V ho I' J'
    rw [if_neg h25]
    by_cases h26 : xs i &&& 31 = 26
    · rw [if_pos h26]
      refine ⟨v1, ?_⟩
      refine X_count ho hX (xs (i + 1)) (fun S' I' => ?_)
      refine ⟨v1, ?_⟩
      refine Z_count ho hZ (xs (i + 1)) (fun U' J' => ?_)
      rw [if_pos rfl]
      exact nx s S' U' V ho I' J'
    rw [if_neg h26]
    by_cases h27 : xs i &&& 31 = 27
    · rw [if_pos h27]
      refine X_digest ho hX (fun S' I' => ?_)
      refine Z_digest ho hZ (fun U' V' J' => ?_)
      rw [if_pos ((lg_cmp_eq _ _).mpr rfl)]
      exact nx s S' U' V' ho I' J'
    rw [if_neg h27]
    exact nx s S U V ho hX hZ
theorem hm_vc : hm_VC := by
  intro xs L hL
  refine x_init (fun S T hX => ?_)
  refine z_minit (fun U V hM => ?_)
  rw [q_0]
  exact ⟨_, lw_loop xs hL 512 0 s_0 S U V (by omega) (by omega) ok_0 hX (z_init0 hM)⟩
