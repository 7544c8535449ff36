/-! ===== the layouts are made: first the layouts themselves ===== -/
theorem L1_reads (m : Nat) : L1 m 4 7 = nI m ∧ L1 m 8 = tabf m lastk ∧ L1 m 10 = tabf m len ∧ L1 m 12 = tabf m cnt ∧ L1 m 14 = tabf m bnd := ⟨rfl, rfl, rfl, rfl, rfl⟩
set_option maxHeartbeats 1000000 in
theorem z_mgo_step {l j : Nat} (hl : l < 1215) (hj : j < nch l) {T : hm_T} {Q : hm_S → hm_T → Prop} {K : Int32 → Int32 → Int32 → hm_S → hm_T → Prop} (h : K (nI l) (nI (10 - cnt l)) (nI (lastk l + (j + 1))) (L1 (fc l + (j + 1))) T) : wb_2_makeGreaterOnes_21 Q K (nI l) (nI (10 - cnt l)) (nI (lastk l + j)) (L1 (fc l + j)) T := by
  have hf := tq_fc hl
  have hm : fc l + j < 1215 := by
    have := tq_fcle (l := l + 1) (by omega)
    omega
  have hk : lastk l + j < 20 := by unfold nch at hj; omega
  have hz : szk (lastk l + j) ≤ 10 - cnt l := by unfold nch at hj; unfold szk; omega
  have hlm : l < fc l + j := by omega
  obtain ⟨s1, s2⟩ := hf.2.2.2 j hj
  obtain ⟨r1, r2, r3⟩ := tq_rec hm (by omega)
  rw [s1] at r1 r2 r3
  rw [s2] at r2 r3
  have hc10 := (tq_cnt hl).1
  have hlen := tq_len hl
  have hb10 := tq_bnd hl
  unfold wb_2_makeGreaterOnes_21
  rw [if_neg (by rw [n_lit]; exact nI_ge hk (by omega)), e_sizeOfKind (by omega), if_neg (by exact nI_nlt (by unfold szk at hz; exact hz) (by omega))]
  unfold L1
  have e7 : ∀ (mk : Int32) (a b c d e F J : Nat → Int32), LB mk a b c d e F J 4 7 = mk := fun _ _ _ _ _ _ _ _ => rfl
  have e10 : ∀ (mk : Int32) (a b c d e F J : Nat → Int32), LB mk a b c d e F J 10 = c := fun _ _ _ _ _ _ _ _ => rfl
  have e12 : ∀ (mk : Int32) (a b c d e F J : Nat → Int32), LB mk a b c d e F J 12 = d := fun _ _ _ _ _ _ _ _ => rfl
  have e14 : ∀ (mk : Int32) (a b c d e F J : Nat → Int32), LB mk a b c d e F J 14 = e := fun _ _ _ _ _ _ _ _ => rfl
  simp only [e7]
  rw [e_set hm (by omega), LB_a]
  simp only [e7]
  rw [e_set hm (by omega), LB_b, e_get (by omega) (by omega)]
  simp only [e7, e10, Nat.reduceAdd]
  rw [tabf_at len hlm, nI_1, e_set hm (by omega), LB_c, e_get (by omega) (by omega), e_sizeOfKind (by omega)]
  simp only [e7, e12, Nat.reduceAdd]
  rw [tabf_at cnt hlm, nI_add, e_set hm (by omega), LB_d, e_get (by omega) (by omega), e_boundOfKind (by omega)]
  simp only [e7, e14, Nat.reduceAdd]
  rw [tabf_at bnd hlm, nI_add, e_set hm (by omega), LB_e]
  simp only [e7, n_lit]
  rw [pk_mul, nI_add, e_set (by omega) (by omega), LB_J]
  simp only [e7]
  rw [← n_lit 1, nI_1, nI_1, LB_mk]
  have g1 : upd (tabf (fc l + j) stem) (fc l + j) (nI l) = tabf (fc l + j + 1) stem := by rw [← tabf_s, s1]
  have g2 : upd (tabf (fc l + j) lastk) (fc l + j) (nI (lastk l + j)) = tabf (fc l + j + 1) lastk := by rw [← tabf_s, s2]
  have g3 : upd (tabf (fc l + j) len) (fc l + j) (nI (len l + 1)) = tabf (fc l + j + 1) len := by rw [← tabf_s, r1]
  have g4 : upd (tabf (fc l + j) cnt) (fc l + j) (nI (cnt l + ((lastk l + j) / 2 + 1))) = tabf (fc l + j + 1) cnt := by rw [← tabf_s, r2]; rfl
  have g5 : upd (tabf (fc l + j) bnd) (fc l + j) (nI (bnd l + (lastk l + j) % 2)) = tabf (fc l + j + 1) bnd := by rw [← tabf_s, r3]
  rw [g1, g2, g3, g4, g5, J1_s hl hj hk]
  exact h
theorem z_mgo_loop {l : Nat} (hl : l < 1215) {T : hm_T} {Q : hm_S → hm_T → Prop} (h : Q (L1 (fc (l + 1))) T) : ∀ n j, j + n = nch l → ∃ f, wl_2_makeGreaterOnes_21 Q f (nI l) (nI (10 - cnt l)) (nI (lastk l + j)) (L1 (fc l + j)) T := by
  intro n
  induction n with
  | zero =>
    intro j hj
    refine ⟨1, ?_⟩
    show wb_2_makeGreaterOnes_21 Q _ _ _ _ _ T
    have hc10 := (tq_cnt hl).1
    have hla := tq_lastlt hl
    have hjn : j = nch l := by omega
    rw [hjn, ← (tq_fc hl).2.1]
    unfold wb_2_makeGreaterOnes_21
    by_cases h20 : 20 ≤ lastk l + nch l
    · rw [if_pos (by rw [n_lit]; exact nI_le h20 (by unfold nch; omega))]
      exact h
    · rw [if_neg (by rw [n_lit]; exact nI_ge (by omega) (by omega)), e_sizeOfKind (by omega), if_pos (nI_lt (by unfold nch; omega) (by omega))]
      exact h
  | succ n ih =>
    intro j hj
    obtain ⟨f, hf⟩ := ih (j + 1) (by omega)
    exact ⟨f + 1, z_mgo_step hl (by omega) hf⟩
theorem z_makeGreaterOnes {l : Nat} (hl : l < 1215) {T : hm_T} {Q : hm_S → hm_T → Prop} (h : Q (L1 (fc (l + 1))) T) : wp_2_makeGreaterOnes (nI l) (L1 (fc l)) T Q := by
  unfold wp_2_makeGreaterOnes
  have hlf := (tq_fc hl).1
  have hc10 := (tq_cnt hl).1
  rw [e_get hl (by omega), e_get hl (by omega)]
  show ∃ f, wl_2_makeGreaterOnes_21 Q f (nI l) (10 - tabf (fc l) cnt l) (tabf (fc l) lastk l) _ T
  rw [tabf_at cnt hlf, tabf_at lastk hlf, n_lit, pk_sub hc10]
  exact z_mgo_loop hl h (nch l) 0 (by omega)
theorem z_lay1 {T : hm_T} {Q : hm_S → hm_T → Prop} (h : wb_2_init_135 Q (L1 1215) T) : ∀ n l, l + n = 1215 → ∃ f, wl_2_init_109 Q f (nI l) (L1 (fc l)) T := by
  intro n
  induction n with
  | zero =>
    intro l hl
    refine ⟨1, ?_⟩
    show wb_2_init_109 Q _ _ _ T
    unfold wb_2_init_109
    have e : l = 1215 := by omega
    rw [e, k_fc0.2.1, if_pos (show L1 1215 4 7 ≤ nI 1215 from nI_le (Nat.le_refl _) (by omega))]
    exact h
  | succ n ih =>
    intro l hl
    obtain ⟨f, hf⟩ := ih (l + 1) (by omega)
    refine ⟨f + 1, ?_⟩
    show wb_2_init_109 Q _ _ _ T
    unfold wb_2_init_109
    have hl1 : l < 1215 := by omega
    have hfl := tq_fc hl1
    rw [if_neg (show ¬ L1 (fc l) 4 7 ≤ nI l from nI_ge hfl.1 (by omega)), if_neg (by rw [n_lit]; exact nI_ge hl1 (by omega)), nI_1]
    exact z_makeGreaterOnes hl1 hf
