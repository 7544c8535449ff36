/-! ===== digest, the reference ===== -/
theorem IZ.t {s : Sp} {S : hm_S} {T : hm_T} (h : IZ s S T) (v : Int64) : IZ s S (hm_up T 0 33 v) := by
  refine ⟨?_, h.2⟩
  have r := h.1
  unfold tabM at r ⊢
  rw [hm_up_row _ _ _ (by decide)]
  exact r
theorem n_div7 {n : Nat} (h : n < 2 ^ 31) : nI n / 7 = nI (n / 7) := by rw [q_7]; exact pk_div h (by omega) (by omega)
theorem n_rem7 {n : Nat} (h : n < 2 ^ 31) : nI n - nI n / 7 * 7 = nI (n % 7) := by rw [q_7]; exact pk_rem h (by omega) (by omega)
theorem n_div3 {n : Nat} (h : n < 2 ^ 31) : nI n / 3 = nI (n / 3) := by rw [q_3]; exact pk_div h (by omega) (by omega)
theorem n_rem3 {n : Nat} (h : n < 2 ^ 31) : nI n - nI n / 3 * 3 = nI (n % 3) := by rw [q_3]; exact pk_rem h (by omega) (by omega)
theorem q_14 : (14 : Int32) = nI 14 := rfl
section MDG
theorem z_dgText {s : Sp} (ho : okS s) {H : Int64} {S : hm_S} (ht : TM s.2.1 S) {Q : Int64 → hm_S → hm_T → Prop} (h : ∀ T, IZ s S T → Q H S T) : ∀ c i y (T : hm_T), i + c = s.2.1.length → IZ s S T → T 0 33 = y → fN (gTx s) c i y = H → wl_11_digest_218 Q (c + 1) (nI i) S T := by
  have hl := ht.2.1
  intro c
  induction c with
  | zero =>
    intro i y T hi hI hT he
    show wb_11_digest_218 Q _ _ S T
    unfold wb_11_digest_218
    rw [ht.1, if_pos (nI_le (by omega) (by omega)), hT]
    have he : y = H := he
    rw [he]; exact h T hI
  | succ c ih =>
    intro i y T hi hI hT he
    obtain ⟨h1, h2⟩ := ca_in ho.2.1 (show i < s.2.1.length by omega)
    have e : gTx s i = nI (ca s.2.1 i) := by unfold gTx; rw [List.getD_eq_getElem?_getD, h2]; rfl
    show wb_11_digest_218 Q _ _ S T
    unfold wb_11_digest_218 wp_11_mixes
    rw [ht.1, if_neg (nI_ge (by omega) (by omega)), nI_clamp (show i < 2 ^ 31 by omega), ht.2.2 i _ h2, nI_1, hT]
    rw [fN_s, e] at he
    exact ⟨vp_in_nI (by omega) (by omega), ih (i + 1) _ _ (by omega) (hI.t _) (hm_up_same _ _ _ _) he⟩
theorem z_dgVals {s : Sp} {H : Int64} {S : hm_S} (hv : ∀ n, n ≤ 60 → S 19 n = nI (gv s.1 n)) {Q : Int64 → hm_S → hm_T → Prop} (h : ∀ T, IZ s S T → T 0 33 = H → wb_11_digest_216 Q S T) : ∀ c n y (T : hm_T), n + c = 61 → IZ s S T → T 0 33 = y → fN (gGv s) c n y = H → wl_11_digest_193 Q (c + 1) (nI n) S T := by
  intro c
  induction c with
  | zero =>
    intro n y T hn hI hT he
    show wb_11_digest_193 Q _ _ S T
    unfold wb_11_digest_193
    rw [q_61, if_pos (nI_le (by omega) (by omega))]
    have he : y = H := he
    exact h T hI (by rw [hT, he])
  | succ c ih =>
    intro n y T hn hI hT he
    show wb_11_digest_193 Q _ _ S T
    unfold wb_11_digest_193 wp_11_mixes
    rw [q_61, if_neg (nI_ge (by omega) (by omega)), nI_clamp (show n < 2 ^ 31 by omega), hv n (by omega), nI_1, hT]
    exact ⟨vp_in_nI (by omega) (by omega), ih (n + 1) _ _ (by omega) (hI.t _) (hm_up_same _ _ _ _) he⟩
theorem z_135 {s : Sp} (ho : okS s) {S : hm_S} {T : hm_T} (hI : IZ s S T) (hT : T 0 33 = h_4 s) {Q : Int64 → hm_S → hm_T → Prop} (h : ∀ S' T', IZ s S' T' → Q (a_digest s) S' T') : wb_11_digest_135 Q S T := by
  unfold wb_11_digest_135
  refine Z_outcome ho hI (fun S1 I1 => ?_)
  unfold wp_11_mixes
  rw [hT]
  refine Z_distance ho (I1.t _) (fun S2 I2 => ?_)
  rw [hm_up_same]
  refine Z_best ho (I2.t _) (fun S3 I3 => ?_)
  rw [hm_up_same]
  refine Z_good ho (I3.t _) (fun S4 I4 => ?_)
  rw [hm_up_same]
  refine Z_period ho (I4.t _) 0 (fun S5 I5 _ => ?_)
  rw [hm_up_same]
  refine Z_period ho (I5.t _) 1 (fun S6 I6 v6 => ?_)
  rw [hm_up_same, q_0]
  have v := v6 1 (idx_nI (i := 1) (n := 2) (by omega) (by omega))
  have e0 : a_period s (nI 0) = (per s.1).1 := by unfold a_period; rw [idx_nI (by omega) (by omega)]; rfl
  have e1 : a_period s 1 = (per s.1).2 := by unfold a_period; rw [q_1, idx_nI (by omega) (by omega)]; rfl
  rw [e0, e1]
  refine ⟨_, z_dgVals v (H := h_6 s) (fun T7 I7 h7 => ?_) 61 0 (h_5 s) _ (by omega) (I6.t _) (hm_up_same _ _ _ _) rfl⟩
  unfold wb_11_digest_216
  rw [q_0]
  exact ⟨_, z_dgText ho I6.2.2.2.2.2 (H := a_digest s) (fun T8 I8 => h S6 T8 I8) s.2.1.length 0 (h_6 s) T7 (by omega) I7 h7 rfl⟩
theorem z_dgMoves {s : Sp} (ho : okS s) {S : hm_S} (hs : solM s.1 S) (hm : mlM (mv s.1 s.2.2.1) S) {Q : Int64 → hm_S → hm_T → Prop} (h : ∀ T, IZ s S T → T 0 33 = h_4 s → wb_11_digest_135 Q S T) : ∀ c k y (T : hm_T), k + c = 7 * (mv s.1 s.2.2.1).length → IZ s S T → T 0 33 = y → fN (gMv s) c k y = h_4 s → wl_11_digest_101 Q (c + 1) (nI k) S T := by
  have hq := ho.2.2.1
  have hl := mv_31 (ρ := s.1) hq
  have e7 : (7 : Int32) * nI (mv s.1 s.2.2.1).length = nI (7 * (mv s.1 s.2.2.1).length) := by rw [q_7, pk_mul]
  intro c
  induction c with
  | zero =>
    intro k y T hk hI hT he
    show wb_11_digest_101 Q _ _ S T
    unfold wb_11_digest_101
    rw [hm.1, e7, if_pos (nI_le (by omega) (by omega))]
    have he : y = h_4 s := he
    exact h T hI (by rw [hT, he])
  | succ c ih =>
    intro k y T hk hI hT he
    obtain ⟨m, hmi⟩ : ∃ m, (mv s.1 s.2.2.1)[k / 7]? = some m := ⟨_, List.getElem?_eq_getElem (by omega)⟩
    show wb_11_digest_101 Q _ _ S T
    unfold wb_11_digest_101 wp_11_mixes
    rw [hm.1, e7, if_neg (nI_ge (by omega) (by omega)), n_rem7 (by omega), n_div7 (by omega)]
    refine z_part hq hs hm hmi (by omega) ?_
    rw [nI_1, hT]
    rw [fN_s, show gMv s k = mvP s.1 m (k % 7) by unfold gMv; rw [hmi]] at he
    exact ih (k + 1) _ _ (by omega) (hI.t _) (hm_up_same _ _ _ _) he
theorem z_dgHeaps {s : Sp} (ho : okS s) {Q : Int64 → hm_S → hm_T → Prop} (h : ∀ S T, IZ s S T → T 0 33 = h_3 s → wb_11_digest_95 Q S T) : ∀ c k y S (T : hm_T), k + c = 3 * len (s.2.2.1 / 2) → IZ s S T → T 0 33 = y → fN (gHp s) c k y = h_3 s → wl_11_digest_57 Q (c + 1) (nI k) S T := by
  have hq := ho.2.2.1
  have hl : s.2.2.1 / 2 < 1215 := by omega
  have hlen := tq_len hl
  have hr := (tq_pi hl).1
  have hp := pM_lt hq
  have e3 : (3 : Int32) * nI (len (s.2.2.1 / 2)) = nI (3 * len (s.2.2.1 / 2)) := by rw [q_3, pk_mul]
  have ed : nI (pM s.2.2.1) / 2 = nI (xpi (s.2.2.1 / 2)) := by rw [q_2, n_div2 (by omega), show pM s.2.2.1 / 2 = xpi (s.2.2.1 / 2) by unfold pM; omega]
  intro c
  induction c with
  | zero =>
    intro k y S T hk hI hT he
    show wb_11_digest_57 Q _ _ S T
    unfold wb_11_digest_57
    rw [hI.2.2.2.1, ed, nI_clamp (by omega), hI.1.1 _ hr, len_pi hl, e3, if_pos (nI_le (by omega) (by omega))]
    have he : y = h_3 s := he
    exact ⟨vp_in_nI hr (by omega), h S T hI (by rw [hT, he])⟩
  | succ c ih =>
    intro k y S T hk hI hT he
    show wb_11_digest_57 Q _ _ S T
    unfold wb_11_digest_57 wp_11_mixes
    rw [hI.2.2.2.1, ed, nI_clamp (by omega), hI.1.1 _ hr, len_pi hl, e3, if_neg (nI_ge (by omega) (by omega)), n_rem3 (by omega), n_div3 (by omega)]
    refine ⟨vp_in_nI hr (by omega), ?_⟩
    refine Z_heap ho hI _ _ (fun S1 I1 => ?_)
    rw [nI_1, hT]
    rw [a_heap2 (h := k / 3) (w := k % 3) (idx_nI (by omega) (by omega)) (idx_nI (by omega) (by omega))]
    exact ih (k + 1) _ S1 _ (by omega) (I1.t _) (hm_up_same _ _ _ _) he
theorem Z_digest {s : Sp} (ho : okS s) {S : hm_S} {T : hm_T} (hI : IZ s S T) {Q : Int64 → hm_S → hm_T → Prop} (h : ∀ S' T', IZ s S' T' → Q (a_digest s) S' T') : wp_11_digest S T Q := by
  have hq := ho.2.2.1
  have k3 : ∀ S T, IZ s S T → T 0 33 = h_3 s → wb_11_digest_95 Q S T := by
    intro S T hI hT
    unfold wb_11_digest_95
    refine z_looks ho.1 hI.1 hI.2.1 hI.2.2.1 hq hI.2.2.2.1 (fun S1 f1 t1 u1 h19 s1 hm => ?_)
    have I1 : IZ s S1 T := hI.lrn f1 (Or.inr ⟨h19, s1⟩)
    rw [q_0]
    exact ⟨_, z_dgMoves ho s1 hm (fun T2 I2 h2 => z_135 ho I2 h2 h) (7 * (mv s.1 s.2.2.1).length) 0 (h_3 s) T (by omega) I1 hT rfl⟩
  have k2 : ∀ c w y S (T : hm_T), w + c = 8 → IZ s S T → T 0 33 = y → fN (cntP s) c w y = h_2 s → wl_11_digest_33 Q (c + 1) (nI w) S T := by
    intro c
    induction c with
    | zero =>
      intro w y S T hw hI hT he
      show wb_11_digest_33 Q _ _ S T
      unfold wb_11_digest_33 wb_11_digest_55
      rw [q_8, if_pos (nI_le (by omega) (by omega)), q_0]
      have he : y = h_2 s := he
      exact ⟨_, z_dgHeaps ho k3 (3 * len (s.2.2.1 / 2)) 0 (h_2 s) S T (by omega) hI (by rw [hT, he]) rfl⟩
    | succ c ih =>
      intro w y S T hw hI hT he
      show wb_11_digest_33 Q _ _ S T
      unfold wb_11_digest_33 wp_11_mixes
      rw [q_8, if_neg (nI_ge (by omega) (by omega))]
      refine Z_count ho hI (nI w) (fun S1 I1 => ?_)
      rw [a_count1 (idx_nI (by omega) (by omega)), nI_1, hT]
      exact ih (w + 1) _ S1 _ (by omega) (I1.t _) (hm_up_same _ _ _ _) he
  have k1 : ∀ c k y (T : hm_T), k + c = 14 → IZ s S T → T 0 33 = y → fN (gRu s) c k y = h_1 s → wl_11_digest_9 Q (c + 1) (nI k) S T := by
    intro c
    induction c with
    | zero =>
      intro k y T hk hI hT he
      show wb_11_digest_9 Q _ _ S T
      unfold wb_11_digest_9 wb_11_digest_31
      rw [q_14, if_pos (nI_le (by omega) (by omega)), q_0]
      have he : y = h_1 s := he
      exact ⟨_, k2 8 0 (h_1 s) S T (by omega) hI (by rw [hT, he]) rfl⟩
    | succ c ih =>
      intro k y T hk hI hT he
      show wb_11_digest_9 Q _ _ S T
      unfold wb_11_digest_9 wp_11_mixes
      rw [q_14, if_neg (nI_ge (by omega) (by omega))]
      refine z_rule (s := s) ho hI.2.1 (nI k) ?_
      rw [nI_1, hT]
      exact ih (k + 1) _ _ (by omega) (hI.t _) (hm_up_same _ _ _ _) he
  unfold wp_11_digest
  rw [q_1]
  exact ⟨_, k1 13 1 475 (hm_up T 0 33 475) (by omega) (hI.t _) (hm_up_same _ _ _ _) rfl⟩
end MDG
