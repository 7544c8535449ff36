/-! ===== how many good moves ===== -/
noncomputable def gdN (ρ : Ru) (q : Nat) : Nat := (os ρ q).countP (fun o => o == gl ρ q)
theorem os_drop {ρ : Ru} {q j : Nat} {m : Mv} (h : (mv ρ q)[j]? = some m) : (os ρ q).drop j = oF ρ (tgt m) :: (os ρ q).drop (j + 1) := by
  have hjl2 : j < (os ρ q).length := by rw [os_len]; exact (List.getElem?_eq_some_iff.mp h).1
  rw [List.drop_eq_getElem_cons hjl2]
  congr 1
  have := os_at (ρ := ρ) h
  rw [List.getElem?_eq_getElem hjl2] at this
  simpa using this
theorem gl_lt (ρ : Ru) (q : Nat) : gl ρ q < 3 := by
  have all : ∀ (l : List Nat) g, g < 3 → l.foldl gst g < 3 := by
    intro l
    induction l with
    | nil => intro g hg; exact hg
    | cons a l ih => intro g hg; rw [List.foldl_cons]; exact ih _ (gst_lt hg)
  exact all _ 1 (by omega)
section GD
variable {T : hm_T}
theorem z_goodLoop {ρ : Ru} (hr : rok ρ) {q : Nat} (hq : q < 2430) {S : hm_S} (hs : solM ρ S) (hm : mlM (mv ρ q) S) {Q : Int32 → hm_S → hm_T → Prop} (h : Q (nI (gdN ρ q)) S T) : ∀ c j n, j + c = (mv ρ q).length → n + ((os ρ q).drop j).countP (fun o => o == gl ρ q) = gdN ρ q → wl_11_good_13 Q (c + 1) (nI (gl ρ q)) (nI n) (nI j) S T := by
  have hlen : (mv ρ q).length ≤ 31 := Nat.le_trans mv_len (tq_mvB hq)
  have hgl := gl_lt ρ q
  intro c
  induction c with
  | zero =>
    intro j n hj he
    show wb_11_good_13 Q _ _ _ _ S T
    unfold wb_11_good_13
    rw [hm.1, if_pos (nI_le (by omega) (by omega))]
    rw [List.drop_of_length_le (by rw [os_len]; omega)] at he
    rw [show n = gdN ρ q by simpa using he]
    exact h
  | succ c ih =>
    intro j n hj he
    have hjl : j < (mv ρ q).length := by omega
    obtain ⟨m, hm2⟩ : ∃ m, (mv ρ q)[j]? = some m := ⟨_, List.getElem?_eq_getElem hjl⟩
    have htl := tgt_lt hq m (List.mem_of_getElem? hm2)
    have hpt := pM_lt htl
    have ho := oF_lt hr (tgt m)
    rw [os_drop hm2, List.countP_cons] at he
    show wb_11_good_13 Q _ _ _ _ S T
    unfold wb_11_good_13 wb_11_good_42
    rw [hm.1, if_neg (nI_ge hjl (by omega)), nI_clamp (show j < 2 ^ 31 by omega), (hm.2 j m hm2).2.2.2.2.2, nI_clamp (show pM (tgt m) < 2 ^ 31 by omega), (hs.2.2 _ htl).1, nI_1 j, nI_1 n]
    refine ⟨vp_in_nI (by omega) (by omega), vp_in_nI (by omega) (by omega), ?_⟩
    by_cases h0 : oF ρ (tgt m) = gl ρ q
    · rw [if_pos (by rw [h0])]
      refine ih (j + 1) (n + 1) (by omega) ?_
      rw [if_pos (by simp [h0])] at he
      omega
    · rw [if_neg (by rw [nI_eq (by omega) (by omega)]; exact h0), q_0, nI_add]
      refine ih (j + 1) (n + 0) (by omega) ?_
      rw [if_neg (by simp [h0])] at he
      omega
theorem x_goodLoop {ρ : Ru} (hr : rok ρ) {kn : List Nat} {q : Nat} (hq : q < 2430) (hqk : q ∈ kn) {S : hm_S} (hk : KN kn S) (hc : clo ρ kn) (hs : solX ρ kn S) (hm : ml (mv ρ q) S) {x : Int32} (hx : (mv ρ q).length ≠ 0 → x = nI (gl ρ q)) {Q : Int32 → hm_S → hm_T → Prop} (h : Q (nI (gdN ρ q)) S T) : ∀ c j n, j + c = (mv ρ q).length → n + ((os ρ q).drop j).countP (fun o => o == gl ρ q) = gdN ρ q → wl_10_goodMoves_9 Q (c + 1) x (nI n) (nI j) S T := by
  have hlen : (mv ρ q).length ≤ 31 := Nat.le_trans mv_len (tq_mvB hq)
  have hgl := gl_lt ρ q
  intro c
  induction c with
  | zero =>
    intro j n hj he
    show wb_10_goodMoves_9 Q _ _ _ _ S T
    unfold wb_10_goodMoves_9
    rw [hm.1, if_pos (nI_le (by omega) (by omega))]
    rw [List.drop_of_length_le (by rw [os_len]; omega)] at he
    rw [show n = gdN ρ q by simpa using he]
    exact h
  | succ c ih =>
    intro j n hj he
    have hjl : j < (mv ρ q).length := by omega
    obtain ⟨m, hm2⟩ : ∃ m, (mv ρ q)[j]? = some m := ⟨_, List.getElem?_eq_getElem hjl⟩
    have ho := oF_lt hr (tgt m)
    have htk : tgt m ∈ kn := hc q hqk _ (List.mem_map.mpr ⟨m, List.mem_of_getElem? hm2, rfl⟩)
    have hx' := hx (by omega)
    rw [os_drop hm2, List.countP_cons] at he
    show wb_10_goodMoves_9 Q _ _ _ _ S T
    unfold wb_10_goodMoves_9 wp_3_targetOf wb_10_goodMoves_42
    rw [hm.1, if_neg (nI_ge hjl (by omega)), e_get (by omega) (by omega)]
    simp only [Nat.reduceAdd]
    rw [(hm.2 j m hm2).2.2.2.2.2]
    refine x_outcomeOf hk hs htk ?_
    rw [nI_1 j, nI_1 n]
    by_cases h0 : oF ρ (tgt m) = gl ρ q
    · rw [if_pos (by rw [h0, hx'])]
      refine ih (j + 1) (n + 1) (by omega) ?_
      rw [if_pos (by simp [h0])] at he
      omega
    · rw [if_neg (by rw [hx', nI_eq (by omega) (by omega)]; exact h0)]
      refine ih (j + 1) n (by omega) ?_
      rw [if_neg (by simp [h0])] at he
      omega
end GD
