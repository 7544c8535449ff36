/-! ===== the best move ===== -/
noncomputable def bsF (ρ : Ru) (g : Nat) : List Nat → Nat → Int32 → Int32 → Int32
  | [], _, b, _ => b
  | t :: l, i, b, d => if oF ρ t = g then (if b = -1 then bsF ρ g l (i + 1) (nI i) (dI ρ t) else if g = 0 then (if d ≤ dI ρ t then bsF ρ g l (i + 1) b d else bsF ρ g l (i + 1) (nI i) (dI ρ t)) else (if dI ρ t ≤ d then bsF ρ g l (i + 1) b d else bsF ρ g l (i + 1) (nI i) (dI ρ t))) else bsF ρ g l (i + 1) b d
noncomputable def bsN (ρ : Ru) (q : Nat) : Int32 := bsF ρ (gl ρ q) (suc ρ q) 0 (-1) (-1)
theorem suc_drop {ρ : Ru} {q j : Nat} {m : Mv} (h : (mv ρ q)[j]? = some m) : (suc ρ q).drop j = tgt m :: (suc ρ q).drop (j + 1) := by
  have hjl2 : j < (suc ρ q).length := by unfold suc; rw [List.length_map]; exact (List.getElem?_eq_some_iff.mp h).1
  rw [List.drop_eq_getElem_cons hjl2]
  congr 1
  have : (suc ρ q)[j]? = some (tgt m) := by unfold suc; rw [List.getElem?_map, h]; rfl
  rw [List.getElem?_eq_getElem hjl2] at this
  simpa using this
theorem suc_len (ρ : Ru) (q : Nat) : (suc ρ q).length = (mv ρ q).length := by unfold suc; rw [List.length_map]
theorem dI_2 {ρ : Ru} {q : Nat} (h : oF ρ q = 2) : dI ρ q = -1 := by
  unfold dI
  unfold oF at h
  rw [if_neg (by omega)]
section XBM
variable {T : hm_T}
theorem x_bestLoop {ρ : Ru} (hr : rok ρ) {kn : List Nat} {q : Nat} (hq : q < 2430) (hqk : q ∈ kn) {S : hm_S} (hk : KN kn S) (hc : clo ρ kn) (hs : solX ρ kn S) (hm : ml (mv ρ q) S) {x : Int32} (hx : (mv ρ q).length ≠ 0 → x = nI (gl ρ q)) {Q : Int32 → hm_S → hm_T → Prop} (h : Q (bsN ρ q) S T) : ∀ c j (b d : Int32), j + c = (mv ρ q).length → bsF ρ (gl ρ q) ((suc ρ q).drop j) j b d = bsN ρ q → wl_10_bestMove_12 Q (c + 1) x b d (nI j) S T := by
  have hlen : (mv ρ q).length ≤ 31 := Nat.le_trans mv_len (tq_mvB hq)
  have hgl := gl_lt ρ q
  intro c
  induction c with
  | zero =>
    intro j b d hj he
    show wb_10_bestMove_12 Q _ _ _ _ _ S T
    unfold wb_10_bestMove_12
    rw [hm.1, if_pos (nI_le (by omega) (by omega))]
    rw [List.drop_of_length_le (by rw [suc_len]; omega)] at he
    have he : b = bsN ρ q := he
    rw [he]
    exact h
  | succ c ih =>
    intro j b d hj he
    have hjl : j < (mv ρ q).length := by omega
    obtain ⟨m, hm2⟩ : ∃ m, (mv ρ q)[j]? = some m := ⟨_, List.getElem?_eq_getElem hjl⟩
    have ho := oF_lt hr (tgt m)
    have htk : tgt m ∈ kn := hc q hqk _ (List.mem_map.mpr ⟨m, List.mem_of_getElem? hm2, rfl⟩)
    have hx' := hx (by omega)
    rw [suc_drop hm2] at he
    simp only [bsF] at he
    have keep : bsF ρ (gl ρ q) ((suc ρ q).drop (j + 1)) (j + 1) b d = bsN ρ q → wb_10_bestMove_109 Q (wl_10_bestMove_12 Q (c + 1)) x b d (nI j) S T := by
      intro e
      unfold wb_10_bestMove_109
      rw [nI_1]
      exact ih (j + 1) b d (by omega) e
    have put : bsF ρ (gl ρ q) ((suc ρ q).drop (j + 1)) (j + 1) (nI j) (dI ρ (tgt m)) = bsN ρ q → wb_10_bestMove_103 Q (wl_10_bestMove_12 Q (c + 1)) x (nI j) (dI ρ (tgt m)) S T := by
      intro e
      unfold wb_10_bestMove_103 wb_10_bestMove_109
      rw [nI_1]
      exact ih (j + 1) (nI j) (dI ρ (tgt m)) (by omega) e
    show wb_10_bestMove_12 Q _ _ _ _ _ S T
    unfold wb_10_bestMove_12 wp_3_targetOf
    rw [hm.1, if_neg (nI_ge hjl (by omega)), e_get (by omega) (by omega)]
    simp only [Nat.reduceAdd]
    rw [(hm.2 j m hm2).2.2.2.2.2]
    refine x_outcomeOf hk hs htk ?_
    by_cases h0 : oF ρ (tgt m) = gl ρ q
    · rw [if_pos h0] at he
      rw [if_pos (by rw [h0, hx'])]
      refine x_distanceOf hk hs htk ?_
      unfold wb_10_bestMove_91
      by_cases hb : b = -1
      · rw [if_pos hb] at he
        have r := put he
        by_cases g0 : x = 0
        · rw [if_pos g0]
          by_cases k : d ≤ dI ρ (tgt m)
          · rw [if_pos k, if_pos hb]; exact r
          · rw [if_neg k, if_pos hb]; exact r
        · rw [if_neg g0]
          by_cases k : dI ρ (tgt m) ≤ d
          · rw [if_pos k, if_pos hb]; exact r
          · rw [if_neg k, if_pos hb]; exact r
      · rw [if_neg hb] at he
        by_cases g0 : gl ρ q = 0
        · rw [if_pos g0] at he
          rw [if_pos (show x = 0 by rw [hx', g0]; rfl)]
          by_cases k : d ≤ dI ρ (tgt m)
          · rw [if_pos k] at he
            rw [if_pos k, if_neg hb, if_pos rfl]; exact keep he
          · rw [if_neg k] at he
            rw [if_neg k, if_neg hb, if_neg (by decide)]; exact put he
        · rw [if_neg g0] at he
          rw [if_neg (show ¬ x = 0 by rw [hx', q_0, nI_eq (by omega) (by omega)]; exact g0)]
          by_cases k : dI ρ (tgt m) ≤ d
          · rw [if_pos k] at he
            rw [if_pos k, if_neg hb, if_pos rfl]; exact keep he
          · rw [if_neg k] at he
            rw [if_neg k, if_neg hb, if_neg (by decide)]; exact put he
    · rw [if_neg h0] at he
      rw [if_neg (by rw [hx', nI_eq (by omega) (by omega)]; exact h0)]
      exact keep he
/-- what the reference carries: the best so far, and which distance it has -/
def bInv (ρ : Ru) (q j : Nat) (b d : Int32) : Prop := b = -1 ∨ ∃ k m, k < j ∧ b = nI k ∧ (mv ρ q)[k]? = some m ∧ d = dI ρ (tgt m) ∧ oF ρ (tgt m) = gl ρ q
theorem z_bestLoop {ρ : Ru} (hr : rok ρ) {q : Nat} (hq : q < 2430) {S : hm_S} (hs : solM ρ S) (hm : mlM (mv ρ q) S) {Q : Int32 → hm_S → hm_T → Prop} (h : Q (bsN ρ q) S T) : ∀ c j (b d : Int32), j + c = (mv ρ q).length → bInv ρ q j b d → bsF ρ (gl ρ q) ((suc ρ q).drop j) j b d = bsN ρ q → wl_11_bestOf_9 Q (c + 1) (nI (gl ρ q)) b (nI j) S T := by
  have hlen : (mv ρ q).length ≤ 31 := Nat.le_trans mv_len (tq_mvB hq)
  have hgl := gl_lt ρ q
  intro c
  induction c with
  | zero =>
    intro j b d hj hb he
    show wb_11_bestOf_9 Q _ _ _ _ S T
    unfold wb_11_bestOf_9
    rw [hm.1, if_pos (nI_le (by omega) (by omega))]
    rw [List.drop_of_length_le (by rw [suc_len]; omega)] at he
    have he : b = bsN ρ q := he
    rw [he]
    exact h
  | succ c ih =>
    intro j b d hj hb he
    have hjl : j < (mv ρ q).length := by omega
    obtain ⟨m, hm2⟩ : ∃ m, (mv ρ q)[j]? = some m := ⟨_, List.getElem?_eq_getElem hjl⟩
    have htl := tgt_lt hq m (List.mem_of_getElem? hm2)
    have hpt := pM_lt htl
    have ho := oF_lt hr (tgt m)
    rw [suc_drop hm2] at he
    simp only [bsF] at he
    have v1 : vp_in (nI j) 64 := vp_in_nI (by omega) (by omega)
    have v2 : vp_in (nI (pM (tgt m))) 2430 := vp_in_nI (by omega) (by omega)
    have e12 : S 12 j = nI (pM (tgt m)) := (hm.2 j m hm2).2.2.2.2.2
    have mono : bInv ρ q (j + 1) b d := by
      rcases hb with e | ⟨k, mk, h1, h2⟩
      · exact Or.inl e
      · exact Or.inr ⟨k, mk, by omega, h2⟩
    -- the end of a turn: z says whether the new one is better
    have t84 : ∀ z : Int32, (oF ρ (tgt m) = gl ρ q → z = 0 → bsF ρ (gl ρ q) ((suc ρ q).drop (j + 1)) (j + 1) b d = bsN ρ q) → (oF ρ (tgt m) = gl ρ q → z ≠ 0 → bsF ρ (gl ρ q) ((suc ρ q).drop (j + 1)) (j + 1) (nI j) (dI ρ (tgt m)) = bsN ρ q) → wb_11_bestOf_84 Q (wl_11_bestOf_9 Q (c + 1)) (nI (gl ρ q)) b (nI j) z S T := by
      intro z hz hz1
      unfold wb_11_bestOf_84 wb_11_bestOf_110 wb_11_bestOf_111
      rw [nI_clamp (show j < 2 ^ 31 by omega), e12, nI_clamp (show pM (tgt m) < 2 ^ 31 by omega), (hs.2.2 _ htl).1, nI_1]
      refine ⟨v1, v2, ?_⟩
      by_cases h0 : oF ρ (tgt m) = gl ρ q
      · rw [if_pos (by rw [h0])]
        by_cases z0 : z = 0
        · rw [if_pos z0]
          exact ih (j + 1) b d (by omega) mono (hz h0 z0)
        · rw [if_neg z0]
          exact ih (j + 1) (nI j) (dI ρ (tgt m)) (by omega) (Or.inr ⟨j, m, by omega, rfl, hm2, rfl, h0⟩) (hz1 h0 z0)
      · rw [if_neg (by rw [nI_eq (by omega) (by omega)]; exact h0)]
        rw [if_neg h0] at he
        exact ih (j + 1) b d (by omega) mono he
    show wb_11_bestOf_9 Q _ _ _ _ S T
    unfold wb_11_bestOf_9 wb_11_bestOf_79 wb_11_bestOf_83
    rw [hm.1, if_neg (nI_ge hjl (by omega)), nI_clamp (show j < 2 ^ 31 by omega), e12, nI_clamp (show pM (tgt m) < 2 ^ 31 by omega), (hs.2.2 _ htl).2]
    refine ⟨v1, v2, ?_⟩
    by_cases hb1 : b = -1
    · rw [if_pos hb1]
      refine t84 1 (fun _ e => absurd e (by decide)) (fun h0 _ => ?_)
      rw [if_pos h0, if_pos hb1] at he
      exact he
    · obtain ⟨k, mk, h1, h2, h3, h4, h5⟩ := hb.resolve_left hb1
      have hkl := tgt_lt hq mk (List.mem_of_getElem? h3)
      have hpk := pM_lt hkl
      have e12k : S 12 k = nI (pM (tgt mk)) := (hm.2 k mk h3).2.2.2.2.2
      have dk : S 16 (pM (tgt mk)) = d := by rw [h4]; exact (hs.2.2 _ hkl).2
      have vk1 : vp_in b 64 := by rw [h2]; exact vp_in_nI (by omega) (by omega)
      have vk2 : vp_in (nI (pM (tgt mk))) 2430 := vp_in_nI (by omega) (by omega)
      have ck : Int32.toNatClampNeg b = k := by rw [h2]; exact nI_clamp (by omega)
      rw [if_neg hb1, ck, e12k, nI_clamp (show pM (tgt mk) < 2 ^ 31 by omega), dk]
      by_cases g0 : gl ρ q = 0
      · rw [if_pos (show nI (gl ρ q) = 0 by rw [g0]; rfl)]
        refine ⟨vk1, vk2, ?_⟩
        by_cases kk : d ≤ dI ρ (tgt m)
        · rw [if_pos kk]
          refine t84 0 (fun h0 _ => ?_) (fun _ e => absurd rfl e)
          rw [if_pos h0, if_neg hb1, if_pos g0, if_pos kk] at he
          exact he
        · rw [if_neg kk]
          refine t84 1 (fun _ e => absurd e (by decide)) (fun h0 _ => ?_)
          rw [if_pos h0, if_neg hb1, if_pos g0, if_neg kk] at he
          exact he
      · rw [if_neg (show ¬ nI (gl ρ q) = 0 by rw [q_0, nI_eq (by omega) (by omega)]; exact g0)]
        by_cases g1 : gl ρ q = 1
        · rw [if_pos (show nI (gl ρ q) = 1 by rw [g1]; rfl)]
          refine ⟨vk1, vk2, ?_⟩
          by_cases kk : dI ρ (tgt m) ≤ d
          · rw [if_pos kk]
            refine t84 0 (fun h0 _ => ?_) (fun _ e => absurd rfl e)
            rw [if_pos h0, if_neg hb1, if_neg g0, if_pos kk] at he
            exact he
          · rw [if_neg kk]
            refine t84 1 (fun _ e => absurd e (by decide)) (fun h0 _ => ?_)
            rw [if_pos h0, if_neg hb1, if_neg g0, if_neg kk] at he
            exact he
        · rw [if_neg (show ¬ nI (gl ρ q) = 1 by rw [q_1, nI_eq (by omega) (by omega)]; exact g1)]
          refine t84 0 (fun h0 _ => ?_) (fun _ e => absurd rfl e)
          have g2 : gl ρ q = 2 := by omega
          have d1 : dI ρ (tgt m) = -1 := dI_2 (by omega)
          have d2 : d = -1 := by rw [h4]; exact dI_2 (by omega)
          rw [if_pos h0, if_neg hb1, if_neg g0, if_pos (by rw [d1, d2]; decide)] at he
          exact he
end XBM
