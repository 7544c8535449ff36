/-! ===== the outcome to aim at, the good moves, the best move ===== -/
/-- outcomes of the targets, one after another -/
noncomputable def os (ρ : Ru) (q : Nat) : List Nat := (suc ρ q).map (oF ρ)
def gst (g o : Nat) : Nat := if o = 0 ∨ g = 0 then 0 else if o = 2 then 2 else g
/-- the reference's goal -/
noncomputable def gl (ρ : Ru) (q : Nat) : Nat := (os ρ q).foldl gst 1
theorem oF_lt {ρ : Ru} (hr : rok ρ) (q : Nat) : oF ρ q < 3 := by have := vO_le hr (dF ρ q) q; unfold oF; omega
theorem os_len (ρ : Ru) (q : Nat) : (os ρ q).length = (mv ρ q).length := by unfold os suc; rw [List.length_map, List.length_map]
theorem os_at {ρ : Ru} {q j : Nat} {m : Mv} (h : (mv ρ q)[j]? = some m) : (os ρ q)[j]? = some (oF ρ (tgt m)) := by unfold os suc; rw [List.getElem?_map, List.getElem?_map, h]; rfl
theorem gst_lt {g o : Nat} (hg : g < 3) : gst g o < 3 := by
  unfold gst
  by_cases h : o = 0 ∨ g = 0
  · rw [if_pos h]; omega
  · rw [if_neg h]
    by_cases h2 : o = 2
    · rw [if_pos h2]; omega
    · rw [if_neg h2]; exact hg
section MG
variable {T : hm_T}
theorem z_goalLoop {ρ : Ru} (hr : rok ρ) {q : Nat} (hq : q < 2430) {S : hm_S} (hs : solM ρ S) (hm : mlM (mv ρ q) S) {Q : Int32 → hm_S → hm_T → Prop} (h : Q (nI (gl ρ q)) S T) : ∀ c j g, j + c = (mv ρ q).length → g < 3 → ((os ρ q).drop j).foldl gst g = gl ρ q → wl_11_goal_4 Q (c + 1) (nI g) (nI j) S T := by
  have hlen : (mv ρ q).length ≤ 31 := Nat.le_trans mv_len (tq_mvB hq)
  intro c
  induction c with
  | zero =>
    intro j g hj hg he
    show wb_11_goal_4 Q _ _ _ S T
    unfold wb_11_goal_4
    rw [hm.1, if_pos (nI_le (by omega) (by omega))]
    rw [List.drop_of_length_le (by rw [os_len]; omega)] at he
    have he : g = gl ρ q := he
    rw [he]
    exact h
  | succ c ih =>
    intro j g hj hg he
    have hjl : j < (mv ρ q).length := by omega
    obtain ⟨m, hm2⟩ : ∃ m, (mv ρ q)[j]? = some m := ⟨_, List.getElem?_eq_getElem hjl⟩
    have htl := tgt_lt hq m (List.mem_of_getElem? hm2)
    have hpt := pM_lt htl
    have ho := oF_lt hr (tgt m)
    have hdr : (os ρ q).drop j = oF ρ (tgt m) :: (os ρ q).drop (j + 1) := by
      have hjl2 : j < (os ρ q).length := by rw [os_len]; exact hjl
      rw [List.drop_eq_getElem_cons hjl2]
      congr 1
      have := os_at (ρ := ρ) hm2
      rw [List.getElem?_eq_getElem hjl2] at this
      simpa using this
    rw [hdr] at he
    have he : ((os ρ q).drop (j + 1)).foldl gst (gst g (oF ρ (tgt m))) = gl ρ q := he
    have nx := ih (j + 1) (gst g (oF ρ (tgt m))) (by omega) (gst_lt hg) he
    show wb_11_goal_4 Q _ _ _ S T
    unfold wb_11_goal_4 wb_11_goal_32 wb_11_goal_46
    rw [hm.1, if_neg (nI_ge hjl (by omega)), nI_clamp (show j < 2 ^ 31 by omega), (hm.2 j m hm2).2.2.2.2.2, nI_clamp (show pM (tgt m) < 2 ^ 31 by omega), (hs.2.2 _ htl).1, nI_1]
    refine ⟨vp_in_nI (by omega) (by omega), vp_in_nI (by omega) (by omega), ?_⟩
    by_cases h0 : oF ρ (tgt m) = 0
    · rw [if_pos (by rw [h0]; rfl), q_0]
      rw [show gst g (oF ρ (tgt m)) = 0 by unfold gst; rw [if_pos (Or.inl h0)]] at nx
      exact nx
    · rw [if_neg (by rw [q_0, nI_eq (by omega) (by omega)]; exact h0)]
      by_cases hg0 : g = 0
      · rw [if_pos (by rw [hg0]; rfl), q_0]
        rw [show gst g (oF ρ (tgt m)) = 0 by unfold gst; rw [if_pos (Or.inr hg0)]] at nx
        exact nx
      · have hno : ¬ (oF ρ (tgt m) = 0 ∨ g = 0) := fun e => e.elim h0 hg0
        rw [if_neg (by rw [q_0, nI_eq (by omega) (by omega)]; exact hg0)]
        by_cases h2 : oF ρ (tgt m) = 2
        · rw [if_pos (by rw [h2]; rfl), q_2]
          rw [show gst g (oF ρ (tgt m)) = 2 by unfold gst; rw [if_neg hno, if_pos h2]] at nx
          exact nx
        · rw [if_neg (by rw [q_2, nI_eq (by omega) (by omega)]; exact h2)]
          rw [show gst g (oF ρ (tgt m)) = g by unfold gst; rw [if_neg hno, if_neg h2]] at nx
          exact nx
theorem z_goal {ρ : Ru} (hr : rok ρ) {q : Nat} (hq : q < 2430) {S : hm_S} (hs : solM ρ S) (hm : mlM (mv ρ q) S) {Q : Int32 → hm_S → hm_T → Prop} (h : Q (nI (gl ρ q)) S T) : wp_11_goal S T Q := by
  unfold wp_11_goal
  rw [q_1, q_0]
  exact ⟨_, z_goalLoop hr hq hs hm h (mv ρ q).length 0 1 (by omega) (by omega) rfl⟩
end MG
theorem gst_0 : ∀ l : List Nat, l.foldl gst 0 = 0 := by
  intro l
  induction l with
  | nil => rfl
  | cons a l ih => rw [List.foldl_cons, show gst 0 a = 0 by unfold gst; rw [if_pos (Or.inr rfl)]]; exact ih
section XG
variable {T : hm_T}
/-- the class's goal: the same, or -1 where there is no move; the loop carries g, or -1 at the start -/
theorem x_goalLoop {ρ : Ru} (hr : rok ρ) {kn : List Nat} {q : Nat} (hq : q < 2430) (hqk : q ∈ kn) {S : hm_S} (hk : KN kn S) (hc : clo ρ kn) (hs : solX ρ kn S) (hm : ml (mv ρ q) S) {Q : Int32 → hm_S → hm_T → Prop} (h : ∀ x : Int32, ((mv ρ q).length ≠ 0 → x = nI (gl ρ q)) → Q x S T) : ∀ c j g (x : Int32), j + c = (mv ρ q).length → (g = 1 ∨ g = 2) → (x = nI g ∨ (j = 0 ∧ x = -1 ∧ g = 1)) → ((os ρ q).drop j).foldl gst g = gl ρ q → wl_10_goodOutcome_4 Q (c + 1) x (nI j) S T := by
  have hlen : (mv ρ q).length ≤ 31 := Nat.le_trans mv_len (tq_mvB hq)
  intro c
  induction c with
  | zero =>
    intro j g x hj hg hx he
    show wb_10_goodOutcome_4 Q _ _ _ S T
    unfold wb_10_goodOutcome_4
    rw [hm.1, if_pos (nI_le (by omega) (by omega))]
    rw [List.drop_of_length_le (by rw [os_len]; omega)] at he
    have he : g = gl ρ q := he
    refine h x (fun hne => ?_)
    rcases hx with e | ⟨e, -, -⟩
    · rw [e, he]
    · omega
  | succ c ih =>
    intro j g x hj hg hx he
    have hjl : j < (mv ρ q).length := by omega
    obtain ⟨m, hm2⟩ : ∃ m, (mv ρ q)[j]? = some m := ⟨_, List.getElem?_eq_getElem hjl⟩
    have ho := oF_lt hr (tgt m)
    have htk : tgt m ∈ kn := hc q hqk _ (List.mem_map.mpr ⟨m, List.mem_of_getElem? hm2, rfl⟩)
    have hdr : (os ρ q).drop j = oF ρ (tgt m) :: (os ρ q).drop (j + 1) := by
      have hjl2 : j < (os ρ q).length := by rw [os_len]; exact hjl
      rw [List.drop_eq_getElem_cons hjl2]
      congr 1
      have := os_at (ρ := ρ) hm2
      rw [List.getElem?_eq_getElem hjl2] at this
      simpa using this
    rw [hdr] at he
    have he : ((os ρ q).drop (j + 1)).foldl gst (gst g (oF ρ (tgt m))) = gl ρ q := he
    show wb_10_goodOutcome_4 Q _ _ _ S T
    unfold wb_10_goodOutcome_4 wp_3_targetOf wb_10_goodOutcome_44
    rw [hm.1, if_neg (nI_ge hjl (by omega)), e_get (by omega) (by omega)]
    simp only [Nat.reduceAdd]
    rw [(hm.2 j m hm2).2.2.2.2.2]
    refine x_outcomeOf hk hs htk ?_
    rw [nI_1]
    by_cases h0 : oF ρ (tgt m) = 0
    · rw [if_pos (by rw [h0]; rfl)]
      refine h 0 (fun _ => ?_)
      rw [show gst g (oF ρ (tgt m)) = 0 by unfold gst; rw [if_pos (Or.inl h0)], gst_0] at he
      rw [← he]
      rfl
    · have hno : ¬ (oF ρ (tgt m) = 0 ∨ g = 0) := by omega
      rw [if_neg (by rw [q_0, nI_eq (by omega) (by omega)]; exact h0)]
      by_cases hx2 : x = 2
      · have hg2 : g = 2 := by
          rcases hx with e | ⟨-, e, -⟩
          · rw [e, q_2, nI_eq (by omega) (by omega)] at hx2; exact hx2
          · rw [e] at hx2; exact absurd hx2 (by decide)
        rw [if_pos hx2]
        have e2 : gst g (oF ρ (tgt m)) = 2 := by unfold gst; rw [if_neg hno]; by_cases k : oF ρ (tgt m) = 2 <;> simp [k, hg2]
        rw [e2] at he
        exact ih (j + 1) 2 x (by omega) (Or.inr rfl) (Or.inl (by rw [hx2]; rfl)) he
      · have hg1 : g = 1 := by
          rcases hg with e | e
          · exact e
          · rcases hx with e2 | ⟨-, -, e2⟩
            · exact absurd (by rw [e2, e]; rfl) hx2
            · exact e2
        rw [if_neg hx2]
        have e2 : gst g (oF ρ (tgt m)) = oF ρ (tgt m) := by unfold gst; rw [if_neg hno]; by_cases k : oF ρ (tgt m) = 2 <;> simp [k, hg1]; omega
        rw [e2] at he
        exact ih (j + 1) (oF ρ (tgt m)) _ (by omega) (by omega) (Or.inl rfl) he
end XG
