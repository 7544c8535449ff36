/-! ===== the reference: reachable ===== -/
def RM (qu : List Nat) (S : hm_S) : Prop := qu.Nodup ∧ (∀ q ∈ qu, q < 2430) ∧ (∀ (i q : Nat), qu[i]? = some q → S 22 i = nI (pM q)) ∧ ∀ q, q < 2430 → S 21 (pM q) = if q ∈ qu then 1 else 0
section MR
variable {T : hm_T}
theorem pM_inj {p q : Nat} (hp : p < 2430) (hq : q < 2430) (h : pM p = pM q) : p = q := by
  have := congrArg pX h
  rwa [pX_pM hp, pX_pM hq] at this
theorem z_rchIn {ρ : Ru} {S0 : hm_S} (hs : solM ρ S0) {a x : Nat} (ha : a < 2430) (hx : x < 2430) {F : List Nat} {Q : Int32 → hm_S → hm_T → Prop} {K : Int32 → Int32 → hm_S → hm_T → Prop} (h : ∀ S, fr [21, 22] S0 S → RM F S → K (nI F.length) (nI (x + 1)) S T) : ∀ c j qu S, j + c = (suc ρ a).length → lks qu ((suc ρ a).drop j) = F → qu[x]? = some a → fr [21, 22] S0 S → RM qu S → wl_11_reachable_67 Q K (c + 1) (nI qu.length) (nI x) (nI (st ρ (pM a) + j)) S T := by
  have hpa := pM_lt ha
  have hB := st_le (ρ := ρ) (show pM a + 1 ≤ 2430 by omega)
  have hss := st_s ρ (pM a)
  rw [pX_pM ha] at hss
  have hsl : (suc ρ a).length = (mv ρ a).length := by unfold suc; rw [List.length_map]
  have hto : S0 13 (pM a + 1) = nI (st ρ (pM a + 1)) := by
    rcases Nat.lt_or_ge (pM a + 1) 2430 with q | q
    · exact hs.1.1 _ q
    · rw [show pM a + 1 = 2430 by omega]; exact hs.2.1
  intro c
  induction c with
  | zero =>
    intro j qu S hj hF hqx hf hR
    show wb_11_reachable_67 Q K _ _ _ _ S T
    unfold wb_11_reachable_67 wb_11_reachable_131
    rw [nI_clamp (show x < 2 ^ 31 by omega), hR.2.2.1 x a hqx, nI_1, nI_clamp (by omega), hf 13 (by decide), hto, if_pos (nI_le (by omega) (by omega)), nI_1]
    rw [List.drop_of_length_le (by omega)] at hF
    have hF : qu = F := hF
    refine ⟨vp_in_nI (by omega) (by omega), vp_in_nI (by omega) (by omega), ?_⟩
    rw [hF]
    exact h S hf (hF ▸ hR)
  | succ c ih =>
    intro j qu S hj hF hqx hf hR
    have hjl : j < (suc ρ a).length := by omega
    obtain ⟨m, hm⟩ : ∃ m, (mv ρ a)[j]? = some m := ⟨_, List.getElem?_eq_getElem (by omega)⟩
    have htl := tgt_lt ha m (List.mem_of_getElem? hm)
    have hpt := pM_lt htl
    have h14 : S 14 (st ρ (pM a) + j) = nI (pM (tgt m)) := by
      rw [hf 14 (by decide)]
      exact hs.1.2 (pM a) j m hpa (by rw [pX_pM ha]; exact hm)
    have hdr : (suc ρ a).drop j = tgt m :: (suc ρ a).drop (j + 1) := by
      rw [List.drop_eq_getElem_cons hjl]
      congr 1
      have : (suc ρ a)[j]? = some (tgt m) := by unfold suc; rw [List.getElem?_map, hm]; rfl
      rw [List.getElem?_eq_getElem hjl] at this
      simpa using this
    rw [hdr] at hF
    have hF : lks (lk qu (tgt m)) ((suc ρ a).drop (j + 1)) = F := hF
    show wb_11_reachable_67 Q K _ _ _ _ S T
    unfold wb_11_reachable_67 wb_11_reachable_125
    rw [nI_clamp (show x < 2 ^ 31 by omega), hR.2.2.1 x a hqx, nI_1 (pM a), nI_clamp (show pM a + 1 < 2 ^ 31 by omega), hf 13 (by decide), hto, if_neg (nI_ge (by omega) (by omega)), nI_clamp (show st ρ (pM a) + j < 2 ^ 31 by omega), h14, nI_clamp (show pM (tgt m) < 2 ^ 31 by omega), hR.2.2.2 _ htl]
    refine ⟨vp_in_nI (by omega) (by omega), vp_in_nI (by omega) (by omega), vp_in_nI (by omega) (by omega), vp_in_nI (by omega) (by omega), ?_⟩
    by_cases hq : tgt m ∈ qu
    · rw [if_pos hq, if_neg (by decide), nI_1]
      have e : lk qu (tgt m) = qu := by unfold lk; rw [if_pos hq]
      rw [e] at hF
      exact ih (j + 1) qu S (by omega) hF hqx hf hR
    · have e : lk qu (tgt m) = qu ++ [tgt m] := by unfold lk; rw [if_neg hq]
      rw [e] at hF
      have hn2 := nd_app hR.1 hq
      have hl2 : ∀ w ∈ qu ++ [tgt m], w < 2430 := by
        intro w hw
        rcases List.mem_append.mp hw with g | g
        · exact hR.2.1 w g
        · have e : w = tgt m := by simpa using g
          rw [e]; exact htl
      have hlen := nd_len hn2 hl2
      rw [List.length_append, List.length_singleton] at hlen
      rw [if_neg hq, if_pos rfl, nI_clamp (show qu.length < 2 ^ 31 by omega), hm_up_row _ _ _ (by decide), h14, nI_1, nI_1]
      refine ⟨vp_in_nI (by omega) (by omega), vp_in_nI (by omega) (by omega), vp_in_nI (by omega) (by omega), vp_in_nI (by omega) (by omega), ?_⟩
      have := ih (j + 1) (qu ++ [tgt m]) (hm_up (hm_up S 21 (pM (tgt m)) 1) 22 qu.length (nI (pM (tgt m)))) (by omega) hF (gE_app hqx) ((hf.tr (fr.up _ _ _ (by decide))).tr (fr.up _ _ _ (by decide))) ⟨hn2, hl2, fun i p hp => ?_, fun p hp => ?_⟩
      · rw [List.length_append, List.length_singleton] at this
        exact this
      · rcases gE_last hp with ⟨b1, b2⟩ | ⟨b1, b2⟩
        · rw [hm_up_col _ _ (by omega), hm_up_row _ _ _ (by decide)]
          exact hR.2.2.1 i p b2
        · rw [b1, b2, hm_up_same]
      · rw [hm_up_row _ _ _ (by decide)]
        by_cases e2 : p = tgt m
        · rw [e2, hm_up_same, if_pos (by simp)]
        · rw [hm_up_col _ _ (fun g => e2 (pM_inj hp htl g)), hR.2.2.2 p hp]
          by_cases g : p ∈ qu <;> simp [g, e2]
theorem z_rchOut {ρ : Ru} {S : hm_S} (hs : solM ρ S) {q : Nat} (hq : q < 2430) {Q : Int32 → hm_S → hm_T → Prop} (h : ∀ S', fr [21, 22] S S' → Q (nI (rchN ρ q)) S' T) : ∀ c i qu S1, i + c = 2430 → (rq ρ c qu i).length = rchN ρ q → fr [21, 22] S S1 → RM qu S1 → wl_11_reachable_50 Q (c + 1) (nI qu.length) (nI i) S1 T := by
  intro c
  induction c with
  | zero =>
    intro i qu S1 hi he hf hR
    have hl := nd_len hR.1 hR.2.1
    show wb_11_reachable_50 Q _ _ _ S1 T
    unfold wb_11_reachable_50
    rw [if_pos (nI_le (by omega) (by omega)), show qu.length = rchN ρ q from he]
    exact h S1 hf
  | succ c ih =>
    intro i qu S1 hi he hf hR
    have hl := nd_len hR.1 hR.2.1
    show wb_11_reachable_50 Q _ _ _ S1 T
    unfold wb_11_reachable_50
    simp only [rq] at he
    by_cases hil : i < qu.length
    · rw [if_pos hil] at he
      have hat := nd_at hil
      have hm2 := hR.2.1 _ (List.mem_of_getElem? hat)
      have hpm := pM_lt hm2
      rw [if_neg (nI_ge hil (by omega)), nI_clamp (show i < 2 ^ 31 by omega), hR.2.2.1 i _ hat, nI_clamp (show pM (ndA qu i) < 2 ^ 31 by omega), hf 13 (by decide), hs.1.1 _ hpm]
      refine ⟨vp_in_nI (by omega) (by omega), vp_in_nI (by omega) (by omega), _, z_rchIn hs hm2 (by omega) (F := lks qu (suc ρ (ndA qu i))) (fun S2 f2 R2 => ih (i + 1) _ S2 (by omega) he f2 R2) (suc ρ (ndA qu i)).length 0 qu S1 (by omega) (by rw [List.drop_zero]) hat hf hR⟩
    · rw [if_neg hil] at he
      rw [if_pos (nI_le (by omega) (by omega)), he]
      exact h S1 hf
end MR
