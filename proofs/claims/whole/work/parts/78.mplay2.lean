/-! ===== play, the reference, whole ===== -/
theorem HM.fs {hs : List Nat} {S S' : hm_S} (h : HM hs S) (hf : fs S S') : HM hs S' := by
  unfold HM
  rw [hf.1 5 (by decide), hf.2 9 (by decide) (by decide) (by decide)]
  exact h
def fPM : List Nat := [0, 5, 6, 7, 8, 9, 10, 11, 12, 13, 14, 15, 16]
section MP2
variable {T : hm_T}
theorem z_play {ρ : Ru} (hr : rok ρ) {S : hm_S} (ht : tabM S T) (hu : ruM ρ S) (hc : cM ρ S) {q : Nat} (hq : q < 2430) (h7 : S 0 7 = nI (pM q)) {hs : List Nat} (hh : HM hs S) (x : Int32) {Q : Int32 → hm_S → hm_T → Prop} (hno : (∀ i, i < (mv ρ q).length → x ≠ nI i) → ∀ S', fs S S' → cM ρ S' → Q (-2) S' T) (h : ∀ i m, x = nI i → (mv ρ q)[i]? = some m → ∀ S', fr fPM S S' → (∀ k, k ≠ 7 → k ≠ 9 → k ≠ 11 → k ≠ 18 → k ≠ 19 → S' 0 k = S 0 k) → S' 0 7 = nI (pM (tgt m)) → HM (rec q hs) S' → cM ρ S' → tabM S' T → Q (nI (cnt (tgt m / 2))) S' T) : wp_11_play x S T Q := by
  have hlen : (mv ρ q).length ≤ 31 := Nat.le_trans mv_len (tq_mvB hq)
  unfold wp_11_play
  refine z_looks hr ht hu hc hq h7 (fun S1 f1 t1 u1 h19 s1 hm => ?_)
  rw [hm.1]
  refine z_in (by omega) (fun hn => ?_) (fun i hi hx => ?_)
  · rw [if_pos rfl]
    exact hno hn S1 f1 (Or.inr ⟨h19, s1⟩)
  · obtain ⟨m, hm2⟩ : ∃ m, (mv ρ q)[i]? = some m := ⟨_, List.getElem?_eq_getElem hi⟩
    have htl := tgt_lt hq m (List.mem_of_getElem? hm2)
    rw [if_neg (by decide)]
    refine z_keeps (q := q) (hh.fs f1) (by rw [f1.2 7 (by decide) (by decide) (by decide), h7]) (fun S2 f2 h2 => ?_)
    have e12 : S2 12 i = nI (pM (tgt m)) := by rw [f2.1 12 (by decide)]; exact (hm.2 i m hm2).2.2.2.2.2
    rw [hx, nI_clamp (show i < 2 ^ 31 by omega), e12, hm_up_same]
    refine ⟨vp_in_nI (by omega) (by omega), ?_⟩
    have f3 : fr [0] S2 (hm_up S2 0 7 (nI (pM (tgt m)))) := fr.up _ _ _ (by decide)
    have t3 : tabM (hm_up S2 0 7 (nI (pM (tgt m)))) T := by
      unfold tabM at t1 ⊢
      rw [f3 1 (by decide), f3 2 (by decide), f2.1 1 (by decide), f2.1 2 (by decide)]
      exact t1
    have hS3 : HM (rec q hs) (hm_up S2 0 7 (nI (pM (tgt m)))) := by
      unfold HM at h2 ⊢
      rw [f3 5 (by decide), hm_up_col _ _ (by decide)]
      exact h2
    have s3 : solM ρ (hm_up S2 0 7 (nI (pM (tgt m)))) := (s1.fr f2.1 (by decide)).fr f3 (by decide)
    have k19 : hm_up S2 0 7 (nI (pM (tgt m))) 0 19 = 1 := by rw [hm_up_col _ _ (by decide), f2.2 19 (by decide), h19]
    refine z_sum t3 (l := tgt m / 2) (p := tgt m % 2) (by omega) (by omega) ?_
    exact h i m hx hm2 _ (((f1.1.mono (by decide)).tr (f2.1.mono (by decide))).tr (f3.mono (by decide))) (fun k a b c d e => by rw [hm_up_col _ _ a, f2.2 k b, f1.2 k c d e]) (hm_up_same _ _ _ _) hS3 (Or.inr ⟨k19, s3⟩) t3
end MP2
