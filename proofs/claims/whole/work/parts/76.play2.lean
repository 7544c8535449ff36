/-! ===== play, the class ===== -/
def fP : List Nat := [0, 19, 21, 23, 25, 27, 29, 31, 33, 35, 71, 73]
section PL2
variable {T : hm_T}
theorem x_play {ρ : Ru} (hr : rok ρ) {S : hm_S} (hS : SV ρ S) {q : Nat} (hq : q < 2430) (h9 : S 0 9 = nI q) {hs : List Nat} (hh : HX hs S) (x : Int32) {Q : Int32 → hm_S → hm_T → Prop} (hno : (∀ i, i < (mv ρ q).length → x ≠ nI i) → ∀ S', fr [19, 21, 23, 25, 27, 29, 31, 33, 35] S S' → SV ρ S' → Q (-2) S' T) (h : ∀ i m, x = nI i → (mv ρ q)[i]? = some m → ∀ S', fr fP S S' → (∀ k, k ≠ 9 → S' 0 k = S 0 k) → S' 0 9 = nI (tgt m) → HX (rec q hs) S' → SV ρ S' → Q (nI (cnt (tgt m / 2))) S' T) : wp_10_play x S T Q := by
  have hlen : (mv ρ q).length ≤ 31 := Nat.le_trans mv_len (tq_mvB hq)
  obtain ⟨kn, hx, hs'⟩ := id hS
  unfold wp_10_play
  rw [h9]
  refine x_list hr hq hx.1 hx.2.1 (hx.2.2.1 q hq) (fun S1 f1 h12 hm => ?_)
  have hS1 : SV ρ S1 := hS.fm f1 (lcX.mk hq h12 hm)
  have ht1 : tabX S1 := f1.tab hx.1
  rw [hm.1]
  rcases in_cases x (show (mv ρ q).length < 2 ^ 31 by omega) with g | ⟨g1, g2⟩ | ⟨i, g1, g2⟩
  · rw [if_pos g]
    refine hno (fun i hi e => ?_) S1 f1 hS1
    rw [e] at g
    exact nI_nlt (a := i) (b := 0) (by omega) (by omega) g
  · have hnl : ∀ i, i < (mv ρ q).length → x ≠ nI i := by
      intro i hi e
      rw [e] at g2
      exact nI_ge hi (by omega) g2
    have hge : ¬ x < nI (mv ρ q).length := by
      intro e
      obtain ⟨j, hj, ej⟩ := nI_of g1
      rw [ej] at e g2
      rcases Nat.lt_or_ge j (mv ρ q).length with k | k
      · exact nI_ge k (by omega) g2
      · exact nI_nlt k hj e
    rw [if_neg g1, if_neg hge]
    exact hno hnl S1 f1 hS1
  · obtain ⟨m, hm2⟩ : ∃ m, (mv ρ q)[i]? = some m := ⟨_, List.getElem?_eq_getElem g1⟩
    have htl := tgt_lt hq m (List.mem_of_getElem? hm2)
    rw [g2, if_neg (show ¬ nI i < (0 : Int32) from nI_nlt (a := i) (b := 0) (by omega) (by omega)), if_pos (nI_lt g1 (by omega))]
    unfold wp_3_targetOf
    rw [e_get (by omega) (by omega)]
    simp only [Nat.reduceAdd]
    rw [(hm.2 i m hm2).2.2.2.2.2]
    refine x_goTo (q := q) (hh.fr f1 (by decide)) (by rw [f1 0 (by decide), h9]) (fun S2 f2 k2 e2 h2 => ?_)
    have hS2 : SV ρ S2 := hS1.fr f2 (by decide)
    rw [e2, e_layoutOf (by omega), x_countersOf (ht1.fr f2 (by decide)) (by omega)]
    exact h i m g2 hm2 S2 ((f1.mono (by decide)).tr (f2.mono (by decide))) (fun k hk => by rw [k2 k hk, f1 0 (by decide)]) e2 h2 hS2
end PL2
