/-! ===== the class's solver: solve ===== -/
def solX (ρ : Ru) (kn : List Nat) (S : hm_S) : Prop := ∀ i, i < kn.length → S 50 i = nI (oF ρ (ndA kn i)) ∧ S 52 i = dI ρ (ndA kn i)
/-- between two positions of the queue -/
def QH (ρ : Ru) (kn : List Nat) (S0 : hm_S) (h : Nat) (qu : List Nat) (S : hm_S) : Prop := fq S0 S ∧ SI ρ kn kn.length qu (dn ρ kn (qu.take h)) S ∧ (∀ u, u < kn.length → u ∉ qu → ∀ t ∈ ad ρ kn u, t ∈ qu.take h → oN ρ kn t ≠ 0) ∧ srtQ ρ kn qu ∧ h ≤ qu.length ∧ ∀ v, qu[h]? = some v → ∀ w ∈ qu, dN ρ kn w ≤ dN ρ kn v + 1
theorem QH.un {ρ : Ru} {kn : List Nat} {S0 : hm_S} {h : Nat} {qu : List Nat} {S : hm_S} (q : QH ρ kn S0 h qu S) : ∀ u, u < kn.length → u ∉ qu → (∃ t ∈ ad ρ kn u, ¬ (t ∈ qu.take h ∧ oN ρ kn t = 1)) ∧ ∀ t ∈ ad ρ kn u, t ∈ qu.take h → oN ρ kn t ≠ 0 := by
  intro u hu hq
  refine ⟨?_, q.2.2.1 u hu hq⟩
  obtain ⟨-, -, hp, -, h2, h3⟩ := q.2.1.2.2.2.2.2 u hu hq
  refine Classical.byContradiction fun hno => ?_
  have hall : dn ρ kn (qu.take h) u = (ad ρ kn u).length := by
    unfold dn
    refine List.countP_eq_length.mpr (fun t ht => ?_)
    refine decide_eq_true (Classical.byContradiction fun g => hno ⟨t, ht, g⟩)
  omega
section XV
variable {T : hm_T}
theorem x_queue {ρ : Ru} (hr : rok ρ) {kn : List Nat} (hc : clo ρ kn) (hn : kn.length ≤ 2430) (hN : (EL ρ kn kn.length).length ≤ 15010) {S0 : hm_S} (hB : BT ρ kn S0) {Q : hm_S → hm_T → Prop} (h : ∀ S, fq S0 S → solX ρ kn S → Q (hm_up S 36 15 1) T) : ∀ c hd qu S, hd + c = 2430 → QH ρ kn S0 hd qu S → wl_8_solve_40 Q (c + 1) (nI hd) S T := by
  have fin : ∀ hd qu S, QH ρ kn S0 hd qu S → qu.length ≤ hd → Q (hm_up S 36 15 1) T := by
    intro hd qu S hq hl
    have hle := hq.2.2.2.2.1
    have htk : qu.take hd = qu := List.take_of_length_le hl
    refine h S hq.1 (fun i hi => ?_)
    by_cases hm : i ∈ qu
    · obtain ⟨g1, g2, g3⟩ := hq.2.1.2.2.2.2.1 i hm
      have := (oF_dec g3).2
      exact ⟨g1, by rw [g2, this]; rfl⟩
    · obtain ⟨g1, g2, -⟩ := hq.2.1.2.2.2.2.2 i hi hm
      have hno : ∀ e, ¬ vO ρ e (ndA kn i) < 2 := fun e hv => hm (q_low hr hc (pr := qu.take hd) (D := e) hq.un (fun w hw _ => by rw [htk]; exact hw) e (Nat.le_refl _) i hi hv)
      obtain ⟨k1, k2⟩ := oF_und hr hno
      exact ⟨by rw [g1, k1], by rw [g2, k2]⟩
  have len : ∀ hd qu S, QH ρ kn S0 hd qu S → qu.length ≤ kn.length := fun hd qu S hq => nd_len hq.2.1.1 hq.2.1.2.1
  intro c
  induction c with
  | zero =>
    intro hd qu S hh hq
    have hl := len hd qu S hq
    show wb_8_solve_40 Q _ _ S T
    unfold wb_8_solve_40 wb_8_solve_73
    rw [hq.2.1.2.2.1, if_pos (nI_le (by omega) (by omega))]
    exact fin hd qu S hq (by omega)
  | succ c ih =>
    intro hd qu S hh hq
    have hl := len hd qu S hq
    show wb_8_solve_40 Q _ _ S T
    unfold wb_8_solve_40 wb_8_solve_73
    rw [hq.2.1.2.2.1]
    rcases Nat.lt_or_ge hd qu.length with g | g
    · obtain ⟨v, hv⟩ : ∃ v, qu[hd]? = some v := ⟨_, List.getElem?_eq_getElem g⟩
      have hvm := List.mem_of_getElem? hv
      have hvn := hq.2.1.2.1 v hvm
      obtain ⟨v1, v2, v3⟩ := hq.2.1.2.2.2.2.1 v hvm
      have h46 : ∀ w, w ≤ kn.length → S 46 w = nI (CB (EL ρ kn kn.length) w) := by rw [hq.1.1 46 (by decide)]; exact hB.1
      rw [if_neg (nI_ge g (by omega)), if_neg (show ¬ (2430 : Int32) ≤ nI hd by rw [q_2430]; exact nI_ge (by omega) (by omega)), e_get (by omega) (by omega)]
      simp only [Nat.reduceAdd]
      rw [hq.2.1.2.2.2.1 hd v hv]
      unfold wp_8_stepBackFrom
      rw [e_get (by omega) (by omega), e_get (by omega) (by omega), nI_1 v, e_get (by omega) (by omega), e_get (by omega) (by omega)]
      simp only [Nat.reduceAdd]
      rw [v1, v2, nI_1 (dN ρ kn v), h46 (v + 1) (by omega), h46 v (by omega)]
      have hvpr : v ∉ qu.take hd := by
        intro hm
        obtain ⟨i, hi⟩ := List.mem_iff_getElem?.mp hm
        have hil : i < hd := by have := (List.getElem?_eq_some_iff.mp hi).1; rw [List.length_take] at this; omega
        rw [List.getElem?_take_of_lt hil] at hi
        have := (List.getElem?_inj (by omega) hq.2.1.1).mp (hi.trans hv.symm)
        omega
      have hprd : ∀ t ∈ qu.take hd, vN ρ kn (dN ρ kn t) t < 2 ∧ dN ρ kn t ≤ dN ρ kn v := by
        intro t hm
        obtain ⟨i, hi⟩ := List.mem_iff_getElem?.mp hm
        have hil : i < hd := by have := (List.getElem?_eq_some_iff.mp hi).1; rw [List.length_take] at this; omega
        rw [List.getElem?_take_of_lt hil] at hi
        exact ⟨(hq.2.1.2.2.2.2.1 t (List.mem_of_getElem? hi)).2.2, hq.2.2.2.1 i hd t v (by omega) hi hv⟩
      have hlow : ∀ w, w < kn.length → vN ρ kn (dN ρ kn v) w < 2 → w ∈ qu := by
        intro w hw hvw
        refine q_low hr hc (pr := qu.take hd) (D := dN ρ kn v) hq.un (fun x hx hdx => ?_) (dN ρ kn v) (Nat.le_refl _) w hw hvw
        obtain ⟨i, hi⟩ := List.mem_iff_getElem?.mp hx
        rcases Nat.lt_or_ge i hd with k | k
        · exact List.mem_of_getElem? (by rw [List.getElem?_take_of_lt k]; exact hi)
        · have := hq.2.2.2.1 hd i v x k hv hi
          omega
      refine ⟨_, x_backIn hc hn hN hvn hvpr v3 hprd hlow hB (fun qu' S' hb => ?_) (pre (EL ρ kn kn.length) v).length 0 qu S (by omega) ⟨⟨[], by rw [List.append_nil]⟩, hq.1, by rw [dnf_0]; exact hq.2.1, hq.2.2.1, fun _ u hu => absurd hu (by simp), hq.2.2.2.1, hq.2.2.2.2.2 v hv⟩⟩
      rw [nI_1]
      obtain ⟨⟨e, ee⟩, b2, b3, b4, b5, b6, b7⟩ := hb
      have htl : (pre (EL ρ kn kn.length) v).reverse.take (pre (EL ρ kn kn.length) v).length = (pre (EL ρ kn kn.length) v).reverse := List.take_of_length_le (by rw [List.length_reverse]; exact Nat.le_refl _)
      have htk : qu'.take (hd + 1) = qu.take hd ++ [v] := by
        rw [ee, List.take_append_of_le_length (by omega), List.take_add_one, hv]
        rfl
      have hcnt : ∀ u, u < kn.length → (pre (EL ρ kn kn.length) v).reverse.count u = (ad ρ kn u).count v := by
        intro u hu
        have h3 := pre_cnt (ρ := ρ) (kn := kn) u v kn.length
        rw [if_pos hu] at h3
        rw [List.count_reverse, h3]
      have hv' : qu'[hd]? = some v := by rw [ee]; exact gE_app hv
      refine ih (hd + 1) qu' S' (by omega) ⟨b2, ⟨b3.1, b3.2.1, b3.2.2.1, b3.2.2.2.1, b3.2.2.2.2.1, fun u hu huq => ?_⟩, fun u hu huq t ht htp => ?_, b6, by rw [ee, List.length_append]; omega, fun v2 hv2 w hw => ?_⟩
      · have := b3.2.2.2.2.2 u hu huq
        rw [htk, dn_app hvpr, ← hcnt u hu]
        unfold dnf at this
        rw [htl] at this
        exact this
      · rw [htk] at htp
        rcases List.mem_append.mp htp with k | k
        · exact b4 u hu huq t ht k
        · have e2 : t = v := by simpa using k
          subst e2
          intro ho
          refine huq (b5 ho u ?_)
          rw [htl]
          refine List.count_pos_iff.mp ?_
          rw [hcnt u hu]
          exact List.count_pos_iff.mpr ht
      · have h1 := b7 w hw
        have h2 := b6 hd (hd + 1) v v2 (by omega) hv' hv2
        omega
    · rw [if_pos (nI_le (by omega) (by omega))]
      exact fin hd qu S hq g
/-- a position is begun with -/
theorem x_startWith {ρ : Ru} (hr : rok ρ) {kn : List Nat} (hn : kn.length ≤ 2430) (hN : sx ρ kn kn.length ≤ 15010) {k : Nat} (hk : k < kn.length) {qu : List Nat} {S : hm_S} (hu : ruX ρ S) (h42 : ∀ a, a ≤ kn.length → S 42 a = nI (sx ρ kn a)) (hS : SI ρ kn k qu (fun _ => 0) S) (hz : ∀ w ∈ qu, dN ρ kn w = 0) {Q : hm_S → hm_T → Prop} (h : ∀ qu' S', fq S S' → SI ρ kn (k + 1) qu' (fun _ => 0) S' → (∀ w ∈ qu', dN ρ kn w = 0) → Q S' T) : wp_8_startWith (nI k) S T Q := by
  have hs := sx_s (ρ := ρ) (nd_at hk)
  have hm := sx_mono (ρ := ρ) (kn := kn) (show k + 1 ≤ kn.length by omega)
  have hal := ad_len ρ kn k
  have hkq : k ∉ qu := fun g => by have := hS.2.1 k g; omega
  unfold wp_8_startWith
  rw [nI_1, e_get (by omega) (by omega), e_get (by omega) (by omega)]
  simp only [Nat.reduceAdd]
  rw [h42 (k + 1) (by omega), h42 k (by omega), pk_sub (by omega), show sx ρ kn (k + 1) - sx ρ kn k = (mv ρ (ndA kn k)).length by omega, e_set (by omega) (by omega)]
  simp only [Nat.reduceAdd]
  have f1 : fr [54] S (hm_up S 54 k (nI (mv ρ (ndA kn k)).length)) := fr.up S _ _ (by decide)
  by_cases h0 : (mv ρ (ndA kn k)).length = 0
  · have hv0 : vN ρ kn 0 k = ρ.2.2.2 := by unfold vN; simp only [vO]; rw [if_pos h0]
    have hlt : vN ρ kn 0 k < 2 := by have := hr.2.2.2; omega
    have hd : dN ρ kn k = 0 := dF_eq hlt (fun e he => absurd he (Nat.not_lt_zero e))
    have ho : oN ρ kn k = ρ.2.2.2 := (oF_dec hlt).1.trans hv0
    rw [if_pos (by rw [h0]; rfl), f1 1 (by decide), hu.2.2.2, q_0]
    refine x_settle (S0 := S) (dnf' := fun _ => 0) (k' := k + 1) (by omega) (by omega) hkq hS (by omega) f1 (fun w hw hwk => ⟨by omega, rfl, hm_up_col _ _ hwk⟩) ho.symm hd.symm (by rw [hd]; exact hlt) (fun S' f' i' => ?_)
    refine h _ S' ((fq.up k _ (by decide)).tr f') i' (fun w hw => ?_)
    rcases List.mem_append.mp hw with g | g
    · exact hz w g
    · have e : w = k := by simpa using g
      rw [e, hd]
  · rw [if_neg (by rw [q_0, nI_eq (by omega) (by omega)]; exact h0), e_set (by omega) (by omega), e_set (by omega) (by omega)]
    simp only [Nat.reduceAdd]
    have f2 : fr [50, 52, 54] S (hm_up (hm_up (hm_up S 54 k (nI (mv ρ (ndA kn k)).length)) 50 k 2) 52 k (-1)) := ((f1.mono (by decide)).tr (fr.up _ _ _ (by decide))).tr (fr.up _ _ _ (by decide))
    refine h qu _ (((fq.up k _ (by decide)).tr (fq.up k _ (by decide))).tr (fq.up k _ (by decide))) ⟨hS.1, fun u hu => by have := hS.2.1 u hu; omega, ?_, ?_, fun u hu => ?_, fun u hu huq => ?_⟩ hz
    · rw [f2 36 (by decide)]; exact hS.2.2.1
    · rw [f2 56 (by decide)]; exact hS.2.2.2.1
    · have e : u ≠ k := fun e => hkq (e ▸ hu)
      rw [hm_up_row _ _ _ (by decide), hm_up_col _ _ e, hm_up_row _ _ _ (by decide), hm_up_col _ _ e, hm_up_row _ _ _ (by decide), hm_up_row _ _ _ (by decide)]
      exact hS.2.2.2.2.1 u hu
    · by_cases e : u = k
      · subst e
        refine ⟨?_, hm_up_same _ _ _ _, (mv ρ (ndA kn u)).length, ?_, by omega, by rw [hal]; rfl⟩
        · rw [hm_up_row _ _ _ (by decide), hm_up_same]; rfl
        · rw [hm_up_row _ _ _ (by decide), hm_up_row _ _ _ (by decide), hm_up_same]
      · have r50 : hm_up (hm_up (hm_up S 54 k (nI (mv ρ (ndA kn k)).length)) 50 k 2) 52 k (-1) 50 u = S 50 u := by rw [hm_up_row _ _ _ (by decide), hm_up_col _ _ e, hm_up_row _ _ _ (by decide)]
        have r52 : hm_up (hm_up (hm_up S 54 k (nI (mv ρ (ndA kn k)).length)) 50 k 2) 52 k (-1) 52 u = S 52 u := by rw [hm_up_col _ _ e, hm_up_row _ _ _ (by decide), hm_up_row _ _ _ (by decide)]
        have r54 : hm_up (hm_up (hm_up S 54 k (nI (mv ρ (ndA kn k)).length)) 50 k 2) 52 k (-1) 54 u = S 54 u := by rw [hm_up_row _ _ _ (by decide), hm_up_row _ _ _ (by decide), hm_up_col _ _ e]
        rw [r50, r52, r54]
        exact hS.2.2.2.2.2 u (by omega) huq
end XV
