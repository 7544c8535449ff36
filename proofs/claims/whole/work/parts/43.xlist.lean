/-! ===== open heaps, growing, the whole list ===== -/
theorem tq_open {l : Nat} (h : l < 1215) : (∀ q ∈ opens l, 1 ≤ q.1 ∧ q.1 ≤ 10 ∧ q.2 < 1215 ∧ cnt q.2 + q.1 = cnt l ∧ lay q.2 = remF q.1 (lay l)) ∧ (opens l).map (fun q => q.1) = (List.range 11).filter (fun n => decide (1 ≤ n) && (lay l).contains (2 * (n - 1) + bb l)) ∧ (opens l).length ≤ 10 := by
  have := allB_spec k_open l h
  simp only [Bool.and_eq_true, beq_iff_eq, decide_eq_true_eq] at this
  obtain ⟨⟨⟨a, b⟩, c⟩, -⟩ := this
  refine ⟨fun q hq => ?_, b, c⟩
  have := List.all_eq_true.mp a q hq
  simp only [opOK, Bool.and_eq_true, beq_iff_eq, decide_eq_true_eq] at this
  exact ⟨this.1.1.1.1, this.1.1.1.2, this.1.1.2, this.1.2, this.2⟩
theorem tq_mvB {q : Nat} (h : q < 2430) : mvB q ≤ 31 := of_decide_eq_true (allB_spec k_mvB q h)
def ol (os : List (Nat × Nat)) (S : hm_S) : Prop := S 19 10 = nI os.length ∧ ∀ i q, os[i]? = some q → S 33 i = nI q.1 ∧ S 35 i = nI q.2
def fo (S S' : hm_S) : Prop := fr [19, 33, 35] S S' ∧ ∀ k, k ≠ 10 → S' 19 k = S 19 k
theorem fo.rf (S : hm_S) : fo S S := ⟨fr.rf _ S, fun _ _ => rfl⟩
theorem fo.tr {S S' S'' : hm_S} (h : fo S S') (h' : fo S' S'') : fo S S'' := ⟨h.1.tr h'.1, fun k hk => (h'.2 k hk).trans (h.2 k hk)⟩
theorem fo.tab {S S' : hm_S} (h : fo S S') (ht : tabX S) : tabX S' := ht.fr h.1 (by decide)
theorem fo.ru {ρ : Ru} {S S' : hm_S} (h : fo S S') (ht : ruX ρ S) : ruX ρ S' := ht.fr h.1 (by decide)
section XO
variable {T : hm_T}
theorem x_open {l : Nat} (hl : l < 1215) {Q : hm_S → hm_T → Prop} : ∀ c h prev (os : List (Nat × Nat)) (S : hm_S), h + c = len l → prev ≤ 10 → os ++ opn l c h prev = opens l → tabX S → ol os S → (∀ S', fo S S' → ol (opens l) S' → Q S' T) → wl_3_findOpenHeaps_27 Q (c + 1) (nI l) (nI (bb l)) (nI prev) (nI h) S T := by
  have hlen := tq_len hl
  have htot := (tq_open hl).2.2
  intro c
  induction c with
  | zero =>
    intro h prev os S hh hp he ht ho hq
    show wb_3_findOpenHeaps_27 Q _ _ _ _ _ S T
    unfold wb_3_findOpenHeaps_27
    rw [x_heapsOf ht hl, if_pos (nI_le (by omega) (by omega))]
    refine hq S (fo.rf S) ?_
    simp only [opn, List.append_nil] at he
    rw [← he]
    exact ho
  | succ c ih =>
    intro h prev os S hh hp he ht ho hq
    have hhl : h < len l := by omega
    have hk := tq_small hl (getD_mem hhl)
    have hbb : bb l < 2 := by unfold bb; by_cases q : 0 < bnd l <;> simp [q]
    show wb_3_findOpenHeaps_27 Q _ _ _ _ _ S T
    unfold wb_3_findOpenHeaps_27 wb_3_findOpenHeaps_128
    rw [x_heapsOf ht hl, if_neg (nI_ge hhl (by omega))]
    refine x_kindAt ht hl hhl ?_
    rw [e_sizeOfKind (by omega), e_boundOfKind (by omega)]
    by_cases hc : (lay l).getD h 0 % 2 = bb l ∧ szk ((lay l).getD h 0) ≠ prev
    · have he' : os ++ ((szk ((lay l).getD h 0), frd (wo l h)) :: opn l c (h + 1) (szk ((lay l).getD h 0))) = opens l := by
        rw [← he]; simp only [opn, if_pos hc]
      have hos : os.length < 10 := by
        have : (os ++ ((szk ((lay l).getD h 0), frd (wo l h)) :: opn l c (h + 1) (szk ((lay l).getD h 0)))).length ≤ 10 := by rw [he']; exact htot
        rw [List.length_append, List.length_cons] at this
        omega
      have hsz : (lay l).getD h 0 / 2 + 1 = szk ((lay l).getD h 0) := rfl
      have hsz10 : szk ((lay l).getD h 0) ≤ 10 := by unfold szk; omega
      rw [if_pos (by rw [hc.1]), if_neg (by rw [hsz, nI_eq (by omega) (by omega)]; exact hc.2), ho.1, e_set hos (by omega)]
      simp only [Nat.reduceAdd]
      have t2 : tabX (hm_up S 33 os.length (nI ((lay l).getD h 0 / 2 + 1))) := ht.fr (fr.up (c := [33]) S _ _ (by decide)) (by decide)
      refine x_without t2 hl (by omega) ?_
      rw [x_freedOf t2 (wo_ok hl).1, hm_up_row S _ _ (by decide), ho.1, e_set hos (by omega)]
      simp only [Nat.reduceAdd]
      have hS9 : hm_up (hm_up S 33 os.length (nI ((lay l).getD h 0 / 2 + 1))) 35 os.length (nI (frd (wo l h))) 19 10 = nI os.length := by rw [hm_up_row _ _ _ (by decide), hm_up_row _ _ _ (by decide), ho.1]
      rw [hS9, nI_1, nI_1]
      have hfo : fo S (hm_up (hm_up (hm_up S 33 os.length (nI ((lay l).getD h 0 / 2 + 1))) 35 os.length (nI (frd (wo l h)))) 19 10 (nI (os.length + 1))) :=
        ⟨((fr.up S _ _ (by decide)).tr (fr.up _ _ _ (by decide))).tr (fr.up _ _ _ (by decide)), fun k hk => by rw [hm_up_col _ _ hk, hm_up_row _ _ _ (by decide), hm_up_row _ _ _ (by decide)]⟩
      refine ih (h + 1) (szk ((lay l).getD h 0)) (os ++ [(szk ((lay l).getD h 0), frd (wo l h))]) _ (by omega) hsz10 (by rw [List.append_assoc]; exact he') (hfo.tab ht) ⟨?_, ?_⟩ (fun S' hf ho' => hq S' (hfo.tr hf) ho')
      · rw [hm_up_same, List.length_append]; rfl
      · intro i q hi
        rcases Nat.lt_or_ge i os.length with hlt | hge
        · rw [List.getElem?_append_left hlt] at hi
          obtain ⟨o1, o2⟩ := ho.2 i q hi
          have hne : i ≠ os.length := by omega
          constructor
          · simp only [hm_up_at]; simp [hne, o1]
          · simp only [hm_up_at]; simp [hne, o2]
        · rw [List.getElem?_append_right hge] at hi
          have hie : i = os.length := by
            have : i - os.length < 1 := (List.getElem?_eq_some_iff.mp hi).1
            omega
          subst hie
          rw [Nat.sub_self] at hi
          cases hi
          constructor
          · simp only [hm_up_at]; simp [szk]
          · simp only [hm_up_at]; simp
    · have he' : os ++ opn l c (h + 1) prev = opens l := by rw [← he]; simp only [opn, if_neg hc]
      have hnext : wl_3_findOpenHeaps_27 Q (c + 1) (nI l) (nI (bb l)) (nI prev) (nI h + 1) S T := by
        rw [nI_1]
        exact ih (h + 1) prev os S (by omega) hp he' ht ho hq
      by_cases hb : (lay l).getD h 0 % 2 = bb l
      · have hs : szk ((lay l).getD h 0) = prev := Classical.byContradiction fun q => hc ⟨hb, q⟩
        rw [if_pos (by rw [hb]), if_pos (show nI ((lay l).getD h 0 / 2 + 1) = nI prev by rw [← hs]; rfl)]
        exact hnext
      · rw [if_neg (by rw [nI_eq (by omega) (by omega)]; exact hb)]
        exact hnext
theorem x_findOpenHeaps {l : Nat} (hl : l < 1215) {S : hm_S} (ht : tabX S) {Q : hm_S → hm_T → Prop} (hq : ∀ S', fo S S' → ol (opens l) S' → Q S' T) : wp_3_findOpenHeaps (nI l) S T Q := by
  unfold wp_3_findOpenHeaps wb_3_findOpenHeaps_21
  have f0 : fo S (hm_up S 19 10 0) := ⟨fr.up S _ _ (by decide), fun k hk => hm_up_col S _ hk⟩
  have hb := tq_bnd hl
  have key : ∀ z, z = nI (bb l) → ∃ f, wl_3_findOpenHeaps_27 Q f (nI l) z 0 0 (hm_up S 19 10 0) T := by
    intro z hz
    rw [hz]
    exact ⟨len l + 1, x_open hl (len l) 0 0 [] _ (by omega) (by omega) rfl (f0.tab ht) ⟨by rw [hm_up_same]; rfl, fun i q hi => by simp at hi⟩ (fun S' hf ho => hq S' (f0.tr hf) ho)⟩
  rw [x_boundHeapsOf (f0.tab ht) hl]
  by_cases h0 : 0 < bnd l
  · rw [if_neg (show ¬ nI (bnd l) ≤ 0 by rw [q_0]; exact nI_ge h0 (by omega))]
    exact key 1 (by unfold bb; rw [if_pos h0]; rfl)
  · rw [if_pos (show nI (bnd l) ≤ 0 by rw [q_0]; exact nI_le (by omega) (by omega))]
    exact key 0 (by unfold bb; rw [if_neg h0]; rfl)
theorem fa.olk {os : List (Nat × Nat)} {S S' : hm_S} (h : fa S S') (ho : ol os S) : ol os S' := by
  unfold ol
  rw [h.2 10 (by decide), h.1 33 (by decide), h.1 35 (by decide)]
  exact ho
theorem x_growings {ρ : Ru} (hr : rok ρ) {p l : Nat} (hl : l < 1215) (hc : cnt l < 10) {Q : hm_S → hm_T → Prop} : ∀ (c i : Nat), i + c = (opens l).length → ∀ (L : List Mv) (S : hm_S), L.length + c ≤ 31 → tabX S → ruX ρ S → ol (opens l) S → ml L S → (∀ S', fa S S' → ml (L ++ grO ρ p ((opens l).drop i)) S' → Q S' T) → wl_3_addGrowings_2 Q (c + 1) (nI p) (nI i) S T := by
  have h10 := (tq_open hl).2.2
  intro c
  induction c with
  | zero =>
    intro i hi L S hL ht hu ho hm h
    show wb_3_addGrowings_2 Q _ _ _ S T
    unfold wb_3_addGrowings_2
    rw [ho.1, if_pos (nI_le (by omega) (by omega))]
    refine h S (fa.rf S) ?_
    rw [List.drop_of_length_le (by omega)]
    simpa only [grO, List.append_nil] using hm
  | succ c ih =>
    intro i hi L S hL ht hu ho hm h
    have hil : i < (opens l).length := by omega
    obtain ⟨q, hq⟩ : ∃ q, (opens l)[i]? = some q := ⟨_, List.getElem?_eq_getElem hil⟩
    obtain ⟨o1, o2⟩ := ho.2 i q hq
    obtain ⟨g1, g2, g3, g4, -⟩ := (tq_open hl).1 q (List.mem_of_getElem? hq)
    have hd : (opens l).drop i = q :: (opens l).drop (i + 1) := by
      rw [List.drop_eq_getElem_cons hil]
      have : (opens l)[i] = q := by rw [List.getElem?_eq_getElem hil] at hq; exact Option.some.inj hq
      rw [this]
    show wb_3_addGrowings_2 Q _ _ _ S T
    unfold wb_3_addGrowings_2 wb_3_addGrowings_66
    rw [ho.1, if_neg (nI_ge hil (by omega)), e_get (by omega) (by omega), show S (32 + 1) i = nI q.1 from o1, x_growsAt hr hu g2]
    by_cases hb : bitN ρ.2.2.1 q.1 = 1
    · rw [if_pos hb, if_neg (by decide), e_get (by omega) (by omega), show S (34 + 1) i = nI q.2 from o2, nI_1, q_0, x_restWith ht ⟨g3, by omega⟩ (by omega), e_positionOf, q_1]
      refine x_add hm (by omega) (fun S' hf hm' => ?_)
      rw [nI_add]
      refine ih (i + 1) (by omega) _ S' (by rw [List.length_append]; simp; omega) (hf.tab ht) (hf.ru hu) (hf.olk ho) hm' (fun S'' hf' hm'' => ?_)
      refine h S'' (hf.tr hf') ?_
      rw [hd]
      simp only [grO, if_pos hb]
      rw [← List.append_assoc]
      exact hm''
    · rw [if_neg hb, if_pos rfl, nI_1]
      refine ih (i + 1) (by omega) L S (by omega) ht hu ho hm (fun S'' hf' hm'' => ?_)
      refine h S'' hf' ?_
      rw [hd]
      simp only [grO, if_neg hb, List.nil_append]
      exact hm''
/-- all rows of the moves may have changed -/
def fm (S S' : hm_S) : Prop := fr [19, 21, 23, 25, 27, 29, 31, 33, 35] S S'
theorem fa.fm {S S' : hm_S} (h : fa S S') : fm S S' := h.1.mono (by decide)
theorem fo.fm {S S' : hm_S} (h : fo S S') : fm S S' := h.1.mono (by decide)
theorem fm.tab {S S' : hm_S} (h : fm S S') (ht : tabX S) : tabX S' := ht.fr h (by decide)
theorem fm.ru {ρ : Ru} {S S' : hm_S} (h : fm S S') (ht : ruX ρ S) : ruX ρ S' := ht.fr h (by decide)
theorem x_pass {l p : Nat} (hl : l < 1215) (hp : p < 2) {Q : hm_S → hm_T → Prop} {L : List Mv} {S : hm_S} (hL : L.length + (if p = 1 ∧ bnd l = 0 ∧ 0 < len l then 1 else 0) ≤ 31) (ht : tabX S) (hm : ml L S) (h : ∀ S', fa S S' → ml (L ++ (if p = 1 ∧ bnd l = 0 ∧ 0 < len l then [paM l] else [])) S' → Q S' T) : wb_3_list_93 Q (nI l) (nI p) S T := by
  have hb := tq_bnd hl
  have hlen := tq_len hl
  unfold wb_3_list_93
  by_cases h1 : p = 1
  · rw [if_pos (by rw [h1]; rfl), x_boundHeapsOf ht hl]
    by_cases h2 : bnd l = 0
    · rw [if_pos (by rw [h2]; rfl), x_heapsOf ht hl]
      by_cases h3 : 0 < len l
      · rw [if_pos ⟨h1, h2, h3⟩] at hL
        simp only [if_pos (show p = 1 ∧ bnd l = 0 ∧ 0 < len l from ⟨h1, h2, h3⟩)] at h
        rw [if_neg (show ¬ nI (len l) ≤ 0 by rw [q_0]; exact nI_ge h3 (by omega)), q_0, q_2, e_positionOf]
        exact x_add hm (by omega) (fun S' hf hm' => h S' hf hm')
      · simp only [if_neg (show ¬ (p = 1 ∧ bnd l = 0 ∧ 0 < len l) from fun q => h3 q.2.2), List.append_nil] at h
        rw [if_pos (show nI (len l) ≤ 0 by rw [q_0]; exact nI_le (by omega) (by omega))]
        exact h S (fa.rf S) hm
    · simp only [if_neg (show ¬ (p = 1 ∧ bnd l = 0 ∧ 0 < len l) from fun q => h2 q.2.1), List.append_nil] at h
      rw [if_neg (by rw [q_0, nI_eq (by omega) (by omega)]; exact h2)]
      exact h S (fa.rf S) hm
  · simp only [if_neg (show ¬ (p = 1 ∧ bnd l = 0 ∧ 0 < len l) from fun q => h1 q.1), List.append_nil] at h
    rw [if_neg (by rw [q_1, nI_eq (by omega) (by omega)]; exact h1)]
    exact h S (fa.rf S) hm
theorem x_takingsAll {ρ : Ru} (hr : rok ρ) {p l : Nat} (hl : l < 1215) {Q : hm_S → hm_T → Prop} {B : Nat} (hB : B ≤ 31) : ∀ (c i : Nat), i + c = (opens l).length → ∀ (L : List Mv) (S : hm_S), L.length + tkBs ((opens l).drop i) ≤ B → tabX S → ruX ρ S → ol (opens l) S → ml L S → (∀ S', fa S S' → ml (L ++ tkO ρ p ((opens l).drop i)) S' → wb_3_list_75 Q (nI l) (nI p) S' T) → wl_3_list_37 Q (c + 1) (nI l) (nI p) (nI i) S T := by
  have h10 := (tq_open hl).2.2
  intro c
  induction c with
  | zero =>
    intro i hi L S hL ht hu ho hm h
    show wb_3_list_37 Q _ _ _ _ S T
    unfold wb_3_list_37
    rw [ho.1, if_pos (nI_le (by omega) (by omega))]
    refine h S (fa.rf S) ?_
    rw [List.drop_of_length_le (by omega)]
    simpa only [tkO, List.append_nil] using hm
  | succ c ih =>
    intro i hi L S hL ht hu ho hm h
    have hil : i < (opens l).length := by omega
    obtain ⟨q, hq⟩ : ∃ q, (opens l)[i]? = some q := ⟨_, List.getElem?_eq_getElem hil⟩
    obtain ⟨o1, o2⟩ := ho.2 i q hq
    obtain ⟨g1, g2, g3, g4, -⟩ := (tq_open hl).1 q (List.mem_of_getElem? hq)
    have hcl := (tq_cnt hl).1
    have hd : (opens l).drop i = q :: (opens l).drop (i + 1) := by
      rw [List.drop_eq_getElem_cons hil]
      have : (opens l)[i] = q := by rw [List.getElem?_eq_getElem hil] at hq; exact Option.some.inj hq
      rw [this]
    rw [hd] at hL
    have hL' : L.length + (tkB q.1 q.1 1 + tkBs ((opens l).drop (i + 1))) ≤ B := hL
    show wb_3_list_37 Q _ _ _ _ S T
    unfold wb_3_list_37
    rw [ho.1, if_neg (nI_ge hil (by omega)), e_get (by omega) (by omega), show S (32 + 1) i = nI q.1 from o1, e_get (by omega) (by omega), show S (34 + 1) i = nI q.2 from o2, nI_1]
    refine x_addTakings hr g2 g3 (by omega) (by omega) ht hu hm (fun S' hf hm' => ?_)
    have hlk := tkK_len ρ q.1 q.2 p q.1 1
    refine ih (i + 1) (by omega) _ S' (by rw [List.length_append]; omega) (hf.tab ht) (hf.ru hu) (hf.olk ho) hm' (fun S'' hf' hm'' => ?_)
    refine h S'' (hf.tr hf') ?_
    rw [hd]
    simp only [tkO]
    rw [← List.append_assoc]
    exact hm''
theorem x_list {ρ : Ru} (hr : rok ρ) {q : Nat} (hq : q < 2430) {S : hm_S} (ht : tabX S) (hu : ruX ρ S) (hc : S 19 12 = nI q → ml (mv ρ q) S) {Q : hm_S → hm_T → Prop} (h : ∀ S', fm S S' → S' 19 12 = nI q → ml (mv ρ q) S' → Q S' T) : wp_3_list (nI q) S T Q := by
  unfold wp_3_list
  by_cases he : nI q = S 19 12
  · rw [if_pos he]
    exact h S (fr.rf _ S) he.symm (hc he.symm)
  · have hl : q / 2 < 1215 := by omega
    have hp : q % 2 < 2 := by omega
    have hB := tq_mvB hq
    unfold mvB at hB
    have f0 : fm S (hm_up (hm_up S 19 12 (nI q)) 19 11 0) := (fr.up S _ _ (by decide)).tr (fr.up _ _ _ (by decide))
    have h12 : hm_up (hm_up S 19 12 (nI q)) 19 11 0 19 12 = nI q := by rw [hm_up_col _ _ (by decide), hm_up_same]
    have h11 : hm_up (hm_up S 19 12 (nI q)) 19 11 0 19 11 = nI 0 := by rw [hm_up_same]; rfl
    rw [if_neg he, e_layoutOf (by omega), e_passOf (by omega)]
    refine x_findOpenHeaps hl (f0.tab ht) (fun S1 g1 o1 => ?_)
    have f1 : fm S S1 := f0.tr g1.fm
    have l1 : S1 19 12 = nI q := by rw [g1.2 12 (by decide), h12]
    have m1 : ml [] S1 := ⟨by rw [g1.2 11 (by decide), h11]; rfl, fun i m hi => by simp at hi⟩
    refine ⟨(opens (q / 2)).length + 1, x_takingsAll hr hl (B := tkBs (opens (q / 2))) (by omega) (opens (q / 2)).length 0 (by omega) [] S1 (by simp) (f1.tab ht) (f1.ru hu) o1 m1 (fun S2 g2 m2 => ?_)⟩
    rw [List.drop_zero, List.nil_append] at m2
    have f2 : fm S S2 := f1.tr g2.fm
    have l2 : S2 19 12 = nI q := by rw [g2.2 12 (by decide), l1]
    have hlt := tkO_len ρ (q % 2) (opens (q / 2))
    unfold wb_3_list_75
    have hc10 := (tq_cnt hl).1
    rw [x_countersOf (f2.tab ht) hl]
    have fin : ∀ (L : List Mv) (S3 : hm_S), fm S S3 → S3 19 12 = nI q → ml L S3 → L = tkO ρ (q % 2) (opens (q / 2)) ++ (if cnt (q / 2) < 10 then grO ρ (q % 2) (opens (q / 2)) else []) → L.length + (if q % 2 = 1 ∧ bnd (q / 2) = 0 ∧ 0 < len (q / 2) then 1 else 0) ≤ 31 → wb_3_list_93 Q (nI (q / 2)) (nI (q % 2)) S3 T := by
      intro L S3 f3 l3 m3 hL hb
      refine x_pass hl hp hb (f3.tab ht) m3 (fun S4 g4 m4 => ?_)
      refine h S4 (f3.tr g4.fm) (by rw [g4.2 12 (by decide), l3]) ?_
      unfold mv
      rw [← hL]
      exact m4
    by_cases h10 : cnt (q / 2) < 10
    · rw [if_pos h10] at hB
      rw [if_neg (by rw [q_10]; exact nI_ge h10 (by omega))]
      unfold wp_3_addGrowings
      refine ⟨(opens (q / 2)).length + 1, x_growings hr hl h10 (opens (q / 2)).length 0 (by omega) _ S2 (by omega) (f2.tab ht) (f2.ru hu) (g2.olk o1) m2 (fun S3 g3 m3 => ?_)⟩
      rw [List.drop_zero] at m3
      have hlg := grO_len ρ (q % 2) (opens (q / 2))
      exact fin _ S3 (f2.tr g3.fm) (by rw [g3.2 12 (by decide), l2]) m3 (by rw [if_pos h10]) (by rw [List.length_append]; omega)
    · rw [if_neg h10] at hB
      rw [if_pos (by rw [q_10]; exact nI_le (by omega) (by omega))]
      exact fin _ S2 f2 l2 m2 (by rw [if_neg h10, List.append_nil]) (by omega)
end XO
