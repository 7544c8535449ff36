/-! ===== the class's layouts, read ===== -/
def fr (c : List Nat) (S S' : hm_S) : Prop := ∀ a, a ∉ c → S' a = S a
theorem fr.rf (c : List Nat) (S : hm_S) : fr c S S := fun _ _ => rfl
theorem fr.tr {c : List Nat} {S S' S'' : hm_S} (h : fr c S S') (h' : fr c S' S'') : fr c S S'' := fun a ha => (h' a ha).trans (h a ha)
theorem fr.up {c : List Nat} (S : hm_S) {a : Nat} (k : Nat) (v : Int32) (ha : a ∈ c) : fr c S (hm_up S a k v) := fun b hb => hm_up_row S _ _ (fun e => hb (e ▸ ha))
theorem fr.mono {c c' : List Nat} {S S' : hm_S} (h : fr c S S') (hc : ∀ a ∈ c, a ∈ c') : fr c' S S' := fun a ha => h a (fun q => ha (hc a q))
theorem fr.fill {c : List Nat} (S : hm_S) {a : Nat} (L : Nat) (v : Int32) (ha : a ∈ c) : fr c S (hm_fill S a L v) := fun b hb => by
  have : b ≠ a := fun e => hb (e ▸ ha)
  simp [hm_fill, this]
def tabX (S : hm_S) : Prop := (∀ l, l < 1215 → S 6 l = nI (stem l) ∧ S 8 l = nI (lastk l) ∧ S 10 l = nI (len l) ∧ S 12 l = nI (cnt l) ∧ S 14 l = nI (bnd l) ∧ S 16 l = nI (frd l)) ∧ ∀ l k, l < 1215 → k < 20 → szk k ≤ 10 - cnt l → S 18 (l * 20 + k) = nI (jt l k)
theorem tabX.fr {c : List Nat} {S S' : hm_S} (h : tabX S) (hf : fr c S S') (hc : ∀ a ∈ [6, 8, 10, 12, 14, 16, 18], a ∉ c) : tabX S' := by
  refine ⟨fun l hl => ?_, fun l k hl hk hz => ?_⟩
  · rw [hf 6 (hc 6 (by decide)), hf 8 (hc 8 (by decide)), hf 10 (hc 10 (by decide)), hf 12 (hc 12 (by decide)), hf 14 (hc 14 (by decide)), hf 16 (hc 16 (by decide))]
    exact h.1 l hl
  · rw [hf 18 (hc 18 (by decide))]
    exact h.2 l k hl hk hz
section XL
variable {S : hm_S} {T : hm_T} {Q : Int32 → hm_S → hm_T → Prop}
theorem x_heapsOf (ht : tabX S) {l : Nat} (hl : l < 1215) : wp_2_heapsOf (nI l) S T Q ↔ Q (nI (len l)) S T := by
  unfold wp_2_heapsOf
  rw [e_get hl (by omega), show S (9 + 1) l = nI (len l) from (ht.1 l hl).2.2.1]
theorem x_countersOf (ht : tabX S) {l : Nat} (hl : l < 1215) : wp_2_countersOf (nI l) S T Q ↔ Q (nI (cnt l)) S T := by
  unfold wp_2_countersOf
  rw [e_get hl (by omega), show S (11 + 1) l = nI (cnt l) from (ht.1 l hl).2.2.2.1]
theorem x_boundHeapsOf (ht : tabX S) {l : Nat} (hl : l < 1215) : wp_2_boundHeapsOf (nI l) S T Q ↔ Q (nI (bnd l)) S T := by
  unfold wp_2_boundHeapsOf
  rw [e_get hl (by omega), show S (13 + 1) l = nI (bnd l) from (ht.1 l hl).2.2.2.2.1]
theorem x_freedOf (ht : tabX S) {l : Nat} (hl : l < 1215) : wp_2_freedOf (nI l) S T Q ↔ Q (nI (frd l)) S T := by
  unfold wp_2_freedOf
  rw [e_get hl (by omega), show S (15 + 1) l = nI (frd l) from (ht.1 l hl).2.2.2.2.2]
theorem x_join (ht : tabX S) {l k : Nat} (hl : l < 1215) (hk : k < 20) (hz : szk k ≤ 10 - cnt l) : wp_2_join (nI l) (nI k) S T Q ↔ Q (nI (jt l k)) S T := by
  rw [e_join hl hk, ht.2 l k hl hk hz]
/-! lists -/
theorem tq_srt {l : Nat} (h : l < 1215) : srtL (lay l) = true := allB_spec k_srt l h
theorem srt_le : ∀ {a : List Nat}, srtL a = true → ∀ {i j : Nat}, i ≤ j → j < a.length → a.getD i 0 ≤ a.getD j 0 := by
  intro a
  induction a with
  | nil => intro _ i j _ hj; exact absurd hj (Nat.not_lt_zero j)
  | cons x t ih =>
    intro hs i j hij hj
    have ht : srtL t = true := by
      cases t with
      | nil => rfl
      | cons y t => simp only [srtL, Bool.and_eq_true] at hs; exact hs.2
    cases j with
    | zero =>
      have : i = 0 := by omega
      subst this; exact Nat.le_refl _
    | succ j =>
      have hj' : j < t.length := by simpa using hj
      cases i with
      | zero =>
        have h0 : x ≤ t.getD 0 0 := by
          cases t with
          | nil => simp at hj'
          | cons y t => simp only [srtL, Bool.and_eq_true, decide_eq_true_eq] at hs; exact hs.1
        have := ih ht (Nat.zero_le j) hj'
        simp only [List.getD_cons_zero, List.getD_cons_succ]
        omega
      | succ i =>
        simp only [List.getD_cons_succ]
        exact ih ht (by omega) hj'
theorem insL_end {k : Nat} : ∀ {a : List Nat}, (∀ x ∈ a, x ≤ k) → insL k a = a ++ [k] := by
  intro a
  induction a with
  | nil => intro _; rfl
  | cons x t ih =>
    intro h
    simp only [insL, if_pos (h x List.mem_cons_self), List.cons_append]
    rw [ih (fun y hy => h y (List.mem_cons_of_mem _ hy))]
theorem cntL_erase : ∀ (a : List Nat) (h : Nat), cntL (a.eraseIdx h) ≤ cntL a := by
  intro a
  induction a with
  | nil => intro h; simp
  | cons x t ih =>
    intro h
    cases h with
    | zero => simp only [List.eraseIdx_cons_zero, cntL]; omega
    | succ h => simp only [List.eraseIdx_cons_succ, cntL]; have := ih h; omega
theorem cntL_take {a : List Nat} {i : Nat} (h : i < a.length) : cntL (a.take i) + szk (a.getD i 0) ≤ cntL a := by
  have h1 : a.take (i + 1) = a.take i ++ [a.getD i 0] := take_s h
  have h2 : cntL (a.take (i + 1)) ≤ cntL a := by
    have e : a = a.take (i + 1) ++ a.drop (i + 1) := (List.take_append_drop _ _).symm
    have : cntL a = cntL (a.take (i + 1)) + cntL (a.drop (i + 1)) := by rw [← cntL_app, List.take_append_drop]
    omega
  rw [h1, cntL_app] at h2
  simpa [cntL] using h2
/-! kindAt -/
theorem x_kindAt (ht : tabX S) {l h : Nat} (hl : l < 1215) (hh : h < len l) (hq : Q (nI ((lay l).getD h 0)) S T) : wp_2_kindAt (nI l) (nI h) S T Q := by
  have hlen := tq_len hl
  have key : ∀ more a, a < 1215 → lay a = (lay l).take (h + 1 + more) → h + 1 + more ≤ len l → ∃ f, wl_2_kindAt_16 Q f (nI a) (nI more) S T := by
    intro more
    induction more with
    | zero =>
      intro a ha he hm
      refine ⟨1, ?_⟩
      show wb_2_kindAt_16 Q _ _ _ S T
      unfold wb_2_kindAt_16 wb_2_kindAt_36
      rw [if_pos (by decide), e_get ha (by omega), show S (7 + 1) a = nI (lastk a) from (ht.1 a ha).2.1]
      have hne : a ≠ 0 := by
        intro e
        rw [e, k_fc0.2.2.1] at he
        have : ((lay l).take (h + 1)).length = 0 := by rw [← he]; rfl
        rw [List.length_take] at this
        unfold len at hh
        omega
      obtain ⟨-, e2, -, -⟩ := tq_lay ha hne
      have e3 : (lay l).take (h + 1) = (lay l).take h ++ [(lay l).getD h 0] := take_s hh
      rw [he] at e2
      rw [Nat.add_zero, e3] at e2
      have := List.append_inj_right' e2 rfl
      simp only [List.cons.injEq, and_true] at this
      rw [← this]
      exact hq
    | succ more ih =>
      intro a ha he hm
      have hne : a ≠ 0 := by
        intro e
        rw [e, k_fc0.2.2.1] at he
        have : ((lay l).take (h + 1 + (more + 1))).length = 0 := by rw [← he]; rfl
        rw [List.length_take] at this
        unfold len at hm hh
        omega
      obtain ⟨e1, e2, -, -⟩ := tq_lay ha hne
      have hlt : h + 1 + more < (lay l).length := by unfold len at hm; omega
      have e3 : (lay l).take (h + 1 + more + 1) = (lay l).take (h + 1 + more) ++ [(lay l).getD (h + 1 + more) 0] := take_s hlt
      rw [he, show h + 1 + (more + 1) = h + 1 + more + 1 by omega, e3] at e2
      obtain ⟨f, hf⟩ := ih (stem a) (by omega) (List.append_inj_left' e2 rfl).symm (by omega)
      refine ⟨f + 1, ?_⟩
      show wb_2_kindAt_16 Q _ _ _ S T
      unfold wb_2_kindAt_16
      rw [if_neg (by rw [q_0]; exact nI_ge (by omega) (by omega)), e_get ha (by omega), show S (5 + 1) a = nI (stem a) from (ht.1 a ha).1, pk_m1]
      exact hf
  unfold wp_2_kindAt
  rw [e_get hl (by omega), show S (9 + 1) l = nI (len l) from (ht.1 l hl).2.2.1, q_1, pk_sub (by omega), pk_sub (by omega)]
  exact key (len l - 1 - h) l hl (by rw [List.take_of_length_le (by unfold len at hh ⊢; omega)]) (by omega)
/-! without -/
theorem pre_s {a : List Nat} {h i : Nat} (hi : i < a.length) (hne : i ≠ h) : (a.take (i + 1)).eraseIdx h = (a.take i).eraseIdx h ++ [a.getD i 0] := by
  rw [take_s hi]
  have hlen : (a.take i).length = i := by rw [List.length_take]; omega
  rcases Nat.lt_or_ge h i with q | q
  · rw [List.eraseIdx_append_of_lt_length (by omega)]
  · rw [List.eraseIdx_append_of_length_le (by omega), List.eraseIdx_of_length_le (by simp; omega), List.eraseIdx_of_length_le (by omega)]
theorem pre_h {a : List Nat} {h : Nat} (hi : h < a.length) : (a.take (h + 1)).eraseIdx h = (a.take h).eraseIdx h := by
  rw [take_s hi]
  have hlen : (a.take h).length = h := by rw [List.length_take]; omega
  rw [List.eraseIdx_append_of_length_le (by omega), hlen, Nat.sub_self, List.eraseIdx_of_length_le (l := a.take h) (by omega)]
  simp
theorem wo_step {l h i acc : Nat} (hl : l < 1215) (hi : i < len l) (hne : i ≠ h) (ha : acc < 1215) (he : lay acc = ((lay l).take i).eraseIdx h) : (lay l).getD i 0 < 20 ∧ szk ((lay l).getD i 0) ≤ 10 - cnt acc ∧ jt acc ((lay l).getD i 0) < 1215 ∧ lay (jt acc ((lay l).getD i 0)) = ((lay l).take (i + 1)).eraseIdx h := by
  have hk := tq_small hl (getD_mem hi)
  have hz : szk ((lay l).getD i 0) ≤ 10 - cnt acc := by
    have h1 := cntL_take (a := lay l) hi
    have h2 := cntL_erase ((lay l).take i) h
    have h3 := (tq_cnt hl).1
    unfold cnt at h3 ⊢
    rw [he]
    omega
  obtain ⟨j1, j2, -, -⟩ := tq_jt ha hk hz
  refine ⟨hk, hz, j1, ?_⟩
  rw [j2, he, pre_s hi hne, insL_end]
  intro x hx
  have hx1 : x ∈ (lay l).take i := List.mem_of_mem_eraseIdx hx
  obtain ⟨j, hj, e⟩ := List.mem_iff_getElem.mp hx1
  have hj2 : j < i := by rw [List.length_take] at hj; omega
  have e2 : (lay l).getD j 0 = x := by
    rw [← e, List.getElem_take, List.getD_eq_getElem?_getD, List.getElem?_eq_getElem (by unfold len at hi; omega)]
    rfl
  rw [← e2]
  exact srt_le (tq_srt hl) (by omega) hi
theorem wo_spec {l h : Nat} (hl : l < 1215) : ∀ c i acc, i + c = len l → acc < 1215 → lay acc = ((lay l).take i).eraseIdx h → woF l h c i acc < 1215 ∧ lay (woF l h c i acc) = (lay l).eraseIdx h := by
  intro c
  induction c with
  | zero =>
    intro i acc hi ha he
    refine ⟨ha, ?_⟩
    show lay acc = _
    rw [he, List.take_of_length_le (by unfold len at hi; omega)]
  | succ c ih =>
    intro i acc hi ha he
    by_cases hih : i = h
    · simp only [woF, if_pos hih]
      refine ih (i + 1) acc (by omega) ha ?_
      rw [he, hih, pre_h (by unfold len at hi; omega)]
    · simp only [woF, if_neg hih]
      obtain ⟨-, -, j1, j2⟩ := wo_step hl (by omega) hih ha he
      exact ih (i + 1) _ (by omega) j1 j2
theorem wo_ok {l h : Nat} (hl : l < 1215) : wo l h < 1215 ∧ lay (wo l h) = (lay l).eraseIdx h := wo_spec hl (len l) 0 0 (by omega) (by omega) (by rw [k_fc0.2.2.1]; simp)
theorem x_without (ht : tabX S) {l h : Nat} (hl : l < 1215) (hh : h < 2 ^ 30) (hq : Q (nI (wo l h)) S T) : wp_2_without (nI l) (nI h) S T Q := by
  have hlen := tq_len hl
  have key : ∀ c i acc, i + c = len l → acc < 1215 → lay acc = ((lay l).take i).eraseIdx h → woF l h c i acc = wo l h → ∃ f, wl_2_without_5 Q f (nI l) (nI h) (nI acc) (nI i) S T := by
    intro c
    induction c with
    | zero =>
      intro i acc hi ha he hw
      refine ⟨1, ?_⟩
      show wb_2_without_5 Q _ _ _ _ _ S T
      unfold wb_2_without_5
      rw [e_get hl (by omega), show S (9 + 1) l = nI (len l) from (ht.1 l hl).2.2.1, if_pos (nI_le (by omega) (by omega))]
      have : acc = wo l h := hw
      rw [this]
      exact hq
    | succ c ih =>
      intro i acc hi ha he hw
      by_cases hih : i = h
      · obtain ⟨f, hf⟩ := ih (i + 1) acc (by omega) ha (by rw [he, hih, pre_h (by unfold len at hi; omega)]) (by rw [← hw]; simp only [woF, if_pos hih])
        refine ⟨f + 1, ?_⟩
        show wb_2_without_5 Q _ _ _ _ _ S T
        unfold wb_2_without_5 wb_2_without_37
        rw [e_get hl (by omega), show S (9 + 1) l = nI (len l) from (ht.1 l hl).2.2.1, if_neg (nI_ge (by omega) (by omega)), if_pos (by rw [hih]), nI_1]
        exact hf
      · obtain ⟨p1, p2, p3, p4⟩ := wo_step hl (by omega) hih ha he
        obtain ⟨f, hf⟩ := ih (i + 1) _ (by omega) p3 p4 (by rw [← hw]; simp only [woF, if_neg hih])
        refine ⟨f + 1, ?_⟩
        show wb_2_without_5 Q _ _ _ _ _ S T
        unfold wb_2_without_5 wb_2_without_37
        rw [e_get hl (by omega), show S (9 + 1) l = nI (len l) from (ht.1 l hl).2.2.1, if_neg (nI_ge (by omega) (by omega)), if_neg (by rw [nI_eq (by omega) (by omega)]; exact hih)]
        refine x_kindAt ht hl (by omega) ?_
        rw [x_join ht ha p1 p2, nI_1]
        exact hf
  unfold wp_2_without
  exact key (len l) 0 0 (by omega) (by omega) (by rw [k_fc0.2.2.1]; simp) rfl
end XL
