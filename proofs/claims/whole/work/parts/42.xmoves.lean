/-! ===== the class's moves ===== -/
def ruX (ρ : Ru) (S : hm_S) : Prop := (∀ k, 1 ≤ k → k ≤ 10 → S 3 k = nI (ρ.1 k)) ∧ S 1 1 = nI ρ.2.1 ∧ S 1 2 = nI ρ.2.2.1 ∧ S 1 3 = nI ρ.2.2.2
theorem ruX.fr {c : List Nat} {ρ : Ru} {S S' : hm_S} (h : ruX ρ S) (hf : fr c S S') (hc : ∀ a ∈ [1, 3], a ∉ c) : ruX ρ S' := by
  unfold ruX
  rw [hf 1 (hc 1 (by decide)), hf 3 (hc 3 (by decide))]
  exact h
/-- only the listed moves have changed -/
def fa (S S' : hm_S) : Prop := fr [19, 21, 23, 25, 27, 29, 31] S S' ∧ ∀ k, k ≠ 11 → S' 19 k = S 19 k
theorem fa.rf (S : hm_S) : fa S S := ⟨fr.rf _ S, fun _ _ => rfl⟩
theorem fa.tr {S S' S'' : hm_S} (h : fa S S') (h' : fa S' S'') : fa S S'' := ⟨h.1.tr h'.1, fun k hk => (h'.2 k hk).trans (h.2 k hk)⟩
theorem fa.up {S : hm_S} {a : Nat} (k : Nat) (v : Int32) (ha : a ∈ [21, 23, 25, 27, 29, 31]) : fa S (hm_up S a k v) := ⟨fr.up S k v (List.mem_cons_of_mem _ ha), fun j _ => by rw [hm_up_row S _ _ (by rintro rfl; exact absurd ha (by decide))]⟩
theorem fa.up0 {S : hm_S} (v : Int32) : fa S (hm_up S 19 11 v) := ⟨fr.up S 11 v (by decide), fun j hj => hm_up_col S v hj⟩
theorem fa.tab {S S' : hm_S} (h : fa S S') (ht : tabX S) : tabX S' := ht.fr h.1 (by decide)
theorem fa.ru {ρ : Ru} {S S' : hm_S} (h : fa S S') (ht : ruX ρ S) : ruX ρ S' := ht.fr h.1 (by decide)
def mlA (L : List Mv) (S : hm_S) : Prop := ∀ i m, L[i]? = some m → S 21 i = nI m.1 ∧ S 23 i = nI m.2.1 ∧ S 25 i = nI m.2.2.1 ∧ S 27 i = nI m.2.2.2.1 ∧ S 29 i = nI m.2.2.2.2.1 ∧ S 31 i = nI (tgt m)
def ml (L : List Mv) (S : hm_S) : Prop := S 19 11 = nI L.length ∧ mlA L S
section XM
variable {T : hm_T}
theorem x_add {L : List Mv} {S : hm_S} (h : ml L S) (hL : L.length < 31) {a b c d e f : Nat} {Q : hm_S → hm_T → Prop} (hq : ∀ S', fa S S' → ml (L ++ [(a, b, c, d, e, f)]) S' → Q S' T) : wp_3_add (nI a) (nI b) (nI c) (nI d) (nI e) (nI f) S T Q := by
  unfold wp_3_add
  have r19 : ∀ (X : hm_S) (j k : Nat) (v : Int32), 19 ≠ j → hm_up X j k v 19 11 = X 19 11 := fun X j k v hj => by rw [hm_up_row X _ _ hj]
  rw [h.1, e_set hL (by omega)]
  simp only [Nat.reduceAdd, r19 _ 21 _ _ (by decide), h.1]
  rw [e_set hL (by omega)]
  simp only [Nat.reduceAdd, r19 _ 21 _ _ (by decide), r19 _ 23 _ _ (by decide), h.1]
  rw [e_set hL (by omega)]
  simp only [Nat.reduceAdd, r19 _ 21 _ _ (by decide), r19 _ 23 _ _ (by decide), r19 _ 25 _ _ (by decide), h.1]
  rw [e_set hL (by omega)]
  simp only [Nat.reduceAdd, r19 _ 21 _ _ (by decide), r19 _ 23 _ _ (by decide), r19 _ 25 _ _ (by decide), r19 _ 27 _ _ (by decide), h.1]
  rw [e_set hL (by omega)]
  simp only [Nat.reduceAdd, r19 _ 21 _ _ (by decide), r19 _ 23 _ _ (by decide), r19 _ 25 _ _ (by decide), r19 _ 27 _ _ (by decide), r19 _ 29 _ _ (by decide), h.1]
  rw [e_set hL (by omega)]
  simp only [Nat.reduceAdd, r19 _ 21 _ _ (by decide), r19 _ 23 _ _ (by decide), r19 _ 25 _ _ (by decide), r19 _ 27 _ _ (by decide), r19 _ 29 _ _ (by decide), r19 _ 31 _ _ (by decide), h.1, nI_1]
  refine hq _ ((((((fa.up _ _ (by decide)).tr (fa.up _ _ (by decide))).tr (fa.up _ _ (by decide))).tr (fa.up _ _ (by decide))).tr (fa.up _ _ (by decide))).tr (fa.up _ _ (by decide)) |>.tr (fa.up0 _)) ⟨?_, ?_⟩
  · rw [hm_up_same, List.length_append]; rfl
  · intro i m hm
    rcases Nat.lt_or_ge i L.length with q | q
    · rw [List.getElem?_append_left q] at hm
      have hi : i ≠ L.length := by omega
      obtain ⟨h1, h2, h3, h4, h5, h6⟩ := h.2 i m hm
      refine ⟨?_, ?_, ?_, ?_, ?_, ?_⟩
      · simp only [hm_up_at]; simp [hi, h1]
      · simp only [hm_up_at]; simp [hi, h2]
      · simp only [hm_up_at]; simp [hi, h3]
      · simp only [hm_up_at]; simp [hi, h4]
      · simp only [hm_up_at]; simp [hi, h5]
      · simp only [hm_up_at]; simp [hi, h6]
    · rw [List.getElem?_append_right q] at hm
      have hi : i = L.length := by
        have : i - L.length < 1 := (List.getElem?_eq_some_iff.mp hm).1
        omega
      subst hi
      rw [Nat.sub_self] at hm
      cases hm
      refine ⟨?_, ?_, ?_, ?_, ?_, ?_⟩ <;> (simp only [hm_up_at]; simp [tgt])
theorem dig_and {n : Nat} (h : n < 8) : (nI n &&& 1 = 0 ↔ ¬ n % 2 = 1) ∧ (nI n &&& 2 = 0 ↔ ¬ n / 2 % 2 = 1) ∧ (nI n &&& 4 = 0 ↔ ¬ n / 4 % 2 = 1) := by
  have : ∀ n, n < 8 → ((nI n &&& 1 = 0 ↔ ¬ n % 2 = 1) ∧ (nI n &&& 2 = 0 ↔ ¬ n / 2 % 2 = 1) ∧ (nI n &&& 4 = 0 ↔ ¬ n / 4 % 2 = 1)) := by decide
  exact this n h
theorem x_allows {ρ : Ru} {S : hm_S} (hr : rok ρ) (hu : ruX ρ S) {k n sm : Nat} (hk : 1 ≤ k) (hk2 : k ≤ 10) (hn : n ≤ 10) (hs : sm ≤ 10) {Q : Int32 → hm_S → hm_T → Prop} : wp_6_allows (nI k) (nI n) (nI sm) S T Q ↔ (if alw ρ k n sm then Q 1 S T else Q 0 S T) := by
  unfold wp_6_allows
  rw [e_get (by omega) (by omega), show S (2 + 1) k = nI (ρ.1 k) from hu.1 k hk hk2]
  obtain ⟨d1, d2, d4⟩ := dig_and (hr.1 k)
  unfold alw
  by_cases h0 : 0 < sm
  · rw [if_neg (show ¬ nI sm ≤ 0 by rw [q_0]; exact nI_ge h0 (by omega)), if_pos h0]
    by_cases hb : ρ.1 k / 4 % 2 = 1
    · rw [if_neg (fun q => d4.mp q hb), if_pos (by simpa using hb)]
    · rw [if_pos (d4.mpr hb), if_neg (by simpa using hb)]
  · rw [if_pos (show nI sm ≤ 0 by rw [q_0]; exact nI_le (by omega) (by omega)), if_neg h0]
    by_cases he : k = n
    · rw [if_pos (by rw [he]), if_pos he]
      by_cases hb : ρ.1 k % 2 = 1
      · rw [if_neg (fun q => d1.mp q hb), if_pos (by simpa using hb)]
      · rw [if_pos (d1.mpr hb), if_neg (by simpa using hb)]
    · rw [if_neg (by rw [nI_eq (by omega) (by omega)]; exact he), if_neg he]
      by_cases hb : ρ.1 k / 2 % 2 = 1
      · rw [if_neg (fun q => d2.mp q hb), if_pos (by simpa using hb)]
      · rw [if_pos (d2.mpr hb), if_neg (by simpa using hb)]
theorem shr_bit {b k : Nat} (hb : b < 2 ^ 31) (hk : k < 32) : (nI b >>> (nI k &&& 31)) &&& 1 = nI (bitN b k) := by
  have h1 : ((nI k &&& 31).toBitVec.smod 32).toNat = k := by
    have : ∀ k, k < 32 → ((nI k &&& 31).toBitVec.smod 32).toNat = k := by decide
    exact this k hk
  rw [pk_shrN hb _ k h1, q_1, n_and1 (Nat.lt_of_le_of_lt (Nat.div_le_self _ _) hb)]
  rfl
theorem x_obliges {ρ : Ru} {S : hm_S} (hr : rok ρ) (hu : ruX ρ S) {k : Nat} (hk : k ≤ 10) {Q : Int32 → hm_S → hm_T → Prop} : wp_6_obliges (nI k) S T Q ↔ Q (nI (bitN ρ.2.1 k)) S T := by
  unfold wp_6_obliges
  rw [hu.2.1, shr_bit (by have := hr.2.1; omega) (by omega)]
theorem x_growsAt {ρ : Ru} {S : hm_S} (hr : rok ρ) (hu : ruX ρ S) {k : Nat} (hk : k ≤ 10) {Q : Int32 → hm_S → hm_T → Prop} : wp_6_growsAt (nI k) S T Q ↔ (if bitN ρ.2.2.1 k = 1 then Q 1 S T else Q 0 S T) := by
  unfold wp_6_growsAt
  have hb := bitN_lt ρ.2.2.1 k
  rw [hu.2.2.1, shr_bit (by have := hr.2.2.1; omega) (by omega)]
  by_cases h : bitN ρ.2.2.1 k = 1
  · rw [if_pos h, h, if_neg (by decide)]
  · have h0 : bitN ρ.2.2.1 k = 0 := by omega
    rw [if_neg h, h0, if_pos (by decide)]
/-- the parts that are put fit -/
def rwOK (l sm gr : Nat) : Prop := l < 1215 ∧ cnt l + sm + gr ≤ 10
theorem jt_put {l n b : Nat} (hl : l < 1215) (hn : 1 ≤ n) (hb : b < 2) (hc : cnt l + n ≤ 10) : 2 * (n - 1) + b < 20 ∧ szk (2 * (n - 1) + b) ≤ 10 - cnt l ∧ jt l (2 * (n - 1) + b) < 1215 ∧ cnt (jt l (2 * (n - 1) + b)) = cnt l + n ∧ lay (jt l (2 * (n - 1) + b)) = insL (2 * (n - 1) + b) (lay l) := by
  have hz : szk (2 * (n - 1) + b) = n := by unfold szk; omega
  have h20 : 2 * (n - 1) + b < 20 := by omega
  obtain ⟨j1, j2, -, -⟩ := tq_jt hl h20 (by omega)
  refine ⟨h20, by omega, j1, ?_, j2⟩
  have key : ∀ (k : Nat) (a : List Nat), cntL (insL k a) = cntL a + szk k := by
    intro k a
    induction a with
    | nil => simp [insL, cntL]
    | cons x t ih =>
      simp only [insL]
      by_cases hx : x ≤ k
      · rw [if_pos hx]; simp only [cntL, ih]; omega
      · rw [if_neg hx]; simp only [cntL]; omega
  unfold cnt
  rw [j2, key, hz]
theorem rwi_lt {l sm gr b : Nat} (h : rwOK l sm gr) (hb : b < 2) : rwi l sm gr b < 1215 := by
  unfold rwi
  by_cases h1 : 0 < sm
  · obtain ⟨-, -, j1, j2, -⟩ := jt_put h.1 h1 hb (by have := h.2; omega)
    simp only [if_pos h1]
    by_cases h2 : 0 < gr
    · rw [if_pos h2]; exact (jt_put j1 h2 hb (by have := h.2; omega)).2.2.1
    · rw [if_neg h2]; exact j1
  · simp only [if_neg h1]
    by_cases h2 : 0 < gr
    · rw [if_pos h2]; exact (jt_put h.1 h2 hb (by have := h.2; omega)).2.2.1
    · rw [if_neg h2]; exact h.1
theorem x_restWith {S : hm_S} (ht : tabX S) {l sm gr b : Nat} (h : rwOK l sm gr) (hb : b < 2) {Q : Int32 → hm_S → hm_T → Prop} : wp_3_restWith (nI l) (nI sm) (nI gr) (nI b) S T Q ↔ Q (nI (rwi l sm gr b)) S T := by
  have h10 := h.2
  have tail : ∀ l1, l1 < 1215 → cnt l1 + gr ≤ 10 → (wb_3_restWith_24 Q (nI gr) (nI b) (nI l1) S T ↔ Q (nI (if 0 < gr then jt l1 (2 * (gr - 1) + b) else l1)) S T) := by
    intro l1 h1 h2
    unfold wb_3_restWith_24
    by_cases hg : 0 < gr
    · obtain ⟨p1, p2, -, -, -⟩ := jt_put h1 hg hb h2
      rw [if_neg (show ¬ nI gr ≤ 0 by rw [q_0]; exact nI_ge hg (by omega)), if_pos hg, e_kindOfHeap hg, x_join ht h1 p1 p2]
    · rw [if_pos (show nI gr ≤ 0 by rw [q_0]; exact nI_le (by omega) (by omega)), if_neg hg]
  unfold wp_3_restWith rwi
  by_cases hs : 0 < sm
  · obtain ⟨p1, p2, p3, p4, -⟩ := jt_put h.1 hs hb (by omega)
    rw [if_neg (show ¬ nI sm ≤ 0 by rw [q_0]; exact nI_ge hs (by omega)), e_kindOfHeap hs, x_join ht h.1 p1 p2, tail _ p3 (by omega)]
    simp only [if_pos hs]
  · rw [if_pos (show nI sm ≤ 0 by rw [q_0]; exact nI_le (by omega) (by omega)), tail _ h.1 (by omega)]
    simp only [if_neg hs]
theorem tkS_len (ρ : Ru) (n rest p k : Nat) : ∀ c sm, (tkS ρ n rest p k c sm).length ≤ c := by
  intro c
  induction c with
  | zero => intro sm; exact Nat.le_refl _
  | succ c ih =>
    intro sm
    simp only [tkS, List.length_append]
    have := ih (sm + 1)
    by_cases h : alw ρ k n sm = true
    · simp only [h, if_true, List.length_singleton]; omega
    · simp only [h, if_false]; simp; omega
theorem tkK_len (ρ : Ru) (n rest p : Nat) : ∀ c k, (tkK ρ n rest p c k).length ≤ tkB n c k := by
  intro c
  induction c with
  | zero => intro k; exact Nat.le_refl _
  | succ c ih =>
    intro k
    simp only [tkK, tkB, List.length_append]
    have := ih (k + 1)
    have := tkS_len ρ n rest p k ((n - k) / 2 + 1) 0
    omega
theorem tkO_len (ρ : Ru) (p : Nat) : ∀ os, (tkO ρ p os).length ≤ tkBs os := by
  intro os
  induction os with
  | nil => exact Nat.le_refl _
  | cons q os ih =>
    simp only [tkO, tkBs, List.length_append]
    have := tkK_len ρ q.1 q.2 p q.1 1
    omega
theorem grO_len (ρ : Ru) (p : Nat) : ∀ os, (grO ρ p os).length ≤ os.length := by
  intro os
  induction os with
  | nil => exact Nat.le_refl _
  | cons q os ih =>
    simp only [grO, List.length_append, List.length_cons]
    by_cases h : bitN ρ.2.2.1 q.1 = 1
    · simp only [h, if_true, List.length_singleton]; omega
    · simp only [h, if_false]; simp; omega
theorem x_tkS {ρ : Ru} (hr : rok ρ) {n rest p k : Nat} (hk : 1 ≤ k) (hkn : k ≤ n) (hn : n ≤ 10) (hrest : rest < 1215) (hcr : cnt rest + n ≤ 10) {Q : hm_S → hm_T → Prop} {K3 : Int32 → Int32 → Int32 → Int32 → hm_S → hm_T → Prop} : ∀ c sm, sm + c = (n - k) / 2 + 1 → ∀ (L : List Mv) (S : hm_S), L.length + c ≤ 31 → tabX S → ruX ρ S → ml L S → (∀ S', fa S S' → ml (L ++ tkS ρ n rest p k c sm) S' → K3 (nI n) (nI rest) (nI p) (nI (k + 1)) S' T) → wl_3_addTakings_18 Q K3 (c + 1) (nI n) (nI rest) (nI p) (nI k) (nI (n - k)) (nI sm) S T := by
  intro c
  induction c with
  | zero =>
    intro sm hsm L S hL ht hu hm h
    show wb_3_addTakings_18 Q K3 _ _ _ _ _ _ _ S T
    unfold wb_3_addTakings_18 wb_3_addTakings_93
    rw [q_2, n_div2 (by omega), if_pos (nI_lt (by omega) (by omega)), nI_1]
    refine h S (fa.rf S) ?_
    simp only [tkS, List.append_nil]
    exact hm
  | succ c ih =>
    intro sm hsm L S hL ht hu hm h
    show wb_3_addTakings_18 Q K3 _ _ _ _ _ _ _ S T
    unfold wb_3_addTakings_18 wb_3_addTakings_87
    rw [q_2, n_div2 (by omega), if_neg (nI_nlt (by omega) (by omega)), x_allows hr hu hk (by omega) hn (by omega)]
    by_cases ha : alw ρ k n sm = true
    · rw [if_pos ha, if_neg (by decide), x_obliges hr hu (by omega), pk_sub (by omega), x_restWith ht ⟨hrest, by omega⟩ (bitN_lt _ _), e_positionOf, q_0]
      refine x_add hm (by omega) (fun S' hf hm' => ?_)
      rw [nI_1]
      refine ih (sm + 1) (by omega) _ S' (by rw [List.length_append]; simp; omega) (hf.tab ht) (hf.ru hu) hm' (fun S'' hf' hm'' => ?_)
      refine h S'' (hf.tr hf') ?_
      simp only [tkS, if_pos ha]
      rw [← List.append_assoc]
      exact hm''
    · rw [if_neg ha, if_pos rfl, nI_1]
      refine ih (sm + 1) (by omega) L S (by omega) ht hu hm (fun S'' hf' hm'' => ?_)
      refine h S'' hf' ?_
      simp only [tkS, if_neg ha, List.nil_append]
      exact hm''
theorem x_tkK {ρ : Ru} (hr : rok ρ) {n rest p : Nat} (hn : n ≤ 10) (hrest : rest < 1215) (hcr : cnt rest + n ≤ 10) {Q : hm_S → hm_T → Prop} : ∀ c k, k + c = n + 1 → 1 ≤ k → ∀ (L : List Mv) (S : hm_S), L.length + tkB n c k ≤ 31 → tabX S → ruX ρ S → ml L S → (∀ S', fa S S' → ml (L ++ tkK ρ n rest p c k) S' → Q S' T) → wl_3_addTakings_3 Q (c + 1) (nI n) (nI rest) (nI p) (nI k) S T := by
  intro c
  induction c with
  | zero =>
    intro k hk h1 L S hL ht hu hm h
    show wb_3_addTakings_3 Q _ _ _ _ _ S T
    unfold wb_3_addTakings_3
    rw [if_pos (nI_lt (by omega) (by omega))]
    refine h S (fa.rf S) ?_
    simp only [tkK, List.append_nil]
    exact hm
  | succ c ih =>
    intro k hk h1 L S hL ht hu hm h
    show wb_3_addTakings_3 Q _ _ _ _ _ S T
    unfold wb_3_addTakings_3
    have hB : tkB n (c + 1) k = (n - k) / 2 + 1 + tkB n c (k + 1) := rfl
    rw [if_neg (nI_nlt (by omega) (by omega)), pk_sub (by omega)]
    refine ⟨(n - k) / 2 + 1 + 1, ?_⟩
    refine x_tkS hr h1 (by omega) hn hrest hcr _ 0 (by omega) L S (by omega) ht hu hm (fun S' hf hm' => ?_)
    have hl := tkS_len ρ n rest p k ((n - k) / 2 + 1) 0
    refine ih (k + 1) (by omega) (by omega) _ S' (by rw [List.length_append]; omega) (hf.tab ht) (hf.ru hu) hm' (fun S'' hf' hm'' => ?_)
    refine h S'' (hf.tr hf') ?_
    simp only [tkK]
    rw [← List.append_assoc]
    exact hm''
theorem x_addTakings {ρ : Ru} (hr : rok ρ) {n rest p : Nat} (hn : n ≤ 10) (hrest : rest < 1215) (hcr : cnt rest + n ≤ 10) {Q : hm_S → hm_T → Prop} {L : List Mv} {S : hm_S} (hL : L.length + tkB n n 1 ≤ 31) (ht : tabX S) (hu : ruX ρ S) (hm : ml L S) (h : ∀ S', fa S S' → ml (L ++ tkK ρ n rest p n 1) S' → Q S' T) : wp_3_addTakings (nI n) (nI rest) (nI p) S T Q := by
  unfold wp_3_addTakings
  exact ⟨n + 1, x_tkK hr hn hrest hcr n 1 (by omega) (by omega) L S hL ht hu hm h⟩
end XM
