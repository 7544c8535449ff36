/-! ===== the reference: putting a heap among those that are made, turning a position ===== -/
theorem insL_mid {x : Nat} : ∀ (j : Nat) (a : List Nat), j ≤ a.length → (∀ i, i < j → a.getD i 0 ≤ x) → (∀ i, j ≤ i → i < a.length → x < a.getD i 0) → insL x a = a.take j ++ x :: a.drop j := by
  intro j
  induction j with
  | zero =>
    intro a _ _ h
    cases a with
    | nil => rfl
    | cons y t =>
      have := h 0 (by omega) (by simp)
      simp only [List.getD_cons_zero] at this
      simp only [insL, if_neg (show ¬ y ≤ x by omega), List.take_zero, List.drop_zero, List.nil_append]
  | succ j ih =>
    intro a hj h1 h2
    cases a with
    | nil => simp at hj
    | cons y t =>
      have := h1 0 (by omega)
      simp only [List.getD_cons_zero] at this
      simp only [insL, if_pos this, List.take_succ_cons, List.drop_succ_cons, List.cons_append]
      rw [ih t (by simpa using hj) (fun i hi => by simpa using h1 (i + 1) (by omega)) (fun i hi hl => by simpa using h2 (i + 1) (by omega) (by simpa using hl))]
theorem getD_mid (a : List Nat) (j x i : Nat) (hj : j ≤ a.length) : (a.take j ++ x :: a.drop j).getD i 0 = if i < j then a.getD i 0 else if i = j then x else a.getD (i - 1) 0 := by
  have hl : (a.take j).length = j := by rw [List.length_take]; omega
  simp only [List.getD_eq_getElem?_getD]
  by_cases h1 : i < j
  · rw [if_pos h1, List.getElem?_append_left (by omega), List.getElem?_take_of_lt h1]
  · rw [if_neg h1, List.getElem?_append_right (by omega), hl]
    by_cases h2 : i = j
    · rw [if_pos h2, h2, Nat.sub_self]; rfl
    · rw [if_neg h2, show i - j = (i - 1 - j) + 1 by omega, List.getElem?_cons_succ, List.getElem?_drop, show j + (i - 1 - j) = i - 1 by omega]
theorem srt_ins {x : Nat} : ∀ {a : List Nat}, srtL a = true → srtL (insL x a) = true := by
  intro a
  induction a with
  | nil => intro _; rfl
  | cons y t ih =>
    intro hs
    by_cases h : y ≤ x
    · simp only [insL, if_pos h]
      cases t with
      | nil => simp [insL, srtL, h]
      | cons z t =>
        simp only [srtL, Bool.and_eq_true, decide_eq_true_eq] at hs
        have := ih hs.2
        by_cases h2 : z ≤ x
        · simp only [insL, if_pos h2] at this ⊢
          simp only [srtL, Bool.and_eq_true, decide_eq_true_eq]
          exact ⟨hs.1, this⟩
        · simp only [insL, if_neg h2] at this ⊢
          simp only [srtL, Bool.and_eq_true, decide_eq_true_eq] at this ⊢
          exact ⟨h, by omega, hs.2⟩
    · simp only [insL, if_neg h]
      simp only [srtL, Bool.and_eq_true, decide_eq_true_eq]
      exact ⟨by omega, hs⟩
theorem insL_len (x : Nat) : ∀ (a : List Nat), (insL x a).length = a.length + 1 := by
  intro a
  induction a with
  | nil => rfl
  | cons y t ih =>
    simp only [insL]
    by_cases h : y ≤ x
    · rw [if_pos h]; simp [ih]
    · rw [if_neg h]; simp
theorem insL_map (k : Nat) : ∀ (a : List Nat), insL (k + 2) (a.map (· + 2)) = (insL k a).map (· + 2) := by
  intro a
  induction a with
  | nil => rfl
  | cons y t ih =>
    simp only [List.map_cons, insL]
    by_cases h : y ≤ k
    · rw [if_pos h, if_pos (show y + 2 ≤ k + 2 by omega), ih]; rfl
    · rw [if_neg h, if_neg (show ¬ y + 2 ≤ k + 2 by omega)]; rfl
theorem z_puts {S : hm_S} {T : hm_T} {a : List Nat} {x : Nat} (hm : md S a) (hl : a.length ≤ 10) (hs : srtL a = true) (hx : x < 100) (hb : ∀ y ∈ a, y < 100) {Q : hm_S → hm_T → Prop} (h : ∀ S', mw S S' → md S' (insL x a) → Q S' T) : wp_11_puts (nI x) S T Q := by
  unfold wp_11_puts
  rw [hm.1]
  have key : ∀ (j : Nat) (X : hm_S), j ≤ a.length → mw S X → X 0 11 = nI a.length → (∀ i, i < j → X 6 i = nI (a.getD i 0)) → (∀ i, j < i → i ≤ a.length → X 6 i = nI (a.getD (i - 1) 0)) → (∀ i, j ≤ i → i < a.length → x < a.getD i 0) → wl_11_puts_5 Q (j + 1) (nI x) (nI j) X T := by
    intro j
    induction j with
    | zero =>
      intro X hj hw h11 h1 h2 h3
      show wb_11_puts_5 Q _ _ _ X T
      unfold wb_11_puts_5 wb_11_puts_41
      rw [if_pos (by decide), nI_clamp (by omega)]
      refine ⟨vp_in_nI (by omega) (by omega), h _ ((hw.tr (mw.up6 X _ _)).tr (mw.up0 _ _)) ?_⟩
      rw [insL_mid 0 a (by omega) (fun i hi => absurd hi (Nat.not_lt_zero i)) h3]
      refine ⟨?_, fun i hi => ?_⟩
      · rw [hm_up_same, hm_up_row X _ _ (by decide), h11, nI_1]
        simp
      · rw [getD_mid a 0 x i (by omega), hm_up_row _ _ _ (by decide), if_neg (Nat.not_lt_zero i)]
        have hil : i ≤ a.length := by simp at hi; omega
        by_cases h0 : i = 0
        · rw [if_pos h0, h0, hm_up_same]
        · rw [if_neg h0, hm_up_col X _ h0]
          exact h2 i (by omega) hil
    | succ j ih =>
      intro X hj hw h11 h1 h2 h3
      show wb_11_puts_5 Q _ _ _ X T
      unfold wb_11_puts_5 wb_11_puts_41
      have hv := h1 j (by omega)
      have hlt : a.getD j 0 < 100 := hb _ (getD_mem (by omega))
      rw [if_neg (show ¬ nI (j + 1) ≤ 0 by rw [q_0]; exact nI_ge (by omega) (by omega)), nI_pred, nI_clamp (by omega), hv, nI_clamp (by omega)]
      refine ⟨vp_in_nI (by omega) (by omega), ?_⟩
      by_cases hc : a.getD j 0 ≤ x
      · rw [if_pos (nI_le hc (by omega))]
        refine ⟨vp_in_nI (by omega) (by omega), h _ ((hw.tr (mw.up6 X _ _)).tr (mw.up0 _ _)) ?_⟩
        rw [insL_mid (j + 1) a hj (fun i hi => Nat.le_trans (srt_le hs (show i ≤ j by omega) (by omega)) hc) h3]
        refine ⟨?_, fun i hi => ?_⟩
        · rw [hm_up_same, hm_up_row X _ _ (by decide), h11, nI_1, List.length_append, List.length_cons, List.length_take, List.length_drop]
          congr 1
          omega
        · rw [getD_mid a (j + 1) x i hj, hm_up_row _ _ _ (by decide)]
          have hil : i ≤ a.length := by simp at hi; omega
          by_cases h4 : i < j + 1
          · rw [if_pos h4, hm_up_col X _ (by omega)]
            exact h1 i h4
          · rw [if_neg h4]
            by_cases h5 : i = j + 1
            · rw [if_pos h5, h5, hm_up_same]
            · rw [if_neg h5, hm_up_col X _ h5]
              exact h2 i (by omega) hil
      · rw [if_neg (by exact nI_ge (by omega) (by omega)), pk_m1]
        refine ⟨vp_in_nI (by omega) (by omega), vp_in_nI (by omega) (by omega), ?_⟩
        refine ih _ (by omega) (hw.tr (mw.up6 X _ _)) (by rw [hm_up_row X _ _ (by decide)]; exact h11) (fun i hi => by rw [hm_up_col X _ (by omega)]; exact h1 i (by omega)) (fun i hi hil => ?_) (fun i hi hil => ?_)
        · by_cases h5 : i = j + 1
          · rw [h5, hm_up_same, Nat.add_sub_cancel]
          · rw [hm_up_col X _ h5]
            exact h2 i (by omega) hil
        · by_cases h5 : i = j
          · rw [h5]; omega
          · exact h3 i (by omega) hil
  exact ⟨a.length + 1, key a.length S (Nat.le_refl _) (mw.rf S) hm.1 (fun i hi => hm.2 i hi) (fun i h1 h2 => by omega) (fun i h1 h2 => by omega)⟩
/-- the heaps but the first one of a size, all free, as codes -/
def remC (n : Nat) : List Nat → List Nat
  | [] => []
  | c :: l => if c / 2 = n then l.map (fun c => c / 2 * 2) else c / 2 * 2 :: remC n l
theorem remC_map (n : Nat) : ∀ (a : List Nat), remC n (a.map (· + 2)) = (remF n a).map (· + 2) := by
  intro a
  induction a with
  | nil => rfl
  | cons k t ih =>
    simp only [List.map_cons, remC, remF]
    have hz : szk k = k / 2 + 1 := rfl
    by_cases h : szk k = n
    · rw [if_pos h, if_pos (show (k + 2) / 2 = n by omega), List.map_map, List.map_map]
      congr 1
      funext c
      simp only [Function.comp]
      omega
    · rw [if_neg h, if_neg (show ¬ (k + 2) / 2 = n by omega), List.map_cons, ih]
      congr 1
      omega
theorem z_heapAt {S : hm_S} {T : hm_T} (ht : tabM S T) {r p k : Nat} (hr : r < 1215) (hp : p < 2) (hk : k < len (xpv r)) {Q : Int32 → hm_S → hm_T → Prop} : wp_11_heapAt (nI (2 * r + p)) (nI k) S T Q ↔ Q (nI ((mrow r).getD k 0)) S T := by
  have hk10 : k < 10 := Nat.lt_of_lt_of_le hk (tq_len (tq_pi hr).2.2.1)
  unfold wp_11_heapAt
  rw [q_2, n_div2 (by omega), show (2 * r + p) / 2 = r by omega, q_10, pk_mul, nI_add, nI_clamp (by omega), ht.2.1 r k hr hk]
  exact ⟨fun h => h.2, fun h => ⟨vp_in_nI (by omega) (by omega), h⟩⟩
theorem tabM.mw {S S' : hm_S} {T : hm_T} (h : tabM S T) (hw : mw S S') : tabM S' T := by
  unfold tabM
  rw [hw.1 1 (by decide) (by decide), hw.1 2 (by decide) (by decide)]
  exact h
/-- the position that a move leads to, in the reference's numbers -/
def pM (q : Nat) : Nat := 2 * xpi (q / 2) + q % 2
theorem mrow_pi {l : Nat} (h : l < 1215) : mrow (xpi l) = (lay l).map (· + 2) := by unfold mrow; rw [(tq_pi h).2.1]
theorem even_sorted : ∀ {a : List Nat}, srtL a = true → srtL (a.map (fun c => c / 2 * 2)) = true := by
  intro a
  induction a with
  | nil => intro _; rfl
  | cons y t ih =>
    intro hs
    cases t with
    | nil => rfl
    | cons z t =>
      simp only [srtL, Bool.and_eq_true, decide_eq_true_eq] at hs
      have := ih hs.2
      simp only [List.map_cons, srtL, Bool.and_eq_true, decide_eq_true_eq] at this ⊢
      exact ⟨by omega, this⟩
