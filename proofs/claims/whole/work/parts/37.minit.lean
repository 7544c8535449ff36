/-- what stands while the rows are made: r rows, the heaps of the r-th, zeros else -/
def IM (r : Nat) (S : hm_S) (T : hm_T) : Prop := (∀ i, i < r → S 1 i = nI (len (xpv i))) ∧ (∀ i k, i < r → k < len (xpv i) → S 2 (10 * i + k) = nI ((mrow i).getD k 0)) ∧ (∀ i, i < r → T 3 i = lN (nmT i)) ∧ (∀ a, a ≠ 0 → a ≠ 1 → a ≠ 2 → a ≠ 6 → ∀ k, S a k = 0) ∧ (∀ k, k ≠ 11 → S 0 k = 0) ∧ ∀ a, a ≠ 3 → ∀ k, T a k = 0
theorem IM.mw {r : Nat} {S S' : hm_S} {T : hm_T} (h : IM r S T) (hw : mw S S') : IM r S' T := by
  obtain ⟨h1, h2, h3, h4, h5, h6⟩ := h
  refine ⟨fun i hi => ?_, fun i k hi hk => ?_, h3, fun a a0 a1 a2 a6 k => ?_, fun k hk => ?_, h6⟩
  · rw [hw.1 1 (by decide) (by decide)]; exact h1 i hi
  · rw [hw.1 2 (by decide) (by decide)]; exact h2 i k hi hk
  · rw [hw.1 a a0 a6]; exact h4 a a0 a1 a2 a6 k
  · rw [hw.2 k hk]; exact h5 k hk
theorem mrow_0 : mrow 0 = [] := by decide +kernel
theorem mrow_len10 {r : Nat} (h : r < 1215) : (mrow r).length ≤ 10 := by rw [mrow_len]; exact tq_len (tq_pi h).2.2.1
theorem mrow_ne {r : Nat} (h : r < 1215) (h0 : r ≠ 0) : mrow r ≠ [] := by
  intro e
  have h1 : nmT 0 < nmT r := nmT_mono (by omega) h
  unfold nmT at h1
  rw [e, mrow_0] at h1
  exact absurd h1 (Nat.lt_irrefl _)
theorem z_copy {r : Nat} (hr : r < 1215) {T : hm_T} {S0 : hm_S} {Q : hm_S → hm_T → Prop} {K9 : Int32 → Int32 → hm_S → hm_T → Prop} (h : ∀ S, (∀ a, a ≠ 2 → S a = S0 a) → (∀ k, k < (mrow r).length → S 2 (10 * r + k) = nI ((mrow r).getD k 0)) → (∀ x, x < 10 * r → S 2 x = S0 2 x) → wb_11_makesRows_56 Q K9 (nI r) S T) (hm : md S0 (mrow r)) : ∀ n i, i + n = (mrow r).length → ∀ S, (∀ a, a ≠ 2 → S a = S0 a) → (∀ k, k < i → S 2 (10 * r + k) = nI ((mrow r).getD k 0)) → (∀ x, x < 10 * r → S 2 x = S0 2 x) → ∃ f, wl_11_makesRows_25 Q K9 f (nI r) (nI i) S T := by
  have hl := mrow_len10 hr
  intro n
  induction n with
  | zero =>
    intro i hi S h1 h2 h3
    refine ⟨1, ?_⟩
    show wb_11_makesRows_25 Q K9 _ _ _ S T
    unfold wb_11_makesRows_25
    rw [show S 0 = S0 0 from h1 0 (by decide), hm.1, if_pos (nI_le (by omega) (by omega))]
    exact h S h1 (fun k hk => h2 k (by omega)) h3
  | succ n ih =>
    intro i hi S h1 h2 h3
    have hil : i < (mrow r).length := by omega
    obtain ⟨f, hf⟩ := ih (i + 1) (by omega) (hm_up S 2 (10 * r + i) (nI ((mrow r).getD i 0))) (fun a ha => by rw [hm_up_row S _ _ ha]; exact h1 a ha) (fun k hk => by
        by_cases hki : k = i
        · rw [hki, hm_up_same]
        · rw [hm_up_col S _ (by omega)]; exact h2 k (by omega)) (fun x hx => by rw [hm_up_col S _ (by omega)]; exact h3 x hx)
    refine ⟨f + 1, ?_⟩
    show wb_11_makesRows_25 Q K9 _ _ _ S T
    unfold wb_11_makesRows_25
    rw [show S 0 = S0 0 from h1 0 (by decide), hm.1, if_neg (nI_ge hil (by omega)), nI_clamp (by omega), show S 6 = S0 6 from h1 6 (by decide), hm.2 i hil, q_10, pk_mul, nI_add, nI_clamp (by omega), nI_1]
    exact ⟨vp_in_nI (by omega) (by omega), vp_in_nI (by omega) (by omega), hf⟩
theorem z_rows {Q : hm_S → hm_T → Prop} (h : ∀ S T, IM 1215 S T → Q S T) : ∀ n r, r + n = 1214 → ∀ S T, md S (mrow r) → IM r S T → wl_11_makesRows_9 Q (n + 2) (nI r) 1 S T := by
  intro n
  induction n with
  | zero =>
    intro r hr S T hm hI
    have hr1 : r < 1215 := by omega
    have hl := mrow_len10 hr1
    have hlen : (mrow r).length = len (xpv r) := mrow_len
    -- what comes behind the copying
    have hnext : ∀ (S1 : hm_S), (∀ a, a ≠ 2 → S1 a = hm_up S 1 r (nI (mrow r).length) a) → (∀ k, k < (mrow r).length → S1 2 (10 * r + k) = nI ((mrow r).getD k 0)) → (∀ x, x < 10 * r → S1 2 x = hm_up S 1 r (nI (mrow r).length) 2 x) → md S1 (mrow r) ∧ IM (r + 1) S1 (hm_up T 3 r (lN (nmT r))) := by
      intro S1 a1 a2 a3
      obtain ⟨b1, b2, b3, b4, b5, b6⟩ := hI
      refine ⟨⟨?_, fun i hi => ?_⟩, fun i hi => ?_, fun i k hi hk => ?_, fun i hi => ?_, fun a a0 a1' a2' a6 k => ?_, fun k hk => ?_, fun a ha k => ?_⟩
      · rw [a1 0 (by decide), hm_up_row S _ _ (by decide)]; exact hm.1
      · rw [a1 6 (by decide), hm_up_row S _ _ (by decide)]; exact hm.2 i hi
      · rw [a1 1 (by decide)]
        by_cases e : i = r
        · rw [e, hm_up_same, hlen]
        · rw [hm_up_col S _ e]; exact b1 i (by omega)
      · by_cases e : i = r
        · rw [e]; exact a2 k (by rw [e] at hk; omega)
        · have hk10 : k < 10 := Nat.lt_of_lt_of_le hk (tq_len (tq_pi (show i < 1215 by omega)).2.2.1)
          rw [a3 _ (by omega), hm_up_row S _ _ (by decide)]
          exact b2 i k (by omega) hk
      · by_cases e : i = r
        · rw [e, hm_up_same]
        · rw [hm_up_col T _ e]; exact b3 i (by omega)
      · rw [a1 a a2', hm_up_row S _ _ a1']; exact b4 a a0 a1' a2' a6 k
      · rw [a1 0 (by decide), hm_up_row S _ _ (by decide)]; exact b5 k hk
      · rw [hm_up_row T _ _ ha]; exact b6 a ha k
    show wb_11_makesRows_9 Q _ _ _ S T
    unfold wb_11_makesRows_9
    rw [if_neg (by decide), nI_clamp (by omega), hm.1]
    refine ⟨vp_in_nI (by omega) (by omega), ?_⟩
    refine z_copy hr1 (S0 := hm_up S 1 r (nI (mrow r).length)) (fun S1 a1 a2 a3 => ?_) ⟨by rw [hm_up_row S _ _ (by decide)]; exact hm.1, fun i hi => by rw [hm_up_row S _ _ (by decide)]; exact hm.2 i hi⟩ (mrow r).length 0 (by omega) _ (fun _ _ => rfl) (fun k hk => absurd hk (Nat.not_lt_zero k)) (fun _ _ => rfl)
    obtain ⟨m1, m2⟩ := hnext S1 a1 a2 a3
    unfold wb_11_makesRows_56
    refine z_nameOf m1 (by omega) (fun x hx => mrow_small hr1 hx) ?_
    rw [nI_clamp (by omega)]
    refine ⟨vp_in_nI (by omega) (by omega), z_goesOn m1 hl (fun x hx => mrow_small hr1 hx) (fun S2 hw hd => ?_)⟩
    have hlast : r = 1214 := by omega
    have hk := beq_iff_eq.mp (allB_spec k_next r hr1)
    rw [if_pos hlast] at hk
    rw [hk] at hd
    unfold wb_11_goesOn_92
    rw [if_pos (show S2 0 11 ≤ 0 by rw [hd.1]; decide)]
    show wb_11_makesRows_9 Q _ _ 0 S2 _
    unfold wb_11_makesRows_9
    rw [if_pos rfl]
    have := m2.mw hw
    rw [hlast] at this
    rw [hlast]
    exact h S2 _ this
  | succ n ih =>
    intro r hr S T hm hI
    have hr1 : r < 1215 := by omega
    have hl := mrow_len10 hr1
    have hlen : (mrow r).length = len (xpv r) := mrow_len
    -- what comes behind the copying
    have hnext : ∀ (S1 : hm_S), (∀ a, a ≠ 2 → S1 a = hm_up S 1 r (nI (mrow r).length) a) → (∀ k, k < (mrow r).length → S1 2 (10 * r + k) = nI ((mrow r).getD k 0)) → (∀ x, x < 10 * r → S1 2 x = hm_up S 1 r (nI (mrow r).length) 2 x) → md S1 (mrow r) ∧ IM (r + 1) S1 (hm_up T 3 r (lN (nmT r))) := by
      intro S1 a1 a2 a3
      obtain ⟨b1, b2, b3, b4, b5, b6⟩ := hI
      refine ⟨⟨?_, fun i hi => ?_⟩, fun i hi => ?_, fun i k hi hk => ?_, fun i hi => ?_, fun a a0 a1' a2' a6 k => ?_, fun k hk => ?_, fun a ha k => ?_⟩
      · rw [a1 0 (by decide), hm_up_row S _ _ (by decide)]; exact hm.1
      · rw [a1 6 (by decide), hm_up_row S _ _ (by decide)]; exact hm.2 i hi
      · rw [a1 1 (by decide)]
        by_cases e : i = r
        · rw [e, hm_up_same, hlen]
        · rw [hm_up_col S _ e]; exact b1 i (by omega)
      · by_cases e : i = r
        · rw [e]; exact a2 k (by rw [e] at hk; omega)
        · have hk10 : k < 10 := Nat.lt_of_lt_of_le hk (tq_len (tq_pi (show i < 1215 by omega)).2.2.1)
          rw [a3 _ (by omega), hm_up_row S _ _ (by decide)]
          exact b2 i k (by omega) hk
      · by_cases e : i = r
        · rw [e, hm_up_same]
        · rw [hm_up_col T _ e]; exact b3 i (by omega)
      · rw [a1 a a2', hm_up_row S _ _ a1']; exact b4 a a0 a1' a2' a6 k
      · rw [a1 0 (by decide), hm_up_row S _ _ (by decide)]; exact b5 k hk
      · rw [hm_up_row T _ _ ha]; exact b6 a ha k
    have hr2 : r + 1 < 1215 := by omega
    show wb_11_makesRows_9 Q _ _ _ S T
    unfold wb_11_makesRows_9
    rw [if_neg (by decide), nI_clamp (by omega), hm.1]
    refine ⟨vp_in_nI (by omega) (by omega), ?_⟩
    refine z_copy hr1 (S0 := hm_up S 1 r (nI (mrow r).length)) (fun S1 a1 a2 a3 => ?_) ⟨by rw [hm_up_row S _ _ (by decide)]; exact hm.1, fun i hi => by rw [hm_up_row S _ _ (by decide)]; exact hm.2 i hi⟩ (mrow r).length 0 (by omega) _ (fun _ _ => rfl) (fun k hk => absurd hk (Nat.not_lt_zero k)) (fun _ _ => rfl)
    obtain ⟨m1, m2⟩ := hnext S1 a1 a2 a3
    unfold wb_11_makesRows_56
    refine z_nameOf m1 (by omega) (fun x hx => mrow_small hr1 hx) ?_
    rw [nI_clamp (by omega)]
    refine ⟨vp_in_nI (by omega) (by omega), z_goesOn m1 hl (fun x hx => mrow_small hr1 hx) (fun S2 hw hd => ?_)⟩
    have hk := beq_iff_eq.mp (allB_spec k_next r hr1)
    rw [if_neg (by omega)] at hk
    rw [hk] at hd
    have hmd := hd.md
    rw [List.reverse_reverse] at hmd
    have hne := mrow_ne hr2 (by omega)
    have hpos : 0 < (mrow (r + 1)).length := List.length_pos_iff.mpr hne
    have hl2 := mrow_len10 hr2
    unfold wb_11_goesOn_92
    rw [if_neg (show ¬ S2 0 11 ≤ 0 by rw [hmd.1, q_0]; exact nI_ge hpos (by omega)), nI_1]
    exact ih (r + 1) (by omega) S2 _ hmd (m2.mw hw)
/-- a fresh reference -/
def MZ (S : hm_S) (T : hm_T) : Prop := tabM S T ∧ (∀ a, a ≠ 0 → a ≠ 1 → a ≠ 2 → a ≠ 6 → ∀ k, S a k = 0) ∧ ∀ k, k ≠ 11 → S 0 k = 0
theorem z_minit {Q : hm_S → hm_T → Prop} (h : ∀ S T, MZ S T → Q S T) : wp_11_init (fun _ _ => 0) (fun _ _ => 0) Q := by
  unfold wp_11_init
  simp only [implies_true, true_and]
  unfold wp_11_makesRows
  have e : hm_up (fun _ _ => (0 : Int32)) 0 11 0 = fun _ _ => 0 := by
    funext a k
    by_cases ha : a = 0 <;> simp [hm_up, ha]
  rw [e]
  refine ⟨1216, z_rows (fun S T hI => h S T ⟨⟨hI.1, hI.2.1, hI.2.2.1⟩, hI.2.2.2.1, hI.2.2.2.2.1⟩) 1214 0 (by omega) _ _ ⟨by rw [mrow_0]; rfl, fun i hi => ?_⟩ ⟨fun i hi => absurd hi (Nat.not_lt_zero i), fun i k hi => absurd hi (Nat.not_lt_zero i), fun i hi => absurd hi (Nat.not_lt_zero i), fun _ _ _ _ _ _ => rfl, fun _ _ => rfl, fun _ _ _ => rfl⟩⟩
  rw [mrow_0] at hi
  exact absurd hi (Nat.not_lt_zero i)
