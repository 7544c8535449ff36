/-! ===== the class finds the Grundy values ===== -/
def GR (n : Nat) (l : List Nat) (S : hm_S) : Prop := ∀ v, v < 512 → (v ∈ l → S 63 v = nI n) ∧ (v ∉ l → ∃ m, m < n ∧ S 63 v = nI m)
theorem GR.app {n v : Nat} {l : List Nat} {S : hm_S} (h : GR n l S) : GR n (l ++ [v]) (hm_up S 63 v (nI n)) := by
  intro u hu
  by_cases e : u = v
  · refine ⟨fun _ => ?_, fun q => absurd (by simp [e]) q⟩
    rw [e, hm_up_same]
  · rw [hm_up_col _ _ e]
    refine ⟨fun q => (h u hu).1 ?_, fun q => (h u hu).2 (fun w => q (List.mem_append_left _ w))⟩
    rcases List.mem_append.mp q with w | w
    · exact w
    · exact absurd (by simpa using w) e
section XGV
variable {T : hm_T}
theorem x_allows2 {ρ : Ru} {S : hm_S} (hr : rok ρ) (hu : ruX ρ S) {k n sm : Nat} (hk : 1 ≤ k) (hk2 : k ≤ 10) (hn : n ≤ 100) (hs : sm ≤ 100) {Q : Int32 → hm_S → hm_T → Prop} : wp_6_allows (nI k) (nI n) (nI sm) S T Q ↔ (if alw ρ k n sm then Q 1 S T else Q 0 S T) := by
  unfold wp_6_allows
  rw [e_get (by omega) (by omega), show S (2 + 1) k = nI (ρ.1 k) from hu.1 k hk hk2]
  obtain ⟨d1, d2, d4⟩ := dig_and (hr.1 k)
  unfold alw
  by_cases h0 : 0 < sm
  · rw [if_neg (show ¬ nI sm ≤ 0 by rw [q_0]; exact nI_ge h0 (by omega)), if_pos h0]
    by_cases hb : ρ.1 k / 4 % 2 = 1
    · rw [if_neg (fun q => d4.mp q hb), if_pos (by simpa using hb)]
    · rw [if_pos (d4.mpr hb), if_neg (by simpa using hb)]
  · rw [if_pos (show nI sm ≤ 0 by rw [q_0]; exact nI_le (by omega) (by omega)), if_neg h0]
    by_cases he : k = n
    · rw [if_pos (by rw [he]), if_pos he]
      by_cases hb : ρ.1 k % 2 = 1
      · rw [if_neg (fun q => d1.mp q hb), if_pos (by simpa using hb)]
      · rw [if_pos (d1.mpr hb), if_neg (by simpa using hb)]
    · rw [if_neg (by rw [nI_eq (by omega) (by omega)]; exact he), if_neg he]
      by_cases hb : ρ.1 k / 2 % 2 = 1
      · rw [if_neg (fun q => d2.mp q hb), if_pos (by simpa using hb)]
      · rw [if_pos (d2.mpr hb), if_neg (by simpa using hb)]
theorem x_grS {ρ : Ru} (hr : rok ρ) {n k : Nat} (hk : 1 ≤ k) (hk2 : k ≤ 10) (hkn : k ≤ n) (hn : n ≤ 60) {S0 : hm_S} (hu : ruX ρ S0) (hv : ∀ i, i < n → S0 61 i = nI (gv ρ i)) {F : List Nat} {Q : hm_S → hm_T → Prop} {K2 : Int32 → Int32 → hm_S → hm_T → Prop} (h : ∀ S, fr [63] S0 S → GR n F S → K2 (nI n) (nI (k + 1)) S T) : ∀ c sm l S, sm + c = (n - k) / 2 + 1 → l ++ grS ρ (gv ρ) n k c sm = F → fr [63] S0 S → GR n l S → wl_0_reachAllFrom_20 Q K2 (c + 1) (nI n) (nI k) (nI (n - k)) (nI sm) S T := by
  intro c
  induction c with
  | zero =>
    intro sm l S hs hF hf hG
    show wb_0_reachAllFrom_20 Q K2 _ _ _ _ _ S T
    unfold wb_0_reachAllFrom_20 wb_0_reachAllFrom_77
    rw [q_2, n_div2 (by omega), if_pos (nI_lt (by omega) (by omega)), nI_1]
    simp only [grS, List.append_nil] at hF
    exact h S hf (by rw [← hF]; exact hG)
  | succ c ih =>
    intro sm l S hs hF hf hG
    show wb_0_reachAllFrom_20 Q K2 _ _ _ _ _ S T
    unfold wb_0_reachAllFrom_20 wb_0_reachAllFrom_71
    rw [q_2, n_div2 (by omega), if_neg (nI_nlt (by omega) (by omega)), x_allows2 hr (hu.fr hf (by decide)) hk hk2 (by omega) (by omega)]
    by_cases ha : alw ρ k n sm = true
    · have e1 : S 61 sm = nI (gv ρ sm) := by rw [hf 61 (by decide)]; exact hv sm (by omega)
      have e2 : S 61 (n - k - sm) = nI (gv ρ (n - k - sm)) := by rw [hf 61 (by decide)]; exact hv _ (by omega)
      have x1 := g_xle _ (gv ρ sm) (gv ρ (n - k - sm)) (Nat.le_refl _)
      have x2 := gv_le' ρ sm
      have x3 := gv_le' ρ (n - k - sm)
      rw [if_pos ha, if_neg (by decide), e_get (by omega) (by omega), pk_sub (by omega), e_get (by omega) (by omega)]
      simp only [Nat.reduceAdd]
      rw [e1, e2, g_xor, e_set (by omega) (by omega), nI_1]
      simp only [Nat.reduceAdd]
      refine ih (sm + 1) (l ++ [gv ρ sm ^^^ gv ρ (n - k - sm)]) _ (by omega) ?_ (hf.tr (fr.up _ _ _ (by decide))) hG.app
      rw [← hF]
      simp only [grS, if_pos ha]
      rw [List.append_assoc]
    · rw [if_neg ha, if_pos rfl, nI_1]
      refine ih (sm + 1) l S (by omega) ?_ hf hG
      rw [← hF]
      simp only [grS, if_neg ha, List.nil_append]
theorem x_grK {ρ : Ru} (hr : rok ρ) {n : Nat} (hn : n ≤ 60) {S0 : hm_S} (hu : ruX ρ S0) (hv : ∀ i, i < n → S0 61 i = nI (gv ρ i)) {F : List Nat} {Q : hm_S → hm_T → Prop} (h : ∀ S, fr [63] S0 S → GR n F S → Q S T) : ∀ c k l S, k + c = min 10 n + 1 → 1 ≤ k → l ++ grK ρ (gv ρ) n c k = F → fr [63] S0 S → GR n l S → wl_0_reachAllFrom_2 Q (c + 1) (nI n) (nI k) S T := by
  intro c
  induction c with
  | zero =>
    intro k l S hk h1 hF hf hG
    show wb_0_reachAllFrom_2 Q _ _ _ S T
    unfold wb_0_reachAllFrom_2
    simp only [grK, List.append_nil] at hF
    have hq : Q S T := h S hf (by rw [← hF]; exact hG)
    by_cases h10 : 10 < k
    · rw [q_10, if_pos (nI_lt h10 (by omega))]; exact hq
    · rw [q_10, if_neg (nI_nlt (by omega) (by omega)), if_pos (nI_lt (by omega) (by omega))]; exact hq
  | succ c ih =>
    intro k l S hk h1 hF hf hG
    show wb_0_reachAllFrom_2 Q _ _ _ S T
    unfold wb_0_reachAllFrom_2
    rw [q_10, if_neg (nI_nlt (by omega) (by omega)), if_neg (nI_nlt (by omega) (by omega)), pk_sub (by omega), q_0]
    refine ⟨_, x_grS hr h1 (by omega) (by omega) hn hu hv (F := l ++ grS ρ (gv ρ) n k ((n - k) / 2 + 1) 0) (fun S1 f1 g1 => ?_) ((n - k) / 2 + 1) 0 l S (by omega) rfl hf hG⟩
    refine ih (k + 1) _ S1 (by omega) (by omega) ?_ f1 g1
    rw [← hF]
    simp only [grK]
    rw [List.append_assoc]
theorem x_least {n : Nat} (hn : n ≤ 60) {l : List Nat} {S : hm_S} (hG : GR n l S) (hl : ∀ v ∈ l, v < n) {M : Nat} {Q : Int32 → hm_S → hm_T → Prop} (h : Q (nI M) S T) : ∀ c v, v + c = n → mxF l c v = M → wl_0_leastNotReachedFrom_2 Q (c + 1) (nI n) (nI v) S T := by
  intro c
  induction c with
  | zero =>
    intro v hv hM
    show wb_0_leastNotReachedFrom_2 Q _ _ _ S T
    unfold wb_0_leastNotReachedFrom_2
    have e : v = M := hM
    obtain ⟨m, h1, h2⟩ := (hG v (by omega)).2 (fun q => by have := hl v q; omega)
    rw [q_512, if_neg (nI_ge (by omega) (by omega)), e_get (by omega) (by omega)]
    simp only [Nat.reduceAdd]
    rw [h2, if_neg (by rw [nI_eq (by omega) (by omega)]; omega), e]
    exact h
  | succ c ih =>
    intro v hv hM
    show wb_0_leastNotReachedFrom_2 Q _ _ _ S T
    unfold wb_0_leastNotReachedFrom_2
    rw [q_512, if_neg (nI_ge (by omega) (by omega)), e_get (by omega) (by omega)]
    simp only [Nat.reduceAdd]
    by_cases q : v ∈ l
    · rw [(hG v (by omega)).1 q, if_pos rfl, nI_1]
      exact ih (v + 1) (by omega) (by rw [← hM]; simp [mxF, q])
    · obtain ⟨m, h1, h2⟩ := (hG v (by omega)).2 q
      have e : v = M := by rw [← hM]; simp [mxF, q]
      rw [h2, if_neg (by rw [nI_eq (by omega) (by omega)]; omega), e]
      exact h
theorem x_start {g : Nat → Nat} {S : hm_S} (hv : ∀ i, i ≤ 60 → S 61 i = nI (g i)) (hg : ∀ i, i ≤ 60 → g i ≤ 60) {p : Nat} (hp : 1 ≤ p) (hp2 : p ≤ 20) {Q : Int32 → hm_S → hm_T → Prop} (h : Q (nI (stp g p)) S T) : wp_0_startOfPeriod (nI p) S T Q := by
  have key : ∀ s, s ≤ 61 - p → stF g p s = stp g p → wl_0_startOfPeriod_7 Q (s + 1) (nI p) (nI s) S T := by
    intro s
    induction s with
    | zero =>
      intro _ he
      show wb_0_startOfPeriod_7 Q _ _ _ S T
      unfold wb_0_startOfPeriod_7
      rw [if_pos (show nI 0 ≤ 0 by decide), show (0 : Nat) = stp g p from he]
      exact h
    | succ s ih =>
      intro hs he
      show wb_0_startOfPeriod_7 Q _ _ _ S T
      unfold wb_0_startOfPeriod_7
      rw [if_neg (nI_nle (by omega) (by omega)), nI_pred, nI_add, e_get (by omega) (by omega), e_get (by omega) (by omega), pk_m1]
      simp only [Nat.reduceAdd]
      rw [hv s (by omega), hv (s + p) (by omega)]
      have g1 := hg s (by omega)
      have g2 := hg (s + p) (by omega)
      simp only [stF] at he
      by_cases q : g s = g (s + p)
      · rw [if_pos q] at he
        rw [if_pos (by rw [q])]
        exact ih (by omega) he
      · rw [if_neg q] at he
        rw [if_neg (by rw [nI_eq (by omega) (by omega)]; exact q), he]
        exact h
  unfold wp_0_startOfPeriod
  rw [q_60, pk_sub (by omega), nI_1, show 60 - p + 1 = 61 - p by omega]
  exact ⟨_, key (61 - p) (Nat.le_refl _) rfl⟩
theorem x_findPeriod {g : Nat → Nat} {S : hm_S} (hv : ∀ i, i ≤ 60 → S 61 i = nI (g i)) (hg : ∀ i, i ≤ 60 → g i ≤ 60) {Q : hm_S → hm_T → Prop} (h : ∀ S', fr [59] S S' → (∀ k, k ≠ 4 → k ≠ 5 → S' 59 k = S 59 k) → S' 59 4 = (perF g 20 1).1 → S' 59 5 = (perF g 20 1).2 → Q S' T) : wp_0_findPeriod S T Q := by
  have f1 : fr [59] S (hm_up (hm_up S 59 4 (-1)) 59 5 (-1)) := (fr.up _ _ _ (by decide)).tr (fr.up _ _ _ (by decide))
  have hv1 : ∀ i, i ≤ 60 → hm_up (hm_up S 59 4 (-1)) 59 5 (-1) 61 i = nI (g i) := by rw [f1 61 (by decide)]; exact hv
  have a4 : hm_up (hm_up S 59 4 (-1)) 59 5 (-1) 59 4 = -1 := by rw [hm_up_col _ _ (by decide), hm_up_same]
  have a5 : hm_up (hm_up S 59 4 (-1)) 59 5 (-1) 59 5 = -1 := hm_up_same _ _ _ _
  have ak : ∀ k, k ≠ 4 → k ≠ 5 → hm_up (hm_up S 59 4 (-1)) 59 5 (-1) 59 k = S 59 k := fun k h4 h5 => by rw [hm_up_col _ _ h5, hm_up_col _ _ h4]
  have key : ∀ c p, p + c = 21 → 1 ≤ p → perF g c p = perF g 20 1 → wl_0_findPeriod_12 Q (c + 1) (nI p) (hm_up (hm_up S 59 4 (-1)) 59 5 (-1)) T := by
    generalize hm_up (hm_up S 59 4 (-1)) 59 5 (-1) = S1 at f1 hv1 a4 a5 ak ⊢
    intro c
    induction c with
    | zero =>
      intro p hp h1 he
      show wb_0_findPeriod_12 Q _ _ S1 T
      unfold wb_0_findPeriod_12
      rw [q_20, if_pos (nI_lt (by omega) (by omega))]
      exact h S1 f1 ak (by rw [a4, ← he]; rfl) (by rw [a5, ← he]; rfl)
    | succ c ih =>
      intro p hp h1 he
      show wb_0_findPeriod_12 Q _ _ S1 T
      unfold wb_0_findPeriod_12 wb_0_findPeriod_30
      rw [q_20, if_neg (nI_nlt (by omega) (by omega))]
      refine x_start hv1 hg h1 (by omega) ?_
      have hsl : stp g p ≤ 61 - p := stF_le g p _
      rw [perF_s g c p] at he
      by_cases q : stp g p ≤ 20
      · rw [if_pos q] at he
        rw [if_neg (nI_nlt q (by omega))]
        refine h _ (f1.tr ((fr.up _ _ _ (by decide)).tr (fr.up _ _ _ (by decide)))) (fun k h4 h5 => ?_) ?_ ?_
        · rw [hm_up_col _ _ h5, hm_up_col _ _ h4]; exact ak k h4 h5
        · rw [hm_up_col _ _ (by decide), hm_up_same, ← he]
        · rw [hm_up_same, ← he]
      · rw [if_neg q] at he
        rw [if_pos (nI_lt (by omega) (by omega)), nI_1]
        exact ih (p + 1) (by omega) (by omega) he
  unfold wp_0_findPeriod
  rw [q_1]
  exact ⟨_, key 20 1 (by omega) (by omega) rfl⟩
end XGV
