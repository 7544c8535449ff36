/-! ===== the reference's Grundy values ===== -/
theorem ruM.fr {c : List Nat} {ρ : Ru} {S S' : hm_S} (h : ruM ρ S) (hf : fr c S S') (hc : ∀ a ∈ [0, 4], a ∉ c) : ruM ρ S' := by
  unfold ruM
  rw [hf 0 (hc 0 (by decide)), hf 4 (hc 4 (by decide))]
  exact h
theorem tabM.fr {c : List Nat} {S S' : hm_S} {T : hm_T} (h : tabM S T) (hf : fr c S S') (hc : ∀ a ∈ [1, 2], a ∉ c) : tabM S' T := by
  unfold tabM
  rw [hf 1 (hc 1 (by decide)), hf 2 (hc 2 (by decide))]
  exact h
def GS (l : List Nat) (S : hm_S) : Prop := ∀ v, v < 128 → S 20 v = if v ∈ l then 1 else 0
theorem GS.app {v : Nat} {l : List Nat} {S : hm_S} (h : GS l S) : GS (l ++ [v]) (hm_up S 20 v 1) := by
  intro u hu
  by_cases e : u = v
  · rw [e, hm_up_same, if_pos (by simp)]
  · rw [hm_up_col _ _ e, h u hu]
    by_cases q : u ∈ l
    · rw [if_pos q, if_pos (List.mem_append_left _ q)]
    · rw [if_neg q, if_neg (fun w => by
        rcases List.mem_append.mp w with x | x
        · exact q x
        · exact e (by simpa using x))]
theorem dig_eq {n : Nat} (h : n < 8) : (nI n &&& 1 = 1 ↔ n % 2 = 1) ∧ (nI n &&& 2 = 2 ↔ n / 2 % 2 = 1) ∧ (nI n &&& 4 = 4 ↔ n / 4 % 2 = 1) := by
  have : ∀ n, n < 8 → ((nI n &&& 1 = 1 ↔ n % 2 = 1) ∧ (nI n &&& 2 = 2 ↔ n / 2 % 2 = 1) ∧ (nI n &&& 4 = 4 ↔ n / 4 % 2 = 1)) := by decide
  exact this n h
theorem grS_none {ρ : Ru} {g : Nat → Nat} {n k : Nat} (h : ¬ ρ.1 k / 4 % 2 = 1) : ∀ c sm, 0 < sm → grS ρ g n k c sm = [] := by
  intro c
  induction c with
  | zero => intro sm _; rfl
  | succ c ih =>
    intro sm hs
    simp only [grS]
    rw [ih (sm + 1) (by omega), if_neg (by unfold alw; rw [if_pos hs]; simpa using h)]
    rfl
section MGV
variable {T : hm_T}
theorem z_grS {ρ : Ru} (hr : rok ρ) {n k : Nat} (hk : 1 ≤ k) (hk2 : k ≤ 10) (hkn : k ≤ n) (hn : n ≤ 60) {S0 : hm_S} (hu : ruM ρ S0) (hv : ∀ i, i < n → S0 19 i = nI (gv ρ i)) {F : List Nat} {Q : hm_S → hm_T → Prop} {K2 : Int32 → Int32 → hm_S → hm_T → Prop} (h : ∀ S, fr [20] S0 S → GS F S → K2 (nI n) (nI (k + 1)) S T) : ∀ c a l S, a + c = (n - k) / 2 + 1 → 1 ≤ a → l ++ grS ρ (gv ρ) n k c a = F → fr [20] S0 S → GS l S → wl_11_marks_70 Q K2 (c + 1) (nI n) (nI k) (nI a) S T := by
  intro c
  induction c with
  | zero =>
    intro a l S hs h1 hF hf hG
    show wb_11_marks_70 Q K2 _ _ _ _ S T
    unfold wb_11_marks_70 wb_11_marks_120
    rw [q_2, pk_mul, pk_sub (by omega), if_pos (nI_lt (by omega) (by omega)), nI_1]
    simp only [grS, List.append_nil] at hF
    exact h S hf (by rw [← hF]; exact hG)
  | succ c ih =>
    intro a l S hs h1 hF hf hG
    show wb_11_marks_70 Q K2 _ _ _ _ S T
    unfold wb_11_marks_70 wb_11_marks_120
    have e4 : S 4 k = nI (ρ.1 k) := by rw [hf 4 (by decide)]; exact hu.1 k hk hk2
    rw [q_2, pk_mul, pk_sub (show k ≤ n by omega), if_neg (nI_nlt (by omega) (by omega)), nI_clamp (show k < 2 ^ 31 by omega), e4]
    refine ⟨vp_in_nI (by omega) (by omega), ?_⟩
    by_cases hd : ρ.1 k / 4 % 2 = 1
    · have ha : alw ρ k n a = true := by unfold alw; rw [if_pos (show 0 < a from h1)]; simpa using hd
      have e1 : S 19 a = nI (gv ρ a) := by rw [hf 19 (by decide)]; exact hv a (by omega)
      have e2 : S 19 (n - k - a) = nI (gv ρ (n - k - a)) := by rw [hf 19 (by decide)]; exact hv _ (by omega)
      have x1 := g_xle _ (gv ρ a) (gv ρ (n - k - a)) (Nat.le_refl _)
      have x2 := gv_le' ρ a
      have x3 := gv_le' ρ (n - k - a)
      rw [if_pos ((dig_eq (hr.1 k)).2.2.mpr hd), pk_sub (show a ≤ n - k by omega), nI_clamp (show a < 2 ^ 31 by omega), nI_clamp (show n - k - a < 2 ^ 31 by omega), e1, e2, g_xor, nI_clamp (by omega), nI_1]
      refine ⟨vp_in_nI (by omega) (by omega), vp_in_nI (by omega) (by omega), vp_in_nI (by omega) (by omega), ?_⟩
      refine ih (a + 1) (l ++ [gv ρ a ^^^ gv ρ (n - k - a)]) _ (by omega) (by omega) ?_ (hf.tr (fr.up _ _ _ (by decide))) hG.app
      rw [← hF]
      simp only [grS, if_pos ha]
      rw [List.append_assoc]
    · rw [if_neg (fun q => hd ((dig_eq (hr.1 k)).2.2.mp q)), nI_1]
      rw [grS_none hd _ _ h1, List.append_nil] at hF
      exact h S hf (by rw [← hF]; exact hG)
theorem z_grK {ρ : Ru} (hr : rok ρ) {n : Nat} (hn : n ≤ 60) (hn1 : 1 ≤ n) {S0 : hm_S} (hu : ruM ρ S0) (hv : ∀ i, i < n → S0 19 i = nI (gv ρ i)) {F : List Nat} {Q : hm_S → hm_T → Prop} (h : ∀ S, fr [20] S0 S → GS F S → Q S T) : ∀ c k l S, k + c = min 10 n + 1 → 1 ≤ k → l ++ grK ρ (gv ρ) n c k = F → fr [20] S0 S → GS l S → wl_11_marks_2 Q (c + 1) (nI n) (nI k) S T := by
  intro c
  induction c with
  | zero =>
    intro k l S hk h1 hF hf hG
    show wb_11_marks_2 Q _ _ _ S T
    unfold wb_11_marks_2
    simp only [grK, List.append_nil] at hF
    have hq : Q S T := h S hf (by rw [← hF]; exact hG)
    by_cases h10 : 10 < k
    · rw [q_10, if_pos (nI_lt h10 (by omega))]; exact hq
    · rw [q_10, if_neg (nI_nlt (by omega) (by omega)), if_pos (nI_lt (by omega) (by omega))]; exact hq
  | succ c ih =>
    intro k l S hk h1 hF hf hG
    show wb_11_marks_2 Q _ _ _ S T
    have e4 : ∀ S', fr [20] S0 S' → S' 4 k = nI (ρ.1 k) := fun S' f' => by rw [f' 4 (by decide)]; exact hu.1 k h1 (by omega)
    have t68 : ∀ l' S', fr [20] S0 S' → GS l' S' → l' = l ++ (if alw ρ k n 0 then [gv ρ 0 ^^^ gv ρ (n - k - 0)] else []) → wb_11_marks_68 Q (wl_11_marks_2 Q (c + 1)) (nI n) (nI k) S' T := by
      intro l' S' f' g' e'
      unfold wb_11_marks_68
      rw [q_1]
      refine ⟨_, z_grS hr h1 (by omega) (by omega) hn hu hv (F := l' ++ grS ρ (gv ρ) n k ((n - k) / 2) 1) (fun S1 f1 g1 => ?_) ((n - k) / 2) 1 l' S' (by omega) (by omega) rfl f' g'⟩
      refine ih (k + 1) _ S1 (by omega) (by omega) ?_ f1 g1
      rw [← hF, e']
      simp only [grK, grS, List.append_assoc]
    unfold wb_11_marks_2 wb_11_marks_37
    rw [q_10, if_neg (nI_nlt (by omega) (by omega)), if_neg (nI_nlt (by omega) (by omega)), nI_clamp (show k < 2 ^ 31 by omega)]
    have hvk : vp_in (nI k) 11 := vp_in_nI (by omega) (by omega)
    by_cases he : n = k
    · have ea : alw ρ k n 0 = (ρ.1 k % 2 == 1) := by unfold alw; rw [if_neg (by omega), if_pos he.symm]
      rw [if_pos (by rw [he]), e4 S hf, if_pos (nI_le (by omega) (by omega)), if_pos (nI_le (by omega) (by omega))]
      refine ⟨hvk, ?_⟩
      by_cases hd : ρ.1 k % 2 = 1
      · rw [if_pos ((dig_eq (hr.1 k)).1.mpr hd)]
        refine ⟨vp_in_nI (n := 0) (by omega) (by omega), ?_⟩
        refine t68 (l ++ [0]) _ (hf.tr (fr.up _ _ _ (by decide))) hG.app ?_
        rw [ea, if_pos (by simpa using hd), show n - k - 0 = 0 by omega, gv_0]
        rfl
      · rw [if_neg (fun q => hd ((dig_eq (hr.1 k)).1.mp q))]
        refine t68 l S hf hG ?_
        rw [ea, if_neg (by simpa using hd), List.append_nil]
    · have ea : alw ρ k n 0 = (ρ.1 k / 2 % 2 == 1) := by unfold alw; rw [if_neg (by omega), if_neg (fun q => he q.symm)]
      rw [if_neg (by rw [nI_eq (by omega) (by omega)]; exact he), if_neg (nI_ge (by omega) (by omega)), e4 S hf, pk_sub (show k ≤ n by omega), nI_clamp (show n - k < 2 ^ 31 by omega)]
      refine ⟨hvk, ?_⟩
      by_cases hd : ρ.1 k / 2 % 2 = 1
      · have e2 : S 19 (n - k) = nI (gv ρ (n - k)) := by rw [hf 19 (by decide)]; exact hv _ (by omega)
        have x3 := gv_le' ρ (n - k)
        rw [if_pos ((dig_eq (hr.1 k)).2.1.mpr hd), e2, nI_clamp (by omega)]
        refine ⟨vp_in_nI (by omega) (by omega), vp_in_nI (by omega) (by omega), ?_⟩
        refine t68 (l ++ [gv ρ (n - k)]) _ (hf.tr (fr.up _ _ _ (by decide))) hG.app ?_
        rw [ea, if_pos (by simpa using hd), gv_0, Nat.zero_xor, Nat.sub_zero]
      · rw [if_neg (fun q => hd ((dig_eq (hr.1 k)).2.1.mp q))]
        refine t68 l S hf hG ?_
        rw [ea, if_neg (by simpa using hd), List.append_nil]
theorem z_clr {n : Nat} {S0 : hm_S} {Q : hm_S → hm_T → Prop} {K9 : Int32 → hm_S → hm_T → Prop} (h : ∀ S, fr [20] S0 S → GS [] S → wb_11_values_37 Q K9 (nI n) S T) : ∀ c v S, v + c = 128 → fr [20] S0 S → (∀ u, u < v → S 20 u = 0) → wl_11_values_17 Q K9 (c + 1) (nI n) (nI v) S T := by
  intro c
  induction c with
  | zero =>
    intro v S hv hf hz
    show wb_11_values_17 Q K9 _ _ _ S T
    unfold wb_11_values_17
    rw [q_128, if_pos (nI_le (by omega) (by omega))]
    exact h S hf (fun u hu => by rw [hz u (by omega), if_neg (by simp)])
  | succ c ih =>
    intro v S hv hf hz
    show wb_11_values_17 Q K9 _ _ _ S T
    unfold wb_11_values_17
    rw [q_128, if_neg (nI_ge (by omega) (by omega)), nI_clamp (show v < 2 ^ 31 by omega), nI_1]
    refine ⟨vp_in_nI (by omega) (by omega), ih (v + 1) _ (by omega) (hf.tr (fr.up _ _ _ (by decide))) (fun u hu => ?_)⟩
    by_cases e : u = v
    · rw [e, hm_up_same]
    · rw [hm_up_col _ _ e]; exact hz u (by omega)
theorem z_lst {n : Nat} (hn : n ≤ 60) {l : List Nat} {S : hm_S} (hG : GS l S) (hl : ∀ v ∈ l, v < n) {M : Nat} {Q : hm_S → hm_T → Prop} {K9 : Int32 → hm_S → hm_T → Prop} (h : wb_11_values_59 Q K9 (nI n) (nI M) S T) : ∀ c v, v + c = n → mxF l c v = M → wl_11_values_44 Q K9 (c + 1) (nI n) (nI v) S T := by
  intro c
  induction c with
  | zero =>
    intro v hv hM
    show wb_11_values_44 Q K9 _ _ _ S T
    unfold wb_11_values_44
    have e : v = M := hM
    rw [nI_clamp (show v < 2 ^ 31 by omega), hG v (by omega), if_neg (show ¬ v ∈ l from fun q => by have := hl v q; omega), if_pos rfl]
    exact ⟨vp_in_nI (by omega) (by omega), by rw [e]; exact h⟩
  | succ c ih =>
    intro v hv hM
    show wb_11_values_44 Q K9 _ _ _ S T
    unfold wb_11_values_44
    rw [nI_clamp (show v < 2 ^ 31 by omega), hG v (by omega)]
    refine ⟨vp_in_nI (by omega) (by omega), ?_⟩
    by_cases q : v ∈ l
    · rw [if_pos q, if_neg (by decide), nI_1]
      exact ih (v + 1) (by omega) (by rw [← hM]; simp [mxF, q])
    · have e : v = M := by rw [← hM]; simp [mxF, q]
      rw [if_neg q, if_pos rfl, e]
      exact h
theorem z_valLoop {ρ : Ru} (hr : rok ρ) {S0 : hm_S} (hu : ruM ρ S0) {Q : hm_S → hm_T → Prop} (h : ∀ S, fr [19, 20] S0 S → (∀ i, i ≤ 60 → S 19 i = nI (gv ρ i)) → Q S T) : ∀ c n S, n + c = 61 → 1 ≤ n → fr [19, 20] S0 S → (∀ i, i < n → S 19 i = nI (gv ρ i)) → wl_11_values_9 Q (c + 1) (nI n) S T := by
  intro c
  induction c with
  | zero =>
    intro n S hn h1 hf hv
    show wb_11_values_9 Q _ _ S T
    unfold wb_11_values_9
    rw [q_61, if_pos (nI_le (by omega) (by omega))]
    exact h S hf (fun i hi => hv i (by omega))
  | succ c ih =>
    intro n S hn h1 hf hv
    show wb_11_values_9 Q _ _ S T
    unfold wb_11_values_9
    rw [q_61, if_neg (nI_ge (by omega) (by omega)), q_0]
    refine ⟨_, z_clr (S0 := S) (fun S1 f1 g1 => ?_) 128 0 S (by omega) (fr.rf _ S) (fun u hu => absurd hu (Nat.not_lt_zero u))⟩
    unfold wb_11_values_37 wp_11_marks
    have hl : ∀ v ∈ grL ρ (gv ρ) n, v < n := grL_lt (fun i _ => gv_le' ρ i)
    have hv1 : ∀ i, i < n → S1 19 i = nI (gv ρ i) := by rw [f1 19 (by decide)]; exact hv
    rw [q_1]
    refine ⟨_, z_grK hr (by omega) h1 ((hu.fr hf (by decide)).fr f1 (by decide)) hv1 (F := grL ρ (gv ρ) n) (fun S2 f2 g2 => ?_) (min 10 n) 1 [] S1 (by omega) (by omega) rfl (fr.rf _ S1) g1⟩
    rw [q_0]
    refine ⟨_, z_lst (by omega) g2 hl (M := gv ρ n) ?_ n 0 (by omega) (gv_s ρ h1).symm⟩
    unfold wb_11_values_59
    rw [nI_clamp (show n < 2 ^ 31 by omega), nI_1]
    refine ⟨vp_in_nI (by omega) (by omega), ih (n + 1) _ (by omega) (by omega) (((hf.tr (f1.mono (by decide))).tr (f2.mono (by decide))).tr (fr.up _ _ _ (by decide))) (fun i hi => ?_)⟩
    by_cases e : i = n
    · rw [e, hm_up_same]
    · rw [hm_up_col _ _ e, f2 19 (by decide)]; exact hv1 i (by omega)
theorem z_values {ρ : Ru} (hr : rok ρ) {S : hm_S} (hu : ruM ρ S) {Q : hm_S → hm_T → Prop} (h : ∀ S', fr [19, 20] S S' → (∀ i, i ≤ 60 → S' 19 i = nI (gv ρ i)) → Q S' T) : wp_11_values S T Q := by
  unfold wp_11_values
  have f1 : fr [19, 20] S (hm_up S 19 (Int32.toNatClampNeg 0) 0) := fr.up _ _ _ (by decide)
  refine ⟨vp_in_nI (n := 0) (by omega) (by omega), ?_⟩
  rw [q_1]
  refine ⟨_, z_valLoop hr (hu.fr f1 (by decide)) (fun S1 f2 v2 => h S1 (f1.tr f2) v2) 60 1 _ (by omega) (by omega) (fr.rf _ _) (fun i hi => ?_)⟩
  rw [show i = Int32.toNatClampNeg 0 by rw [show i = 0 by omega]; decide, hm_up_same]
  rw [show Int32.toNatClampNeg 0 = 0 by decide, gv_0]
  rfl
end MGV
