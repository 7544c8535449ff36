/-! ===== moves lead to positions ===== -/
theorem tkS_tgt {ρ : Ru} {n rest p k : Nat} (hrest : rest < 1215) (hc : cnt rest + n ≤ 10) (hp : p < 2) (hk : 1 ≤ k) (hkn : k ≤ n) : ∀ c sm, sm + c ≤ (n - k) / 2 + 1 → ∀ m ∈ tkS ρ n rest p k c sm, tgt m < 2430 := by
  intro c
  induction c with
  | zero => intro sm _ m hm; simp [tkS] at hm
  | succ c ih =>
    intro sm hs m hm
    simp only [tkS, List.mem_append] at hm
    rcases hm with h | h
    · by_cases ha : alw ρ k n sm = true
      · rw [if_pos ha] at h
        have e : m = tkM ρ n rest p k sm := by simpa using h
        rw [e]
        have := rwi_lt (l := rest) (sm := sm) (gr := n - k - sm) ⟨hrest, by omega⟩ (bitN_lt ρ.2.1 k)
        show 2 * rwi rest sm (n - k - sm) (bitN ρ.2.1 k) + p < 2430
        omega
      · rw [if_neg ha] at h
        simp at h
    · exact ih (sm + 1) (by omega) m h
theorem tkK_tgt {ρ : Ru} {n rest p : Nat} (hrest : rest < 1215) (hc : cnt rest + n ≤ 10) (hp : p < 2) : ∀ c k, k + c = n + 1 → 1 ≤ k → ∀ m ∈ tkK ρ n rest p c k, tgt m < 2430 := by
  intro c
  induction c with
  | zero => intro k _ _ m hm; simp [tkK] at hm
  | succ c ih =>
    intro k hk h1 m hm
    simp only [tkK, List.mem_append] at hm
    rcases hm with h | h
    · exact tkS_tgt hrest hc hp h1 (by omega) _ 0 (by omega) m h
    · exact ih (k + 1) (by omega) (by omega) m h
theorem tgt_lt {ρ : Ru} {q : Nat} (hq : q < 2430) : ∀ m ∈ mv ρ q, tgt m < 2430 := by
  have hl : q / 2 < 1215 := by omega
  have hp : q % 2 < 2 := by omega
  have hc := (tq_cnt hl).1
  have tO : ∀ os : List (Nat × Nat), (∀ x ∈ os, x ∈ opens (q / 2)) → ∀ m ∈ tkO ρ (q % 2) os, tgt m < 2430 := by
    intro os
    induction os with
    | nil => intro _ m hm; simp [tkO] at hm
    | cons x os ih =>
      intro ho m hm
      have hx := (tq_open hl).1 x (ho x List.mem_cons_self)
      simp only [tkO, List.mem_append] at hm
      rcases hm with h | h
      · exact tkK_tgt hx.2.2.1 (by omega) hp _ 1 (by omega) (by omega) m h
      · exact ih (fun y hy => ho y (List.mem_cons_of_mem _ hy)) m h
  have gO : cnt (q / 2) < 10 → ∀ os : List (Nat × Nat), (∀ x ∈ os, x ∈ opens (q / 2)) → ∀ m ∈ grO ρ (q % 2) os, tgt m < 2430 := by
    intro h10 os
    induction os with
    | nil => intro _ m hm; simp [grO] at hm
    | cons x os ih =>
      intro ho m hm
      have hx := (tq_open hl).1 x (ho x List.mem_cons_self)
      simp only [grO, List.mem_append] at hm
      rcases hm with h | h
      · by_cases hb : bitN ρ.2.2.1 x.1 = 1
        · rw [if_pos hb] at h
          have e : m = grM x.1 x.2 (q % 2) := by simpa using h
          rw [e]
          have := rwi_lt (l := x.2) (sm := 0) (gr := x.1 + 1) (b := 0) ⟨hx.2.2.1, by omega⟩ (by omega)
          show 2 * rwi x.2 0 (x.1 + 1) 0 + q % 2 < 2430
          omega
        · rw [if_neg hb] at h
          simp at h
      · exact ih (fun y hy => ho y (List.mem_cons_of_mem _ hy)) m h
  intro m hm
  unfold mv at hm
  simp only [List.mem_append] at hm
  rcases hm with (h | h) | h
  · exact tO _ (fun _ h => h) m h
  · by_cases h10 : cnt (q / 2) < 10
    · rw [if_pos h10] at h
      exact gO h10 _ (fun _ h => h) m h
    · rw [if_neg h10] at h
      simp at h
  · by_cases hpa : q % 2 = 1 ∧ bnd (q / 2) = 0 ∧ 0 < len (q / 2)
    · rw [if_pos hpa] at h
      have e : m = paM (q / 2) := by simpa using h
      rw [e]
      show 2 * (q / 2) < 2430
      omega
    · rw [if_neg hpa] at h
      simp at h
theorem mv_len {ρ : Ru} {q : Nat} : (mv ρ q).length ≤ mvB q := by
  unfold mv mvB
  rw [List.length_append, List.length_append]
  have h1 := tkO_len ρ (q % 2) (opens (q / 2))
  have h2 := grO_len ρ (q % 2) (opens (q / 2))
  by_cases a : cnt (q / 2) < 10 <;> by_cases b : q % 2 = 1 ∧ bnd (q / 2) = 0 ∧ 0 < len (q / 2)
  · simp only [if_pos a, if_pos b, List.length_singleton]; omega
  · simp only [if_pos a, if_neg b, List.length_nil]; omega
  · simp only [if_neg a, if_pos b, List.length_singleton, List.length_nil]; omega
  · simp only [if_neg a, if_neg b, List.length_nil]; omega
/-! ===== outcomes, level by level ===== -/
def suc (ρ : Ru) (q : Nat) : List Nat := (mv ρ q).map tgt
theorem suc_lt {ρ : Ru} {q t : Nat} (hq : q < 2430) (ht : t ∈ suc ρ q) : t < 2430 := by
  obtain ⟨m, hm, rfl⟩ := List.mem_map.mp ht
  exact tgt_lt hq m hm
def vO (ρ : Ru) : Nat → Nat → Nat
  | 0, q => if (mv ρ q).length = 0 then ρ.2.2.2 else 2
  | d + 1, q => if vO ρ d q < 2 then vO ρ d q else if (suc ρ q).any (fun t => vO ρ d t == 0) then 1 else if (suc ρ q).all (fun t => vO ρ d t == 1) then 0 else 2
theorem vO_s (ρ : Ru) (d q : Nat) : vO ρ (d + 1) q = if vO ρ d q < 2 then vO ρ d q else if (suc ρ q).any (fun t => vO ρ d t == 0) then 1 else if (suc ρ q).all (fun t => vO ρ d t == 1) then 0 else 2 := rfl
theorem vO_le {ρ : Ru} (hr : rok ρ) : ∀ d q, vO ρ d q ≤ 2 := by
  intro d
  cases d with
  | zero => intro q; simp only [vO]; have := hr.2.2.2; by_cases h : (mv ρ q).length = 0 <;> simp [h]; omega
  | succ d =>
    intro q
    rw [vO_s]
    by_cases h1 : vO ρ d q < 2
    · rw [if_pos h1]; omega
    · rw [if_neg h1]
      by_cases h2 : (suc ρ q).any (fun t => vO ρ d t == 0) = true
      · rw [if_pos h2]; omega
      · rw [if_neg h2]
        by_cases h3 : (suc ρ q).all (fun t => vO ρ d t == 1) = true
        · rw [if_pos h3]; omega
        · rw [if_neg h3]; exact Nat.le_refl _
theorem vO_keep {ρ : Ru} {d q : Nat} (h : vO ρ d q < 2) : ∀ e, vO ρ (d + e) q = vO ρ d q := by
  intro e
  induction e with
  | zero => rfl
  | succ e ih => rw [← Nat.add_assoc, vO_s, ih, if_pos h]
theorem vO_mono {ρ : Ru} {d e q : Nat} (h : vO ρ d q < 2) (he : d ≤ e) : vO ρ e q = vO ρ d q := by
  have := vO_keep h (e - d)
  rwa [show d + (e - d) = e by omega] at this
theorem vO_stable {ρ : Ru} {d : Nat} (h : ∀ q, q < 2430 → vO ρ (d + 1) q = vO ρ d q) : ∀ e q, q < 2430 → vO ρ (d + e) q = vO ρ d q := by
  intro e
  induction e with
  | zero => intro q _; rfl
  | succ e ih =>
    intro q hq
    have hany : (suc ρ q).any (fun t => vO ρ (d + e) t == 0) = (suc ρ q).any (fun t => vO ρ d t == 0) := by
      rw [Bool.eq_iff_iff, List.any_eq_true, List.any_eq_true]
      exact ⟨fun ⟨t, h1, h2⟩ => ⟨t, h1, by rw [← ih t (suc_lt hq h1)]; exact h2⟩, fun ⟨t, h1, h2⟩ => ⟨t, h1, by rw [ih t (suc_lt hq h1)]; exact h2⟩⟩
    have hall : (suc ρ q).all (fun t => vO ρ (d + e) t == 1) = (suc ρ q).all (fun t => vO ρ d t == 1) := by
      rw [Bool.eq_iff_iff, List.all_eq_true, List.all_eq_true]
      exact ⟨fun hh t h1 => by rw [← ih t (suc_lt hq h1)]; exact hh t h1, fun hh t h1 => by rw [ih t (suc_lt hq h1)]; exact hh t h1⟩
    rw [← Nat.add_assoc, vO_s, ih q hq, hany, hall, ← vO_s]
    exact h q hq
/-- the distance: the first level at which a position is decided -/
noncomputable def dF (ρ : Ru) (q : Nat) : Nat := Classical.epsilon (fun d => vO ρ d q < 2 ∧ ∀ e, e < d → ¬ vO ρ e q < 2)
theorem dF_spec {ρ : Ru} {q d : Nat} (h : vO ρ d q < 2) : vO ρ (dF ρ q) q < 2 ∧ (∀ e, e < dF ρ q → ¬ vO ρ e q < 2) ∧ dF ρ q ≤ d ∧ vO ρ (dF ρ q) q = vO ρ d q := by
  obtain ⟨k, hk, hl⟩ := pk_least (fun d => vO ρ d q < 2) ⟨d, h⟩
  have hs : vO ρ (dF ρ q) q < 2 ∧ ∀ e, e < dF ρ q → ¬ vO ρ e q < 2 := Classical.epsilon_spec (p := fun d => vO ρ d q < 2 ∧ ∀ e, e < d → ¬ vO ρ e q < 2) ⟨k, hk, hl⟩
  have hle : dF ρ q ≤ d := Classical.byContradiction fun q => hs.2 d (by omega) h
  exact ⟨hs.1, hs.2, hle, (vO_mono hs.1 hle).symm⟩
theorem dF_eq {ρ : Ru} {q d : Nat} (h : vO ρ d q < 2) (hl : ∀ e, e < d → ¬ vO ρ e q < 2) : dF ρ q = d := by
  obtain ⟨h1, h2, h3, -⟩ := dF_spec h
  rcases Nat.lt_or_ge (dF ρ q) d with q' | q'
  · exact absurd h1 (hl _ q')
  · omega
/-- the outcome, and the distance as the programs have it -/
noncomputable def oF (ρ : Ru) (q : Nat) : Nat := vO ρ (dF ρ q) q
noncomputable def dI (ρ : Ru) (q : Nat) : Int32 := if vO ρ (dF ρ q) q < 2 then nI (dF ρ q) else -1
theorem oF_dec {ρ : Ru} {q d : Nat} (h : vO ρ d q < 2) : oF ρ q = vO ρ d q ∧ dI ρ q = nI (dF ρ q) := by
  obtain ⟨h1, -, -, h4⟩ := dF_spec h
  exact ⟨h4, by unfold dI; rw [if_pos h1]⟩
theorem oF_und {ρ : Ru} (hr : rok ρ) {q : Nat} (h : ∀ d, ¬ vO ρ d q < 2) : oF ρ q = 2 ∧ dI ρ q = -1 := by
  refine ⟨?_, by unfold dI; rw [if_neg (h _)]⟩
  have := vO_le hr (dF ρ q) q
  have := h (dF ρ q)
  unfold oF
  omega
/-- how many positions are undecided -/
def uD (ρ : Ru) (d : Nat) : Nat := sumB (fun q => if vO ρ d q < 2 then 0 else 1) 2430
theorem sumB_le {g h : Nat → Nat} : ∀ n, (∀ i, i < n → g i ≤ h i) → sumB g n ≤ sumB h n := by
  intro n
  induction n with
  | zero => intro _; exact Nat.le_refl _
  | succ n ih => intro hh; simp only [sumB]; have := ih (fun i hi => hh i (by omega)); have := hh n (by omega); omega
theorem sumB_lt {g h : Nat → Nat} : ∀ n, (∀ i, i < n → g i ≤ h i) → (∃ i, i < n ∧ g i < h i) → sumB g n < sumB h n := by
  intro n
  induction n with
  | zero => intro _ ⟨i, hi, _⟩; exact absurd hi (Nat.not_lt_zero i)
  | succ n ih =>
    intro hh ⟨i, hi, hlt⟩
    simp only [sumB]
    have h1 := hh n (by omega)
    rcases Nat.lt_or_ge i n with q | q
    · have := ih (fun j hj => hh j (by omega)) ⟨i, q, hlt⟩
      omega
    · have e : i = n := by omega
      rw [e] at hlt
      have := sumB_le n (fun j hj => hh j (by omega))
      omega
theorem sumB_const (c : Nat) : ∀ n, sumB (fun _ => c) n = n * c := by
  intro n
  induction n with
  | zero => simp [sumB]
  | succ n ih => simp only [sumB, ih]; rw [Nat.succ_mul]
theorem uD_le (ρ : Ru) (d : Nat) : uD ρ d ≤ 2430 := by
  have h := sumB_le (g := fun q => if vO ρ d q < 2 then 0 else 1) (h := fun _ => 1) 2430 (fun i _ => by by_cases q : vO ρ d i < 2 <;> simp [q])
  rw [sumB_const] at h
  exact h
theorem uD_s {ρ : Ru} {d : Nat} (h : ∃ q, q < 2430 ∧ ¬ vO ρ d q < 2 ∧ vO ρ (d + 1) q < 2) : uD ρ (d + 1) < uD ρ d := by
  obtain ⟨q, hq, h1, h2⟩ := h
  refine sumB_lt 2430 (fun i _ => ?_) ⟨q, hq, by simp only [if_pos h2, if_neg h1]; decide⟩
  by_cases hi : vO ρ d i < 2
  · have := vO_keep hi 1
    rw [if_pos hi, if_pos (by omega)]
    exact Nat.le_refl _
  · rw [if_neg hi]
    by_cases q2 : vO ρ (d + 1) i < 2 <;> simp [q2]
