/-! ===== Grundy values: what they are ===== -/
theorem g_xor (a b : Nat) : nI a ^^^ nI b = nI (a ^^^ b) := by
  apply Int32.toBitVec_inj.1
  show BitVec.ofNat 32 a ^^^ BitVec.ofNat 32 b = BitVec.ofNat 32 (a ^^^ b)
  apply BitVec.eq_of_getLsbD_eq
  intro i hi
  simp [hi]
theorem g_xle : ∀ (n a b : Nat), a ≤ n → a ^^^ b ≤ a + b := by
  intro n
  induction n with
  | zero => intro a b h; rw [show a = 0 by omega, Nat.zero_xor]; omega
  | succ n ih =>
    intro a b h
    by_cases h0 : a = 0
    · rw [h0, Nat.zero_xor]; omega
    · have i1 := ih (a / 2) (b / 2) (by omega)
      have e : (a ^^^ b) / 2 = a / 2 ^^^ b / 2 := Nat.xor_div_two
      have m : ((a ^^^ b) % 2 = 1) ↔ ¬ ((a % 2 = 1) ↔ (b % 2 = 1)) := Nat.xor_mod_two_eq_one
      generalize a ^^^ b = z at e m ⊢
      generalize a / 2 ^^^ b / 2 = w at e i1
      omega
def grS (ρ : Ru) (g : Nat → Nat) (n k : Nat) : Nat → Nat → List Nat
  | 0, _ => []
  | c + 1, sm => (if alw ρ k n sm then [g sm ^^^ g (n - k - sm)] else []) ++ grS ρ g n k c (sm + 1)
def grK (ρ : Ru) (g : Nat → Nat) (n : Nat) : Nat → Nat → List Nat
  | 0, _ => []
  | c + 1, k => grS ρ g n k ((n - k) / 2 + 1) 0 ++ grK ρ g n c (k + 1)
def grL (ρ : Ru) (g : Nat → Nat) (n : Nat) : List Nat := grK ρ g n (min 10 n) 1
theorem grS_lt {ρ : Ru} {g : Nat → Nat} {n k : Nat} (hk : 1 ≤ k) (hkn : k ≤ n) (hg : ∀ i, i < n → g i ≤ i) : ∀ c sm, sm + c ≤ (n - k) / 2 + 1 → ∀ v ∈ grS ρ g n k c sm, v < n := by
  intro c
  induction c with
  | zero => intro sm _ v hv; exact absurd hv (by simp [grS])
  | succ c ih =>
    intro sm hs v hv
    simp only [grS, List.mem_append] at hv
    rcases hv with h | h
    · by_cases ha : alw ρ k n sm = true
      · rw [if_pos ha] at h
        have e : v = g sm ^^^ g (n - k - sm) := by simpa using h
        have h1 := g_xle _ (g sm) (g (n - k - sm)) (Nat.le_refl _)
        have h2 := hg sm (by omega)
        have h3 := hg (n - k - sm) (by omega)
        omega
      · rw [if_neg ha] at h; exact absurd h (by simp)
    · exact ih (sm + 1) (by omega) v h
theorem grK_lt {ρ : Ru} {g : Nat → Nat} {n : Nat} (hg : ∀ i, i < n → g i ≤ i) : ∀ c k, k + c ≤ n + 1 → 1 ≤ k → ∀ v ∈ grK ρ g n c k, v < n := by
  intro c
  induction c with
  | zero => intro k _ _ v hv; exact absurd hv (by simp [grK])
  | succ c ih =>
    intro k hk h1 v hv
    simp only [grK, List.mem_append] at hv
    rcases hv with h | h
    · exact grS_lt h1 (by omega) hg _ 0 (by omega) v h
    · exact ih (k + 1) (by omega) (by omega) v h
theorem grS_congr {ρ : Ru} {g g' : Nat → Nat} {n k : Nat} (hk : 1 ≤ k) (hkn : k ≤ n) (hg : ∀ i, i < n → g i = g' i) : ∀ c sm, sm + c ≤ (n - k) / 2 + 1 → grS ρ g n k c sm = grS ρ g' n k c sm := by
  intro c
  induction c with
  | zero => intro sm _; rfl
  | succ c ih =>
    intro sm hs
    simp only [grS]
    rw [ih (sm + 1) (by omega), hg sm (by omega), hg (n - k - sm) (by omega)]
theorem grK_congr {ρ : Ru} {g g' : Nat → Nat} {n : Nat} (hg : ∀ i, i < n → g i = g' i) : ∀ c k, k + c ≤ n + 1 → 1 ≤ k → grK ρ g n c k = grK ρ g' n c k := by
  intro c
  induction c with
  | zero => intro k _ _; rfl
  | succ c ih =>
    intro k hk h1
    simp only [grK]
    rw [ih (k + 1) (by omega) (by omega), grS_congr h1 (by omega) hg _ 0 (by omega)]
theorem grL_lt {ρ : Ru} {g : Nat → Nat} {n : Nat} (hg : ∀ i, i < n → g i ≤ i) : ∀ v ∈ grL ρ g n, v < n := grK_lt hg _ 1 (by omega) (by omega)
theorem grL_congr {ρ : Ru} {g g' : Nat → Nat} {n : Nat} (hg : ∀ i, i < n → g i = g' i) : grL ρ g n = grL ρ g' n := grK_congr hg _ 1 (by omega) (by omega)
/-- the least number that is not in a list -/
def mxF (l : List Nat) : Nat → Nat → Nat
  | 0, v => v
  | c + 1, v => if v ∈ l then mxF l c (v + 1) else v
theorem mxF_spec {l : List Nat} : ∀ c v, (∀ u, u < v → u ∈ l) → mxF l c v ≤ v + c ∧ (∀ u, u < mxF l c v → u ∈ l) ∧ (mxF l c v < v + c → mxF l c v ∉ l) := by
  intro c
  induction c with
  | zero => intro v h; exact ⟨by simp [mxF], h, fun q => absurd q (by simp [mxF])⟩
  | succ c ih =>
    intro v h
    by_cases hv : v ∈ l
    · obtain ⟨a, b, d⟩ := ih (v + 1) (fun u hu => by
        rcases Nat.lt_or_ge u v with q | q
        · exact h u q
        · rw [show u = v by omega]; exact hv)
      have e : mxF l (c + 1) v = mxF l c (v + 1) := by simp [mxF, hv]
      rw [e]
      exact ⟨by omega, b, fun q => d (by omega)⟩
    · have e : mxF l (c + 1) v = v := by simp [mxF, hv]
      rw [e]
      exact ⟨by omega, h, fun _ => hv⟩
theorem mx_ok {l : List Nat} {n : Nat} (h : ∀ v ∈ l, v < n) : mxF l n 0 ≤ n ∧ mxF l n 0 ∉ l ∧ ∀ u, u < mxF l n 0 → u ∈ l := by
  obtain ⟨a, b, d⟩ := mxF_spec (l := l) n 0 (fun u hu => absurd hu (Nat.not_lt_zero u))
  refine ⟨by omega, ?_, b⟩
  rcases Nat.lt_or_ge (mxF l n 0) n with q | q
  · exact d (by omega)
  · intro hm
    have := h _ hm
    omega
def gvL (ρ : Ru) : Nat → List Nat
  | 0 => [0]
  | n + 1 => gvL ρ n ++ [mxF (grL ρ (fun i => (gvL ρ n).getD i 0) (n + 1)) (n + 1) 0]
def gv (ρ : Ru) (n : Nat) : Nat := (gvL ρ n).getD n 0
theorem gvL_len (ρ : Ru) : ∀ n, (gvL ρ n).length = n + 1 := by
  intro n
  induction n with
  | zero => rfl
  | succ n ih => simp only [gvL, List.length_append, ih, List.length_singleton]
theorem gvL_at (ρ : Ru) : ∀ n i, i ≤ n → (gvL ρ n).getD i 0 = gv ρ i := by
  intro n
  induction n with
  | zero => intro i hi; rw [show i = 0 by omega]; rfl
  | succ n ih =>
    intro i hi
    rcases Nat.lt_or_ge n i with q | q
    · rw [show i = n + 1 by omega]; rfl
    · rw [← ih i q]
      simp only [gvL]
      rw [List.getD_eq_getElem?_getD, List.getElem?_append_left (by rw [gvL_len]; omega), ← List.getD_eq_getElem?_getD]
theorem gv_0 (ρ : Ru) : gv ρ 0 = 0 := rfl
theorem gv_s (ρ : Ru) {n : Nat} (h : 1 ≤ n) : gv ρ n = mxF (grL ρ (gv ρ) n) n 0 := by
  obtain ⟨m, rfl⟩ : ∃ m, n = m + 1 := ⟨n - 1, by omega⟩
  unfold gv
  simp only [gvL]
  rw [List.getD_eq_getElem?_getD, List.getElem?_append_right (by rw [gvL_len]; omega), gvL_len, Nat.sub_self]
  show mxF _ _ 0 = mxF _ _ 0
  rw [grL_congr (g' := fun n => (gvL ρ n).getD n 0) (fun i hi => gvL_at ρ m i (by omega))]
theorem gv_le (ρ : Ru) : ∀ m n, n ≤ m → gv ρ n ≤ n := by
  intro m
  induction m with
  | zero => intro n h; rw [show n = 0 by omega, gv_0]; omega
  | succ m ih =>
    intro n h
    by_cases h0 : n = 0
    · rw [h0, gv_0]; omega
    · rw [gv_s ρ (by omega)]
      exact (mx_ok (grL_lt (fun i hi => ih i (by omega)))).1
theorem gv_le' (ρ : Ru) (n : Nat) : gv ρ n ≤ n := gv_le ρ n n (Nat.le_refl n)
/-- the period: where it begins for p, and the least p -/
def stF (g : Nat → Nat) (p : Nat) : Nat → Nat
  | 0 => 0
  | s + 1 => if g s = g (s + p) then stF g p s else s + 1
def stp (g : Nat → Nat) (p : Nat) : Nat := stF g p (61 - p)
theorem stF_le (g : Nat → Nat) (p : Nat) : ∀ s, stF g p s ≤ s := by
  intro s
  induction s with
  | zero => simp [stF]
  | succ s ih =>
    simp only [stF]
    by_cases h : g s = g (s + p)
    · rw [if_pos h]; omega
    · rw [if_neg h]; omega
theorem stF_iff (g : Nat → Nat) (p : Nat) : ∀ s a, a ≤ s → (stF g p s ≤ a ↔ ∀ n, a ≤ n → n < s → g n = g (n + p)) := by
  intro s
  induction s with
  | zero => intro a ha; exact ⟨fun _ n h1 h2 => absurd h2 (by omega), fun _ => by simp [stF]⟩
  | succ s ih =>
    intro a ha
    simp only [stF]
    by_cases h : g s = g (s + p)
    · rw [if_pos h]
      rcases Nat.lt_or_ge s a with q | q
      · have := stF_le g p s
        exact ⟨fun _ n h1 h2 => absurd h2 (by omega), fun _ => by omega⟩
      · rw [ih a q]
        refine ⟨fun k n h1 h2 => ?_, fun k n h1 h2 => k n h1 (by omega)⟩
        rcases Nat.lt_or_ge n s with w | w
        · exact k n h1 w
        · rw [show n = s by omega]; exact h
    · rw [if_neg h]
      rcases Nat.lt_or_ge s a with q | q
      · exact ⟨fun _ n h1 h2 => absurd h2 (by omega), fun _ => by omega⟩
      · exact ⟨fun k => absurd k (by omega), fun k => absurd (k s q (by omega)) h⟩
def perF (g : Nat → Nat) : Nat → Nat → Int32 × Int32
  | 0, _ => (-1, -1)
  | c + 1, p => if stp g p ≤ 20 then (nI p, nI (stp g p)) else perF g c (p + 1)
def per (ρ : Ru) : Int32 × Int32 := perF (gv ρ) 20 1
theorem perF_s (g : Nat → Nat) (c p : Nat) : perF g (c + 1) p = if stp g p ≤ 20 then (nI p, nI (stp g p)) else perF g c (p + 1) := rfl
