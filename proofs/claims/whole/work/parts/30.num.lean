/-! ===== numbers: Int32 as Nat ===== -/
theorem n_lit (n : Nat) : (@OfNat.ofNat Int32 n _) = nI (@OfNat.ofNat Nat n _) := rfl
theorem n_z : nI 0 = 0 := rfl
theorem n_shr1 {n : Nat} (h : n < 2 ^ 31) : nI n >>> ((nI 1) &&& (nI 31)) = nI (n / 2) := pk_shrN h _ 1 (by decide)
theorem n_and1 {n : Nat} (h : n < 2 ^ 31) : nI n &&& (nI 1) = nI (n % 2) := pk_andN (by omega) 1 (by decide)
theorem n_and2 {n : Nat} (h : n < 2 ^ 31) : nI n &&& (nI 1) = nI (n % 2) := n_and1 h
theorem e_positionOf {l p : Nat} {S : hm_S} {T : hm_T} {Q : Int32 → hm_S → hm_T → Prop} : wp_10_positionOf (nI l) (nI p) S T Q ↔ Q (nI (2 * l + p)) S T := by
  unfold wp_10_positionOf
  simp only [n_lit, pk_mul, nI_add]
theorem e_layoutOf {n : Nat} (h : n < 2 ^ 31) {S : hm_S} {T : hm_T} {Q : Int32 → hm_S → hm_T → Prop} : wp_10_layoutOf (nI n) S T Q ↔ Q (nI (n / 2)) S T := by
  unfold wp_10_layoutOf
  simp (disch := omega) only [n_lit, n_shr1]
theorem e_passOf {n : Nat} (h : n < 2 ^ 31) {S : hm_S} {T : hm_T} {Q : Int32 → hm_S → hm_T → Prop} : wp_10_passOf (nI n) S T Q ↔ Q (nI (n % 2)) S T := by
  unfold wp_10_passOf
  simp (disch := omega) only [n_lit, n_and1]
theorem e_kindOfHeap {n b : Nat} (h : 1 ≤ n) {S : hm_S} {T : hm_T} {Q : Int32 → hm_S → hm_T → Prop} : wp_10_kindOfHeap (nI n) (nI b) S T Q ↔ Q (nI (2 * (n - 1) + b)) S T := by
  unfold wp_10_kindOfHeap
  simp (disch := omega) only [n_lit, pk_sub, pk_mul, nI_add]
theorem e_sizeOfKind {n : Nat} (h : n < 2 ^ 31) {S : hm_S} {T : hm_T} {Q : Int32 → hm_S → hm_T → Prop} : wp_10_sizeOfKind (nI n) S T Q ↔ Q (nI (n / 2 + 1)) S T := by
  unfold wp_10_sizeOfKind
  simp (disch := omega) only [n_lit, n_shr1, nI_add]
theorem e_boundOfKind {n : Nat} (h : n < 2 ^ 31) {S : hm_S} {T : hm_T} {Q : Int32 → hm_S → hm_T → Prop} : wp_10_boundOfKind (nI n) S T Q ↔ Q (nI (n % 2)) S T := by
  unfold wp_10_boundOfKind
  simp (disch := omega) only [n_lit, n_and1]
/-! ===== rows ===== -/
theorem e_get {r L i : Nat} (hi : i < L) (hL : L < 2 ^ 31) {S : hm_S} {T : hm_T} {Q : Int32 → hm_S → hm_T → Prop} : wp_5_get r L (nI i) S T Q ↔ Q (S (r + 1) i) S T := by
  unfold wp_5_get
  rw [if_neg (nI_pos (by omega)), if_neg (nI_ge hi hL), nI_clamp (by omega)]
  exact ⟨fun h => h.2, fun h => ⟨vp_in_nI hi hL, h⟩⟩
theorem e_get_ge {r L i : Nat} (hi : L ≤ i) (hL : i < 2 ^ 31) {S : hm_S} {T : hm_T} {Q : Int32 → hm_S → hm_T → Prop} : wp_5_get r L (nI i) S T Q ↔ Q 0 S T := by
  unfold wp_5_get
  rw [if_neg (nI_pos hL), if_pos (nI_le hi hL)]
theorem e_get_neg {r L : Nat} {x : Int32} (hx : x < 0) {S : hm_S} {T : hm_T} {Q : Int32 → hm_S → hm_T → Prop} : wp_5_get r L x S T Q ↔ Q 0 S T := by
  unfold wp_5_get
  rw [if_pos hx]
theorem e_set {r L i : Nat} (hi : i < L) (hL : L < 2 ^ 31) {v : Int32} {S : hm_S} {T : hm_T} {Q : hm_S → hm_T → Prop} : wp_5_set r L (nI i) v S T Q ↔ Q (hm_up S (r + 1) i v) T := by
  unfold wp_5_set
  rw [if_neg (nI_pos (by omega)), if_neg (nI_ge hi hL), nI_clamp (by omega)]
  exact ⟨fun h => h.2, fun h => ⟨vp_in_nI hi hL, h⟩⟩
theorem e_add {r L i : Nat} (hi : i < L) (hL : L < 2 ^ 31) {v : Int32} {S : hm_S} {T : hm_T} {Q : hm_S → hm_T → Prop} : wp_5_add r L (nI i) v S T Q ↔ Q (hm_up S (r + 1) i (S (r + 1) i + v)) T := by
  unfold wp_5_add
  rw [if_neg (nI_pos (by omega)), if_neg (nI_ge hi hL), nI_clamp (by omega)]
  exact ⟨fun h => h.2.2, fun h => ⟨vp_in_nI hi hL, vp_in_nI hi hL, h⟩⟩
/-- all of a row is v -/
def hm_fill (S : hm_S) (a L : Nat) (v : Int32) : hm_S := fun b => if b = a then (fun j => if j < L then v else S b j) else S b
theorem z_fill_loop {a L : Nat} (hL : L < 2 ^ 31) {v : Int32} {T : hm_T} {S0 : hm_S} {Q : hm_S → hm_T → Prop} (h : Q (hm_fill S0 a L v) T) : ∀ (n i : Nat), i + n = L → ∃ f, wl_90_fill_5 a L Q f v (nI i) (nI L) (hm_fill S0 a i v) T := by
  intro n
  induction n with
  | zero =>
    intro i hi
    refine ⟨1, ?_⟩
    show wb_90_fill_5 a L Q _ v (nI i) (nI L) _ T
    unfold wb_90_fill_5
    have e : i = L := by omega
    subst e
    rw [if_pos (nI_le (Nat.le_refl _) hL)]
    exact h
  | succ n ih =>
    intro i hi
    obtain ⟨f, hf⟩ := ih (i + 1) (by omega)
    refine ⟨f + 1, ?_⟩
    show wb_90_fill_5 a L Q _ v (nI i) (nI L) _ T
    unfold wb_90_fill_5
    rw [if_neg (nI_ge (by omega) hL), nI_clamp (by omega), nI_1]
    refine ⟨vp_in_nI (by omega) hL, ?_⟩
    have e : hm_up (hm_fill S0 a i v) a i v = hm_fill S0 a (i + 1) v := by
      funext b j
      by_cases hb : b = a
      · by_cases hj : j = i
        · simp [hm_up, hm_fill, hb, hj]
        · by_cases h1 : j < i
          · simp [hm_up, hm_fill, hb, hj, h1, show j < i + 1 by omega]
          · simp [hm_up, hm_fill, hb, hj, h1, show ¬ j < i + 1 by omega]
      · simp [hm_up, hm_fill, hb]
    rw [e]
    exact hf
theorem z_fill {a L : Nat} (hL : L < 2 ^ 31) {v : Int32} {S : hm_S} {T : hm_T} {Q : hm_S → hm_T → Prop} (h : Q (hm_fill S a L v) T) : wp_90_fill a L v S T Q := by
  unfold wp_90_fill
  have e : hm_fill S a 0 v = S := by
    funext b j
    by_cases hb : b = a <;> simp [hm_fill, hb]
  have := z_fill_loop (S0 := S) hL h L 0 (by omega)
  rw [e] at this
  exact this
theorem z_clear {r L : Nat} (hL : L < 2 ^ 31) {S : hm_S} {T : hm_T} {Q : hm_S → hm_T → Prop} (h : Q (hm_fill S (r + 1) L 0) T) : wp_5_clear r L S T Q := by
  unfold wp_5_clear
  exact z_fill hL h
