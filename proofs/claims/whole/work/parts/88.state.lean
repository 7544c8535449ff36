/-! ===== the whole state on both sides: rules, text, position, history ===== -/
abbrev Sp : Type := Ru × List Nat × Nat × List Nat
def okS (s : Sp) : Prop := rok s.1 ∧ (∀ c ∈ s.2.1, c < 128) ∧ s.2.2.1 < 2430 ∧ ∀ p ∈ s.2.2.2, p < 2430
def IX (s : Sp) (S : hm_S) : Prop := SV s.1 S ∧ S 0 9 = nI s.2.2.1 ∧ HX s.2.2.2 S ∧ TX s.2.1 S ∧ GX s.1 S
def IZ (s : Sp) (S : hm_S) (T : hm_T) : Prop := tabM S T ∧ ruM s.1 S ∧ cM s.1 S ∧ S 0 7 = nI (pM s.2.2.1) ∧ HM s.2.2.2 S ∧ TM s.2.1 S
theorem TX.fr {c : List Nat} {tx : List Nat} {S S' : hm_S} (h : TX tx S) (hf : fr c S S') (hc : ∀ a ∈ [64, 66], a ∉ c) : TX tx S' := by
  unfold TX
  rw [hf 64 (hc 64 (by decide)), hf 66 (hc 66 (by decide))]
  exact h
theorem SV.ru {ρ : Ru} {S : hm_S} (h : SV ρ S) : ruX ρ S := by
  obtain ⟨kn, hx, -⟩ := h
  exact hx.2.1
theorem SV.tab {ρ : Ru} {S : hm_S} (h : SV ρ S) : tabX S := by
  obtain ⟨kn, hx, -⟩ := h
  exact hx.1
/-- the class learned something -/
theorem IX.lrn {s : Sp} {S S' : hm_S} (h : IX s S) (hf : fr fX S S') (hS : SV s.1 S') : IX s S' := ⟨hS, by rw [hf 0 (by decide)]; exact h.2.1, h.2.2.1.fr hf (by decide), h.2.2.2.1.fr hf (by decide), h.2.2.2.2.fr hf (by decide)⟩
theorem IX.lst {s : Sp} {S S' : hm_S} (h : IX s S) (hf : fr [19, 21, 23, 25, 27, 29, 31, 33, 35] S S') (hS : SV s.1 S') : IX s S' := h.lrn (hf.mono (by decide)) hS
/-- the class found the Grundy values -/
theorem IX.grn {s : Sp} {S S' : hm_S} (h : IX s S) (hf : fr [59, 61, 63] S S') (hG : GX s.1 S') : IX s S' := ⟨h.1.fr hf (by decide), by rw [hf 0 (by decide)]; exact h.2.1, h.2.2.1.fr hf (by decide), h.2.2.2.1.fr hf (by decide), hG⟩
theorem HM.fr0 {c hs : List Nat} {S S' : hm_S} (h : HM hs S) (hf : fr c S S') (h5 : 5 ∉ c) (h9 : S' 0 9 = S 0 9) : HM hs S' := by
  unfold HM
  rw [hf 5 h5, h9]
  exact h
theorem TM.fr0 {c tx : List Nat} {S S' : hm_S} (h : TM tx S) (hf : fr c S S') (h17 : 17 ∉ c) (h25 : S' 0 25 = S 0 25) : TM tx S' := by
  unfold TM
  rw [hf 17 h17, h25]
  exact h
theorem IZ.lrn {s : Sp} {S S' : hm_S} {T : hm_T} (h : IZ s S T) (hf : fs S S') (hc : cM s.1 S') : IZ s S' T := ⟨hf.tab h.1, hf.ru h.2.1, hc, by rw [hf.2 7 (by decide) (by decide) (by decide)]; exact h.2.2.2.1, h.2.2.2.2.1.fs hf, h.2.2.2.2.2.fr0 hf.1 (by decide) (hf.2 25 (by decide) (by decide) (by decide))⟩
theorem cM.fr {c : List Nat} {ρ : Ru} {S S' : hm_S} (h : cM ρ S) (hf : fr c S S') (hc : ∀ a ∈ [0, 13, 14, 15, 16], a ∉ c) : cM ρ S' := by
  unfold cM
  rw [hf 0 (hc 0 (by decide))]
  rcases h with e | ⟨e, k⟩
  · exact Or.inl e
  · exact Or.inr ⟨e, k.fr hf (fun a ha => hc a (List.mem_cons_of_mem _ ha))⟩
theorem IZ.out {c : List Nat} {s : Sp} {S S' : hm_S} {T : hm_T} (h : IZ s S T) (hf : fr c S S') (hc : ∀ a ∈ [0, 1, 2, 4, 5, 13, 14, 15, 16, 17], a ∉ c) : IZ s S' T := ⟨h.1.fr hf (fun a ha => hc a (by revert a; decide)), h.2.1.fr hf (fun a ha => hc a (by revert a; decide)), h.2.2.1.fr hf (fun a ha => hc a (by revert a; decide)), by rw [hf 0 (hc 0 (by decide))]; exact h.2.2.2.1, h.2.2.2.2.1.fr0 hf (hc 5 (by decide)) (by rw [hf 0 (hc 0 (by decide))]), h.2.2.2.2.2.fr0 hf (hc 17 (by decide)) (by rw [hf 0 (hc 0 (by decide))])⟩
/-- an argument that is to lie below n -/
def idx (x : Int32) (n : Nat) : Option Nat := if x < 0 then none else if nI n ≤ x then none else some x.toNatClampNeg
theorem idx_c (x : Int32) {n : Nat} (hn : n < 2 ^ 31) : (x < 0 ∧ idx x n = none) ∨ (¬ x < 0 ∧ nI n ≤ x ∧ idx x n = none) ∨ ∃ i, i < n ∧ x = nI i ∧ idx x n = some i := by
  rcases in_cases x hn with g | ⟨g1, g2⟩ | ⟨i, g1, g2⟩
  · exact Or.inl ⟨g, by unfold idx; rw [if_pos g]⟩
  · exact Or.inr (Or.inl ⟨g1, g2, by unfold idx; rw [if_neg g1, if_pos g2]⟩)
  · refine Or.inr (Or.inr ⟨i, g1, g2, ?_⟩)
    unfold idx
    rw [g2, if_neg (nI_pos (by omega)), if_neg (nI_ge g1 hn), nI_clamp (by omega)]
theorem idx_nI {i n : Nat} (h : i < n) (hn : n < 2 ^ 31) : idx (nI i) n = some i := by
  unfold idx
  rw [if_neg (nI_pos (by omega)), if_neg (nI_ge h hn), nI_clamp (by omega)]
theorem idx_none {x : Int32} {n : Nat} (hn : n < 2 ^ 31) (h : ∀ i, i < n → x ≠ nI i) : idx x n = none := by
  rcases idx_c x hn with ⟨-, e⟩ | ⟨-, -, e⟩ | ⟨i, h1, h2, -⟩
  · exact e
  · exact e
  · exact absurd h2 (h i h1)
theorem nI_out {x : Int32} {n : Nat} (hn : n + 1 < 2 ^ 31) (h : nI (n + 1) ≤ x) : ¬ x ≤ nI n := fun q => nI_ge (Nat.lt_succ_self n) hn (Int32.le_trans h q)
section ST
variable {T : hm_T}
theorem z_inI {x : Int32} {n : Nat} (hn : n + 1 < 2 ^ 31) {S : hm_S} {Q : Int32 → hm_S → hm_T → Prop} (hno : idx x (n + 1) = none → Q 0 S T) (h : ∀ i, i ≤ n → x = nI i → idx x (n + 1) = some i → Q 1 S T) : wp_11_in x 0 (nI n) S T Q := by
  unfold wp_11_in
  rcases idx_c x hn with ⟨g, e⟩ | ⟨g1, g2, e⟩ | ⟨i, h1, h2, e⟩
  · rw [if_pos g]; exact hno e
  · rw [if_neg g1, if_pos (Int32.not_le.mp (nI_out hn g2))]; exact hno e
  · have r := h i (by omega) h2 e
    rw [h2, if_neg (nI_pos (by omega)), if_neg (nI_nlt (by omega) (by omega))]; exact r
theorem z_in1 {x : Int32} {n : Nat} (hn : n + 1 < 2 ^ 31) {S : hm_S} {Q : Int32 → hm_S → hm_T → Prop} (hno : (idx x (n + 1) = none ∨ idx x (n + 1) = some 0) → Q 0 S T) (h : ∀ i, i < n → x = nI (i + 1) → idx x (n + 1) = some (i + 1) → Q 1 S T) : wp_11_in x 1 (nI n) S T Q := by
  unfold wp_11_in
  rcases idx_c x hn with ⟨g, e⟩ | ⟨g1, g2, e⟩ | ⟨i, h1, h2, e⟩
  · rw [if_pos (Int32.lt_trans g (by decide))]; exact hno (Or.inl e)
  · by_cases w : x < 1
    · rw [if_pos w]; exact hno (Or.inl e)
    · rw [if_neg w, if_pos (Int32.not_le.mp (nI_out hn g2))]; exact hno (Or.inl e)
  · cases i with
    | zero => rw [h2, if_pos (by decide)]; exact hno (Or.inr e)
    | succ i =>
      have r := h i (by omega) h2 e
      rw [h2, q_1, if_neg (nI_nlt (by omega) (by omega)), if_neg (nI_nlt (by omega) (by omega))]; exact r
/-! the Grundy value and the period, both sides -/
def a_grundy (s : Sp) (x : Int32) : Int32 := match idx x 61 with
  | none => -2
  | some n => nI (gv s.1 n)
theorem X_grundy {s : Sp} (ho : okS s) {S : hm_S} (hI : IX s S) (x : Int32) {Q : Int32 → hm_S → hm_T → Prop} (h : ∀ S', IX s S' → Q (a_grundy s x) S' T) : wp_10_grundy x S T Q := by
  unfold wp_10_grundy
  unfold a_grundy at h
  rcases idx_c x (n := 61) (by omega) with ⟨g, e⟩ | ⟨g1, g2, e⟩ | ⟨i, h1, h2, e⟩
  · rw [e] at h; rw [if_pos g]; exact h S hI
  · rw [e] at h; rw [if_neg g1, q_60, if_neg (nI_out (by omega) g2)]; exact h S hI
  · rw [e] at h
    rw [h2, if_neg (nI_pos (by omega)), q_60, if_pos (nI_le (by omega) (by omega))]
    exact x_valueOf ho.1 hI.1.ru hI.2.2.2.2 (by omega) (fun S' f' g' => h S' (hI.grn f' g'))
theorem Z_grundy {s : Sp} (ho : okS s) {S : hm_S} (hI : IZ s S T) (x : Int32) {Q : Int32 → hm_S → hm_T → Prop} (h : ∀ S' T', IZ s S' T' → Q (a_grundy s x) S' T') : wp_11_grundy x S T Q := by
  unfold wp_11_grundy
  unfold a_grundy at h
  rw [q_60]
  refine z_inI (by omega) (fun e => ?_) (fun i h1 h2 e => ?_)
  · rw [e] at h; rw [if_pos rfl]; exact h S T hI
  · rw [e] at h
    rw [if_neg (by decide)]
    refine z_values ho.1 hI.2.1 (fun S1 f1 v1 => ?_)
    rw [h2, nI_clamp (show i < 2 ^ 31 by omega), v1 i h1]
    exact ⟨vp_in_nI (by omega) (by omega), h S1 T (hI.out f1 (by decide))⟩
def a_period (s : Sp) (x : Int32) : Int32 := match idx x 2 with
  | none => -2
  | some n => if n = 0 then (per s.1).1 else (per s.1).2
theorem X_period {s : Sp} (ho : okS s) {S : hm_S} (hI : IX s S) (x : Int32) {Q : Int32 → hm_S → hm_T → Prop} (h : ∀ S', IX s S' → Q (a_period s x) S' T) : wp_10_period x S T Q := by
  unfold wp_10_period
  unfold a_period at h
  rcases idx_c x (n := 2) (by omega) with ⟨g, e⟩ | ⟨g1, g2, e⟩ | ⟨i, h1, h2, e⟩
  · rw [e] at h; rw [if_pos g]; exact h S hI
  · rw [e] at h; rw [if_neg g1, q_1, if_neg (nI_out (by omega) g2)]; exact h S hI
  · rw [e] at h
    rw [h2, if_neg (nI_pos (by omega)), q_1, if_pos (nI_le (by omega) (by omega))]
    rcases (show i = 0 ∨ i = 1 by omega) with k | k
    · rw [k, if_pos (show nI 0 = 0 from rfl)]
      rw [k] at h
      exact x_periodLength ho.1 hI.1.ru hI.2.2.2.2 (fun S' f' g' => h S' (hI.grn f' g'))
    · rw [k, if_neg (by decide)]
      rw [k] at h
      exact x_periodStart ho.1 hI.1.ru hI.2.2.2.2 (fun S' f' g' => h S' (hI.grn f' g'))
theorem Z_period {s : Sp} (ho : okS s) {S : hm_S} (hI : IZ s S T) (x : Int32) {Q : Int32 → hm_S → hm_T → Prop} (h : ∀ S', IZ s S' T → (∀ i, idx x 2 = some i → ∀ n, n ≤ 60 → S' 19 n = nI (gv s.1 n)) → Q (a_period s x) S' T) : wp_11_period x S T Q := by
  unfold wp_11_period
  unfold a_period at h
  rw [q_1]
  refine z_inI (by omega) (fun e => ?_) (fun i h1 h2 e => ?_)
  · rw [e] at h; rw [if_pos rfl]; exact h S hI (fun i q => absurd q (by simp))
  · rw [e] at h
    rw [if_neg (by decide)]
    refine z_values ho.1 hI.2.1 (fun S1 f1 v1 => ?_)
    refine ⟨_, z_perOut v1 (fun i hi => Nat.le_trans (gv_le' _ i) hi) ?_ 20 1 (by omega) (by omega) rfl⟩
    have r := h S1 (hI.out f1 (by decide)) (fun _ _ => v1)
    rcases (show i = 0 ∨ i = 1 by omega) with k | k
    · rw [h2, k, if_pos (show nI 0 = 0 from rfl)]
      rw [k] at r
      exact r
    · rw [h2, k, if_neg (by decide)]
      rw [k] at r
      exact r
end ST
