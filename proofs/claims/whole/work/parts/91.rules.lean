/-! ===== the rules are changed and read, both sides ===== -/
theorem mask_lt {x m : Int32} {k : Nat} (hm : ∀ i, i < 32 → k ≤ i → m.toBitVec.getLsbD i = true) (h : x &&& m = 0) : ∃ n, n < 2 ^ k ∧ x = nI n := by
  have hb : x.toBitVec &&& m.toBitVec = 0#32 := congrArg Int32.toBitVec h
  refine ⟨x.toBitVec.toNat, Nat.lt_pow_two_of_testBit _ (fun i hi => ?_), ?_⟩
  · by_cases h32 : i < 32
    · have e := congrArg (fun b : BitVec 32 => b.getLsbD i) hb
      simp only [BitVec.getLsbD_and, hm i h32 hi, Bool.and_true] at e
      rw [BitVec.testBit_toNat, e]
      simp
    · exact Nat.testBit_lt_two_pow (Nat.lt_of_lt_of_le x.toBitVec.isLt (Nat.pow_le_pow_right (by omega) (by omega)))
  · apply Int32.toBitVec_inj.1
    show x.toBitVec = BitVec.ofNat 32 x.toBitVec.toNat
    simp
theorem mask_ob {x : Int32} (h : x &&& (-2047) = 0) : ∃ n, n < 2048 ∧ x = nI n := mask_lt (k := 11) (by decide) h
theorem mask_gr {x : Int32} (h : x &&& (-1023) = 0) : ∃ n, n < 1024 ∧ x = nI n := mask_lt (k := 10) (by decide) h
theorem IX.rul {ρ ρ' : Ru} {tx : List Nat} {q : Nat} {hs : List Nat} {S0 S S' : hm_S} (h : IX (ρ, tx, q, hs) S0) (f1 : fr [1, 3] S0 S) (f2 : fr [19, 36, 38, 59] S S') (e : S' 59 3 = 0) (hS : SV ρ' S') : IX (ρ', tx, q, hs) S' := by
  have f3 : fr [1, 3, 19, 36, 38, 59] S0 S' := (f1.mono (by decide)).tr (f2.mono (by decide))
  exact ⟨hS, by rw [f3 0 (by decide)]; exact h.2.1, h.2.2.1.fr f3 (by decide), h.2.2.2.1.fr f3 (by decide), by rw [f3 61 (by decide)]; exact h.2.2.2.2.1, Or.inl e⟩
theorem IZ.rul {ρ ρ' : Ru} {tx : List Nat} {q : Nat} {hs : List Nat} {S S' : hm_S} {T : hm_T} (h : IZ (ρ, tx, q, hs) S T) (f : fr [0, 4] S S') (hk : ∀ k ∈ [7, 9, 25], S' 0 k = S 0 k) (u : ruM ρ' S') (e : S' 0 19 = 0) : IZ (ρ', tx, q, hs) S' T := ⟨h.1.fr f (by decide), u, Or.inl e, by rw [hk 7 (by decide)]; exact h.2.2.2.1, h.2.2.2.2.1.fr0 f (by decide) (hk 9 (by decide)), h.2.2.2.2.2.fr0 f (by decide) (hk 25 (by decide))⟩
section RL
variable {T : hm_T}
/-! setDigit -/
def dgU (f : Nat → Nat) (k d : Nat) : Nat → Nat := fun j => if j = k then d else f j
def r_setDigit (s : Sp) (x y : Int32) : Int32 × Sp := match idx x 11 with
  | none => (-2, s)
  | some 0 => (-2, s)
  | some (k + 1) => match idx y 8 with
    | none => (-2, s)
    | some d => (nI (s.1.1 (k + 1)), ((dgU s.1.1 (k + 1) d, s.1.2), s.2))
theorem r_setDigit0 {s : Sp} {x y : Int32} (e : idx x 11 = none ∨ idx x 11 = some 0) : r_setDigit s x y = (-2, s) := by
  unfold r_setDigit
  rcases e with e | e <;> rw [e]
theorem r_setDigit1 {s : Sp} {x y : Int32} (e : idx y 8 = none) : r_setDigit s x y = (-2, s) := by
  unfold r_setDigit
  split
  · rfl
  · rfl
  · rw [e]
theorem r_setDigit2 {s : Sp} {x y : Int32} {k d : Nat} (e : idx x 11 = some (k + 1)) (e2 : idx y 8 = some d) : r_setDigit s x y = (nI (s.1.1 (k + 1)), ((dgU s.1.1 (k + 1) d, s.1.2), s.2)) := by
  unfold r_setDigit
  rw [e]
  simp only []
  rw [e2]
theorem rok_dg {ρ : Ru} (h : rok ρ) {k d : Nat} (hd : d < 8) : rok (dgU ρ.1 k d, ρ.2) := ⟨fun j => by
  show dgU ρ.1 k d j < 8
  unfold dgU
  by_cases e : j = k
  · rw [if_pos e]; exact hd
  · rw [if_neg e]; exact h.1 j, h.2⟩
theorem ok_setDigit {s : Sp} (x y : Int32) (ho : okS s) : okS (r_setDigit s x y).2 := by
  rcases idx_c x (n := 11) (by omega) with ⟨g, e⟩ | ⟨g1, g2, e⟩ | ⟨i, h1, h2, e⟩
  · rw [r_setDigit0 (Or.inl e)]; exact ho
  · rw [r_setDigit0 (Or.inl e)]; exact ho
  · cases i with
    | zero => rw [r_setDigit0 (Or.inr e)]; exact ho
    | succ k =>
      rcases idx_c y (n := 8) (by omega) with ⟨g, e'⟩ | ⟨g1, g2, e'⟩ | ⟨d, w1, w2, e'⟩
      · rw [r_setDigit1 e']; exact ho
      · rw [r_setDigit1 e']; exact ho
      · rw [r_setDigit2 e e']; exact ⟨rok_dg ho.1 w1, ho.2⟩
theorem x_arg1 {x : Int32} {n : Nat} (hn : n + 1 < 2 ^ 31) : (x < 1 ∧ (idx x (n + 1) = none ∨ idx x (n + 1) = some 0)) ∨ (¬ x < 1 ∧ nI n < x ∧ idx x (n + 1) = none) ∨ ∃ k, k < n ∧ x = nI (k + 1) ∧ idx x (n + 1) = some (k + 1) ∧ ¬ x < 1 ∧ ¬ nI n < x := by
  rcases idx_c x hn with ⟨g, e⟩ | ⟨g1, g2, e⟩ | ⟨i, h1, h2, e⟩
  · exact Or.inl ⟨Int32.lt_trans g (by decide), Or.inl e⟩
  · by_cases w : x < 1
    · exact Or.inl ⟨w, Or.inl e⟩
    · exact Or.inr (Or.inl ⟨w, Int32.not_le.mp (nI_out hn g2), e⟩)
  · cases i with
    | zero => exact Or.inl ⟨by rw [h2]; decide, Or.inr e⟩
    | succ k => exact Or.inr (Or.inr ⟨k, by omega, h2, e, by rw [h2, q_1]; exact nI_nlt (by omega) (by omega), by rw [h2]; exact nI_nlt (by omega) (by omega)⟩)
theorem X_setDigit {s : Sp} (ho : okS s) {S : hm_S} (hI : IX s S) (x y : Int32) {Q : Int32 → hm_S → hm_T → Prop} (h : ∀ S', IX (r_setDigit s x y).2 S' → Q (r_setDigit s x y).1 S' T) : wp_10_setDigit x y S T Q := by
  unfold wp_10_setDigit wp_6_digitOf wp_6_changeDigit
  rcases x_arg1 (x := x) (n := 10) (by omega) with ⟨g, e⟩ | ⟨g1, g2, e⟩ | ⟨k, h1, h2, e, n1, n2⟩
  · rw [r_setDigit0 e] at h; rw [if_pos g]; exact h S hI
  · rw [r_setDigit0 (Or.inl e)] at h; rw [if_neg g1, q_10, if_pos g2]; exact h S hI
  · rw [if_neg n1, q_10, if_neg n2]
    rcases idx_c y (n := 8) (by omega) with ⟨g, e'⟩ | ⟨g1, g2, e'⟩ | ⟨d, w1, w2, e'⟩
    · rw [r_setDigit1 e'] at h; rw [if_pos g]; exact h S hI
    · rw [r_setDigit1 e'] at h; rw [if_neg g1, q_7, if_neg (nI_out (by omega) g2)]; exact h S hI
    · rw [r_setDigit2 e e'] at h
      obtain ⟨ρ, tx, q, hs⟩ := s
      have hu : ruX ρ S := hI.1.ru
      rw [w2, if_neg (nI_pos (by omega)), q_7, if_pos (nI_le (by omega) (by omega)), h2, e_get (by omega) (by omega)]
      dsimp only
      rw [e_set (by omega) (by omega)]
      simp only [Nat.reduceAdd]
      rw [hu.1 (k + 1) (by omega) (by omega)]
      have f1 : fr [1, 3] S (hm_up S 3 (k + 1) (nI d)) := fr.up _ _ _ (by decide)
      refine x_forgetAnswers (ρ' := (dgU ρ.1 (k + 1) d, ρ.2)) hI.1 f1 ⟨fun j h1' h2' => ?_, ?_⟩ (fun S' f2 e2 s2 => h S' (hI.rul f1 f2 e2 s2))
      · show hm_up S 3 (k + 1) (nI d) 3 j = nI (dgU ρ.1 (k + 1) d j)
        unfold dgU
        by_cases ej : j = k + 1
        · rw [if_pos ej, ej, hm_up_same]
        · rw [if_neg ej, hm_up_col _ _ ej]; exact hu.1 j h1' h2'
      · rw [hm_up_row _ _ _ (by decide)]; exact hu.2
theorem Z_setDigit {s : Sp} (ho : okS s) {S : hm_S} (hI : IZ s S T) (x y : Int32) {Q : Int32 → hm_S → hm_T → Prop} (h : ∀ S' T', IZ (r_setDigit s x y).2 S' T' → Q (r_setDigit s x y).1 S' T') : wp_11_setDigit x y S T Q := by
  unfold wp_11_setDigit wp_11_changesRules
  rw [q_10]
  refine z_in1 (by omega) (fun e => ?_) (fun k h1 h2 e => ?_)
  · rw [r_setDigit0 e] at h; rw [if_pos rfl]; exact h S T hI
  · rw [if_neg (by decide), q_7]
    refine z_inI (by omega) (fun e' => ?_) (fun d w1 w2 e' => ?_)
    · rw [r_setDigit1 e'] at h; rw [if_pos rfl]; exact h S T hI
    · rw [r_setDigit2 e e'] at h
      obtain ⟨ρ, tx, q, hs⟩ := s
      have hu : ruM ρ S := hI.2.1
      rw [if_neg (by decide), h2, w2, nI_clamp (show k + 1 < 2 ^ 31 by omega), hu.1 (k + 1) (by omega) (by omega)]
      have v : vp_in (nI (k + 1)) 11 := vp_in_nI (by omega) (by omega)
      refine ⟨v, v, h _ T (hI.rul ((fr.up _ _ _ (by decide)).tr (fr.up _ _ _ (by decide))) (fun j hj => ?_) ⟨fun j h1' h2' => ?_, ?_, ?_, ?_⟩ (hm_up_same _ _ _ _))⟩
      · rw [hm_up_col _ _ (by revert j; decide), hm_up_row _ _ _ (by decide)]
      · show hm_up (hm_up S 4 (k + 1) (nI d)) 0 19 0 4 j = nI (dgU ρ.1 (k + 1) d j)
        rw [hm_up_row _ _ _ (by decide)]
        unfold dgU
        by_cases ej : j = k + 1
        · rw [if_pos ej, ej, hm_up_same]
        · rw [if_neg ej, hm_up_col _ _ ej]; exact hu.1 j h1' h2'
      · rw [hm_up_col _ _ (by decide), hm_up_row _ _ _ (by decide)]; exact hu.2.1
      · rw [hm_up_col _ _ (by decide), hm_up_row _ _ _ (by decide)]; exact hu.2.2.1
      · rw [hm_up_col _ _ (by decide), hm_up_row _ _ _ (by decide)]; exact hu.2.2.2
/-! setObliging, setGrowing, setMisere -/
def r_setObliging (s : Sp) (x : Int32) : Int32 × Sp := if x &&& (-2047) = 0 then (nI s.1.2.1, ((s.1.1, x.toNatClampNeg, s.1.2.2), s.2)) else (-2, s)
theorem ok_setObliging {s : Sp} (x : Int32) (ho : okS s) : okS (r_setObliging s x).2 := by
  unfold r_setObliging
  by_cases e : x &&& (-2047) = 0
  · obtain ⟨n, h1, h2⟩ := mask_ob e
    rw [if_pos e]
    refine ⟨⟨ho.1.1, ?_, ho.1.2.2⟩, ho.2⟩
    show x.toNatClampNeg < 2048
    rw [h2, nI_clamp (by omega)]; exact h1
  · rw [if_neg e]; exact ho
theorem X_setObliging {s : Sp} {S : hm_S} (hI : IX s S) (x : Int32) {Q : Int32 → hm_S → hm_T → Prop} (h : ∀ S', IX (r_setObliging s x).2 S' → Q (r_setObliging s x).1 S' T) : wp_10_setObliging x S T Q := by
  unfold wp_10_setObliging
  unfold r_setObliging at h
  by_cases e : x &&& (-2047) = 0
  · obtain ⟨n, h1, h2⟩ := mask_ob e
    rw [if_pos e] at h ⊢
    obtain ⟨ρ, tx, q, hs⟩ := s
    have hu : ruX ρ S := hI.1.ru
    rw [h2, nI_clamp (show n < 2 ^ 31 by omega)] at h
    rw [hu.2.1, h2]
    have f1 : fr [1, 3] S (hm_up S 1 1 (nI n)) := fr.up _ _ _ (by decide)
    refine x_forgetAnswers (ρ' := (ρ.1, n, ρ.2.2)) hI.1 f1 ⟨?_, hm_up_same _ _ _ _, ?_, ?_⟩ (fun S' f2 e2 s2 => h S' (hI.rul f1 f2 e2 s2))
    · rw [hm_up_row _ _ _ (by decide)]; exact hu.1
    · rw [hm_up_col _ _ (by decide)]; exact hu.2.2.1
    · rw [hm_up_col _ _ (by decide)]; exact hu.2.2.2
  · rw [if_neg e] at h ⊢
    exact h S hI
theorem Z_setObliging {s : Sp} {S : hm_S} (hI : IZ s S T) (x : Int32) {Q : Int32 → hm_S → hm_T → Prop} (h : ∀ S' T', IZ (r_setObliging s x).2 S' T' → Q (r_setObliging s x).1 S' T') : wp_11_setObliging x S T Q := by
  unfold wp_11_setObliging wp_11_changesRules
  unfold r_setObliging at h
  by_cases e : x &&& (-2047) = 0
  · obtain ⟨n, h1, h2⟩ := mask_ob e
    rw [if_pos e] at h
    obtain ⟨ρ, tx, q, hs⟩ := s
    have hu : ruM ρ S := hI.2.1
    rw [if_neg (show ¬ x < 0 by rw [h2]; exact nI_pos (by omega)), if_pos e]
    rw [h2, nI_clamp (show n < 2 ^ 31 by omega)] at h
    rw [hu.2.1, h2]
    refine h _ T (hI.rul ((fr.up _ _ _ (by decide)).tr (fr.up _ _ _ (by decide))) (fun j hj => ?_) ⟨?_, ?_, ?_, ?_⟩ (hm_up_same _ _ _ _))
    · rw [hm_up_col _ _ (by revert j; decide), hm_up_col _ _ (by revert j; decide)]
    · rw [hm_up_row _ _ _ (by decide), hm_up_row _ _ _ (by decide)]; exact hu.1
    · rw [hm_up_col _ _ (by decide), hm_up_same]
    · rw [hm_up_col _ _ (by decide), hm_up_col _ _ (by decide)]; exact hu.2.2.1
    · rw [hm_up_col _ _ (by decide), hm_up_col _ _ (by decide)]; exact hu.2.2.2
  · rw [if_neg e] at h
    by_cases g : x < 0
    · rw [if_pos g]; exact h S T hI
    · rw [if_neg g, if_neg e]; exact h S T hI
def r_setGrowing (s : Sp) (x : Int32) : Int32 × Sp := if x &&& (-1023) = 0 then (nI s.1.2.2.1, ((s.1.1, s.1.2.1, x.toNatClampNeg, s.1.2.2.2), s.2)) else (-2, s)
theorem ok_setGrowing {s : Sp} (x : Int32) (ho : okS s) : okS (r_setGrowing s x).2 := by
  unfold r_setGrowing
  by_cases e : x &&& (-1023) = 0
  · obtain ⟨n, h1, h2⟩ := mask_gr e
    rw [if_pos e]
    refine ⟨⟨ho.1.1, ho.1.2.1, ?_, ho.1.2.2.2⟩, ho.2⟩
    show x.toNatClampNeg < 1024
    rw [h2, nI_clamp (by omega)]; exact h1
  · rw [if_neg e]; exact ho
theorem X_setGrowing {s : Sp} {S : hm_S} (hI : IX s S) (x : Int32) {Q : Int32 → hm_S → hm_T → Prop} (h : ∀ S', IX (r_setGrowing s x).2 S' → Q (r_setGrowing s x).1 S' T) : wp_10_setGrowing x S T Q := by
  unfold wp_10_setGrowing
  unfold r_setGrowing at h
  by_cases e : x &&& (-1023) = 0
  · obtain ⟨n, h1, h2⟩ := mask_gr e
    rw [if_pos e] at h ⊢
    obtain ⟨ρ, tx, q, hs⟩ := s
    have hu : ruX ρ S := hI.1.ru
    rw [h2, nI_clamp (show n < 2 ^ 31 by omega)] at h
    rw [hu.2.2.1, h2]
    have f1 : fr [1, 3] S (hm_up S 1 2 (nI n)) := fr.up _ _ _ (by decide)
    refine x_forgetAnswers (ρ' := (ρ.1, ρ.2.1, n, ρ.2.2.2)) hI.1 f1 ⟨?_, ?_, hm_up_same _ _ _ _, ?_⟩ (fun S' f2 e2 s2 => h S' (hI.rul f1 f2 e2 s2))
    · rw [hm_up_row _ _ _ (by decide)]; exact hu.1
    · rw [hm_up_col _ _ (by decide)]; exact hu.2.1
    · rw [hm_up_col _ _ (by decide)]; exact hu.2.2.2
  · rw [if_neg e] at h ⊢
    exact h S hI
theorem Z_setGrowing {s : Sp} {S : hm_S} (hI : IZ s S T) (x : Int32) {Q : Int32 → hm_S → hm_T → Prop} (h : ∀ S' T', IZ (r_setGrowing s x).2 S' T' → Q (r_setGrowing s x).1 S' T') : wp_11_setGrowing x S T Q := by
  unfold wp_11_setGrowing wp_11_changesRules
  unfold r_setGrowing at h
  by_cases e : x &&& (-1023) = 0
  · obtain ⟨n, h1, h2⟩ := mask_gr e
    rw [if_pos e] at h
    obtain ⟨ρ, tx, q, hs⟩ := s
    have hu : ruM ρ S := hI.2.1
    rw [if_neg (show ¬ x < 0 by rw [h2]; exact nI_pos (by omega)), if_pos e]
    rw [h2, nI_clamp (show n < 2 ^ 31 by omega)] at h
    rw [hu.2.2.1, h2]
    refine h _ T (hI.rul ((fr.up _ _ _ (by decide)).tr (fr.up _ _ _ (by decide))) (fun j hj => ?_) ⟨?_, ?_, ?_, ?_⟩ (hm_up_same _ _ _ _))
    · rw [hm_up_col _ _ (by revert j; decide), hm_up_col _ _ (by revert j; decide)]
    · rw [hm_up_row _ _ _ (by decide), hm_up_row _ _ _ (by decide)]; exact hu.1
    · rw [hm_up_col _ _ (by decide), hm_up_col _ _ (by decide)]; exact hu.2.1
    · rw [hm_up_col _ _ (by decide), hm_up_same]
    · rw [hm_up_col _ _ (by decide), hm_up_col _ _ (by decide)]; exact hu.2.2.2
  · rw [if_neg e] at h
    by_cases g : x < 0
    · rw [if_pos g]; exact h S T hI
    · rw [if_neg g, if_neg e]; exact h S T hI
def r_setMisere (s : Sp) (x : Int32) : Int32 × Sp := (nI s.1.2.2.2, ((s.1.1, s.1.2.1, s.1.2.2.1, if x = 0 then 0 else 1), s.2))
theorem ok_setMisere {s : Sp} (x : Int32) (ho : okS s) : okS (r_setMisere s x).2 := ⟨⟨ho.1.1, ho.1.2.1, ho.1.2.2.1, by
  show (if x = 0 then 0 else 1) < 2
  by_cases e : x = 0 <;> simp [e]⟩, ho.2⟩
theorem X_setMisere {s : Sp} {S : hm_S} (hI : IX s S) (x : Int32) {Q : Int32 → hm_S → hm_T → Prop} (h : ∀ S', IX (r_setMisere s x).2 S' → Q (r_setMisere s x).1 S' T) : wp_10_setMisere x S T Q := by
  obtain ⟨ρ, tx, q, hs⟩ := s
  have hu : ruX ρ S := hI.1.ru
  have go : ∀ b, (∀ S', IX ((ρ.1, ρ.2.1, ρ.2.2.1, b), tx, q, hs) S' → Q (nI ρ.2.2.2) S' T) → wb_10_setMisere_21 Q (S 1 3) (nI b) S T := by
    intro b h'
    unfold wb_10_setMisere_21
    rw [hu.2.2.2]
    have f1 : fr [1, 3] S (hm_up S 1 3 (nI b)) := fr.up _ _ _ (by decide)
    refine x_forgetAnswers (ρ' := (ρ.1, ρ.2.1, ρ.2.2.1, b)) hI.1 f1 ⟨?_, ?_, ?_, hm_up_same _ _ _ _⟩ (fun S' f2 e2 s2 => h' S' (hI.rul f1 f2 e2 s2))
    · rw [hm_up_row _ _ _ (by decide)]; exact hu.1
    · rw [hm_up_col _ _ (by decide)]; exact hu.2.1
    · rw [hm_up_col _ _ (by decide)]; exact hu.2.2.1
  unfold wp_10_setMisere
  unfold r_setMisere at h
  by_cases e : x = 0
  · rw [if_pos e] at h ⊢; exact go 0 h
  · rw [if_neg e] at h ⊢; exact go 1 h
theorem Z_setMisere {s : Sp} (ho : okS s) {S : hm_S} (hI : IZ s S T) (x : Int32) (hx : x = 0 ∨ x = 1) {Q : Int32 → hm_S → hm_T → Prop} (h : ∀ S' T', IZ (r_setMisere s x).2 S' T' → Q (r_setMisere s x).1 S' T') : wp_11_setMisere x S T Q := by
  obtain ⟨ρ, tx, q, hs⟩ := s
  have hu : ruM ρ S := hI.2.1
  have hm : ρ.2.2.2 < 2 := ho.1.2.2.2
  unfold r_setMisere at h
  have ex : x = nI (if x = 0 then 0 else 1) := by rcases hx with e | e <;> rw [e] <;> decide
  have go : wb_11_setMisere_12 Q x (nI ρ.2.2.2) S T := by
    unfold wb_11_setMisere_12 wp_11_changesRules
    refine ⟨hx, ?_⟩
    refine h _ T (hI.rul ((fr.up _ _ _ (by decide)).tr (fr.up _ _ _ (by decide))) (fun j hj => ?_) ⟨?_, ?_, ?_, ?_⟩ (hm_up_same _ _ _ _))
    · rw [hm_up_col _ _ (by revert j; decide), hm_up_col _ _ (by revert j; decide)]
    · rw [hm_up_row _ _ _ (by decide), hm_up_row _ _ _ (by decide)]; exact hu.1
    · rw [hm_up_col _ _ (by decide), hm_up_col _ _ (by decide)]; exact hu.2.1
    · rw [hm_up_col _ _ (by decide), hm_up_col _ _ (by decide)]; exact hu.2.2.1
    · rw [hm_up_col _ _ (by decide), hm_up_same]; exact ex
  unfold wp_11_setMisere
  rw [hu.2.2.2]
  rcases (show ρ.2.2.2 = 0 ∨ ρ.2.2.2 = 1 by omega) with e | e
  · rw [e] at go ⊢; rw [if_pos (by decide)]; exact go
  · rw [e] at go ⊢; rw [if_neg (by decide)]; exact go
/-! rule -/
def a_rule (s : Sp) (x : Int32) : Int32 := match idx x 14 with
  | none => -2
  | some 0 => -2
  | some (k + 1) => if k < 10 then nI (s.1.1 (k + 1)) else if k = 10 then nI s.1.2.1 else if k = 11 then nI s.1.2.2.1 else nI s.1.2.2.2
theorem a_rule0 {s : Sp} {x : Int32} (e : idx x 14 = none ∨ idx x 14 = some 0) : a_rule s x = -2 := by
  unfold a_rule
  rcases e with e | e <;> rw [e]
theorem a_rule1 {s : Sp} {x : Int32} {k : Nat} (e : idx x 14 = some (k + 1)) : a_rule s x = if k < 10 then nI (s.1.1 (k + 1)) else if k = 10 then nI s.1.2.1 else if k = 11 then nI s.1.2.2.1 else nI s.1.2.2.2 := by
  unfold a_rule
  rw [e]
theorem x_rule {s : Sp} {S : hm_S} (hu : ruX s.1 S) (x : Int32) {Q : Int32 → hm_S → hm_T → Prop} (h : Q (a_rule s x) S T) : wp_10_rule x S T Q := by
  unfold wp_10_rule wp_6_digitOf
  rw [q_11, q_12, q_13, q_10]
  rcases x_arg1 (x := x) (n := 13) (by omega) with ⟨g, e⟩ | ⟨g1, g2, e⟩ | ⟨k, h1, h2, e, n1, n2⟩
  · rw [a_rule0 e] at h
    have ne : ∀ n, 1 ≤ n → n < 2 ^ 31 → x ≠ nI n := fun n hn hn2 e => by rw [e, q_1] at g; exact nI_nlt hn hn2 g
    rw [if_neg (ne 11 (by omega) (by omega)), if_neg (ne 12 (by omega) (by omega)), if_neg (ne 13 (by omega) (by omega)), if_pos g]; exact h
  · rw [a_rule0 (Or.inl e)] at h
    have ne : ∀ n, n ≤ 13 → x ≠ nI n := fun n hn e => by rw [e] at g2; exact nI_nlt hn (by omega) g2
    rw [if_neg (ne 11 (by omega)), if_neg (ne 12 (by omega)), if_neg (ne 13 (by omega)), if_neg g1, if_pos (Int32.lt_trans (nI_lt (show 10 < 13 by omega) (by omega)) g2)]; exact h
  · rw [a_rule1 e] at h
    rw [h2]
    by_cases k10 : k < 10
    · rw [if_pos k10] at h
      have ne : ∀ n, 11 ≤ n → n < 14 → nI (k + 1) ≠ nI n := fun n a b q => by rw [nI_eq (by omega) (by omega)] at q; omega
      rw [if_neg (ne 11 (by omega) (by omega)), if_neg (ne 12 (by omega) (by omega)), if_neg (ne 13 (by omega) (by omega)), if_neg (by rw [← h2]; exact n1), if_neg (nI_nlt (by omega) (by omega)), e_get (by omega) (by omega)]
      simp only [Nat.reduceAdd]
      rw [hu.1 (k + 1) (by omega) (by omega)]
      exact h
    · rw [if_neg k10] at h
      rcases (show k = 10 ∨ k = 11 ∨ k = 12 by omega) with w | w | w
      · rw [if_pos w] at h
        rw [w, if_pos (show nI (10 + 1) = nI 11 from rfl), hu.2.1]; exact h
      · rw [if_neg (by omega), if_pos w] at h
        rw [w, if_neg (by decide), if_pos (show nI (11 + 1) = nI 12 from rfl), hu.2.2.1]; exact h
      · rw [if_neg (by omega), if_neg (by omega)] at h
        rw [w, if_neg (by decide), if_neg (by decide), if_pos (show nI (12 + 1) = nI 13 from rfl), hu.2.2.2]; exact h
theorem z_rule {s : Sp} (ho : okS s) {S : hm_S} (hu : ruM s.1 S) (x : Int32) {Q : Int32 → hm_S → hm_T → Prop} (h : Q (a_rule s x) S T) : wp_11_rule x S T Q := by
  unfold wp_11_rule
  have hm : s.1.2.2.2 < 2 := ho.1.2.2.2
  rw [q_13]
  refine z_in1 (by omega) (fun e => ?_) (fun k h1 h2 e => ?_)
  · rw [a_rule0 e] at h; rw [if_pos rfl]; exact h
  · rw [a_rule1 e] at h
    rw [if_neg (by decide), h2, q_11]
    by_cases k10 : k < 10
    · rw [if_pos k10] at h
      rw [if_neg (nI_ge (by omega) (by omega)), nI_clamp (show k + 1 < 2 ^ 31 by omega), hu.1 (k + 1) (by omega) (by omega)]
      exact ⟨vp_in_nI (by omega) (by omega), h⟩
    · rw [if_neg k10] at h
      rw [if_pos (nI_le (by omega) (by omega))]
      rcases (show k = 10 ∨ k = 11 ∨ k = 12 by omega) with w | w | w
      · rw [if_pos w] at h
        rw [w, if_pos (show nI (10 + 1) = nI 11 from rfl), hu.2.1]; exact h
      · rw [if_neg (by omega), if_pos w] at h
        rw [w, if_neg (by decide), if_pos (by decide), hu.2.2.1]; exact h
      · rw [if_neg (by omega), if_neg (by omega)] at h
        rw [w, if_neg (by decide), if_neg (by decide), hu.2.2.2]
        rcases (show s.1.2.2.2 = 0 ∨ s.1.2.2.2 = 1 by omega) with e2 | e2
        · rw [e2] at h ⊢; rw [if_pos (by decide)]; exact h
        · rw [e2] at h ⊢; rw [if_neg (by decide)]; exact h
end RL
