/-! ===== the calls that are short, both sides ===== -/
theorem rec_ok {q : Nat} {hs : List Nat} (hq : q < 2430) (hh : ∀ p ∈ hs, p < 2430) : ∀ p ∈ rec q hs, p < 2430 := by
  intro p hp
  rcases List.mem_cons.mp (List.mem_of_mem_take hp) with e | e
  · rw [e]; exact hq
  · exact hh p e
theorem IZ.sl {c : List Nat} {s : Sp} {S S' : hm_S} {T : hm_T} (h : IZ s S T) (hf : fr c S S') (hc : ∀ a ∈ [1, 2, 4, 13, 14, 15, 16], a ∉ c) (e : ∀ k ∈ [4, 5, 6, 19], S' 0 k = S 0 k) : tabM S' T ∧ ruM s.1 S' ∧ cM s.1 S' := by
  refine ⟨h.1.fr hf (fun a ha => hc a (by revert a; decide)), ?_, ?_⟩
  · have r := h.2.1
    unfold ruM at r ⊢
    rw [hf 4 (hc 4 (by decide)), e 4 (by decide), e 5 (by decide), e 6 (by decide)]
    exact r
  · have r := h.2.2.1
    unfold cM at r ⊢
    rw [e 19 (by decide)]
    rcases r with w | ⟨w, k⟩
    · exact Or.inl w
    · exact Or.inr ⟨w, k.fr hf (fun a ha => hc a (by revert a; decide))⟩
/-- the class went to another position -/
theorem IX.go {c : List Nat} {ρ : Ru} {tx : List Nat} {q : Nat} {hs : List Nat} {p : Nat} {hs' : List Nat} {S S' : hm_S} (h : IX (ρ, tx, q, hs) S) (hf : fr c S S') (hc : ∀ a ∈ [59, 61, 64, 66], a ∉ c) (hS : SV ρ S') (e9 : S' 0 9 = nI p) (hh : HX hs' S') : IX (ρ, tx, p, hs') S' := ⟨hS, e9, hh, h.2.2.2.1.fr hf (fun a ha => hc a (by revert a; decide)), h.2.2.2.2.fr hf (fun a ha => hc a (by revert a; decide))⟩
section SI2
variable {T : hm_T}
noncomputable def a_outcome (s : Sp) : Int32 := nI (oF s.1 s.2.2.1)
theorem X_outcome {s : Sp} (ho : okS s) {S : hm_S} (hI : IX s S) {Q : Int32 → hm_S → hm_T → Prop} (h : ∀ S', IX s S' → Q (a_outcome s) S' T) : wp_10_outcome S T Q := x_outcome ho.1 hI.1 ho.2.2.1 hI.2.1 (fun S' f' s' => h S' (hI.lrn f' s'))
theorem Z_outcome {s : Sp} (ho : okS s) {S : hm_S} (hI : IZ s S T) {Q : Int32 → hm_S → hm_T → Prop} (h : ∀ S', IZ s S' T → Q (a_outcome s) S' T) : wp_11_outcome S T Q := z_outcome ho.1 hI.1 hI.2.1 hI.2.2.1 ho.2.2.1 hI.2.2.2.1 (fun S' f' h19 s' => h S' (hI.lrn f' (Or.inr ⟨h19, s'⟩)))
noncomputable def a_distance (s : Sp) : Int32 := dI s.1 s.2.2.1
theorem X_distance {s : Sp} (ho : okS s) {S : hm_S} (hI : IX s S) {Q : Int32 → hm_S → hm_T → Prop} (h : ∀ S', IX s S' → Q (a_distance s) S' T) : wp_10_distance S T Q := x_distance ho.1 hI.1 ho.2.2.1 hI.2.1 (fun S' f' s' => h S' (hI.lrn f' s'))
theorem Z_distance {s : Sp} (ho : okS s) {S : hm_S} (hI : IZ s S T) {Q : Int32 → hm_S → hm_T → Prop} (h : ∀ S', IZ s S' T → Q (a_distance s) S' T) : wp_11_distance S T Q := z_distance ho.1 hI.1 hI.2.1 hI.2.2.1 ho.2.2.1 hI.2.2.2.1 (fun S' f' h19 s' => h S' (hI.lrn f' (Or.inr ⟨h19, s'⟩)))
noncomputable def a_best (s : Sp) : Int32 := bsN s.1 s.2.2.1
theorem X_best {s : Sp} (ho : okS s) {S : hm_S} (hI : IX s S) {Q : Int32 → hm_S → hm_T → Prop} (h : ∀ S', IX s S' → Q (a_best s) S' T) : wp_10_best S T Q := x_best ho.1 hI.1 ho.2.2.1 hI.2.1 (fun S' f' s' => h S' (hI.lrn f' s'))
theorem Z_best {s : Sp} (ho : okS s) {S : hm_S} (hI : IZ s S T) {Q : Int32 → hm_S → hm_T → Prop} (h : ∀ S', IZ s S' T → Q (a_best s) S' T) : wp_11_best S T Q := z_best ho.1 hI.1 hI.2.1 hI.2.2.1 ho.2.2.1 hI.2.2.2.1 (fun S' f' c' => h S' (hI.lrn f' c'))
noncomputable def a_good (s : Sp) : Int32 := nI (gdN s.1 s.2.2.1)
theorem X_good {s : Sp} (ho : okS s) {S : hm_S} (hI : IX s S) {Q : Int32 → hm_S → hm_T → Prop} (h : ∀ S', IX s S' → Q (a_good s) S' T) : wp_10_good S T Q := x_good ho.1 hI.1 ho.2.2.1 hI.2.1 (fun S' f' s' => h S' (hI.lrn f' s'))
theorem Z_good {s : Sp} (ho : okS s) {S : hm_S} (hI : IZ s S T) {Q : Int32 → hm_S → hm_T → Prop} (h : ∀ S', IZ s S' T → Q (a_good s) S' T) : wp_11_good S T Q := z_good ho.1 hI.1 hI.2.1 hI.2.2.1 ho.2.2.1 hI.2.2.2.1 (fun S' f' c' => h S' (hI.lrn f' c'))
noncomputable def a_outcomeWith (s : Sp) (x : Int32) : Int32 := nI (oF s.1 (wps s.2.2.1 (if x = 0 then 0 else 1)))
theorem X_outcomeWith {s : Sp} (ho : okS s) {S : hm_S} (hI : IX s S) (x : Int32) {Q : Int32 → hm_S → hm_T → Prop} (h : ∀ S', IX s S' → Q (a_outcomeWith s x) S' T) : wp_10_outcomeWith x S T Q := x_outcomeWith ho.1 hI.1 ho.2.2.1 hI.2.1 x (fun S' f' s' => h S' (hI.lrn f' s'))
theorem Z_outcomeWith {s : Sp} (ho : okS s) {S : hm_S} (hI : IZ s S T) (x : Int32) {Q : Int32 → hm_S → hm_T → Prop} (h : ∀ S' T', IZ s S' T' → Q (a_outcomeWith s x) S' T') : wp_11_outcomeWith x S T Q := z_outcomeWith ho.1 hI.1 hI.2.1 hI.2.2.1 ho.2.2.1 hI.2.2.2.1 x (fun S' f' c' => h S' T (hI.lrn f' c'))
/-! undo -/
def r_undo (s : Sp) : Int32 × Sp := match s.2.2.2 with
  | [] => (-3, s)
  | p :: hs => (nI hs.length, (s.1, s.2.1, p, hs))
theorem ok_undo {s : Sp} (ho : okS s) : okS (r_undo s).2 := by
  obtain ⟨ρ, tx, q, hs⟩ := s
  cases hs with
  | nil => exact ho
  | cons p hs => exact ⟨ho.1, ho.2.1, ho.2.2.2 p (List.mem_cons_self), fun a ha => ho.2.2.2 a (List.mem_cons_of_mem _ ha)⟩
theorem X_undo {s : Sp} {S : hm_S} (hI : IX s S) {Q : Int32 → hm_S → hm_T → Prop} (h : ∀ S', IX (r_undo s).2 S' → Q (r_undo s).1 S' T) : wp_10_undo S T Q := by
  obtain ⟨ρ, tx, q, hs⟩ := s
  cases hs with
  | nil => exact x_undo0 hI.2.2.1 (h S hI)
  | cons p hs => exact x_undo1 hI.2.2.1 (fun S' f' k' e' hh' => h S' (hI.go f' (by decide) (hI.1.fr f' (by decide)) e' hh'))
theorem Z_undo {s : Sp} {S : hm_S} (hI : IZ s S T) {Q : Int32 → hm_S → hm_T → Prop} (h : ∀ S' T', IZ (r_undo s).2 S' T' → Q (r_undo s).1 S' T') : wp_11_undo S T Q := by
  obtain ⟨ρ, tx, q, hs⟩ := s
  cases hs with
  | nil => exact z_undo0 hI.2.2.2.2.1 (h S T hI)
  | cons p hs =>
    refine z_undo1 hI.2.2.2.2.1 (fun S' f' k' e' hh' => h S' T ?_)
    obtain ⟨a, b, d⟩ := hI.sl f' (by decide) (fun k hk => k' k (by revert k; decide) (by revert k; decide))
    exact ⟨a, b, d, e', hh', hI.2.2.2.2.2.fr0 f' (by decide) (k' 25 (by decide) (by decide))⟩
/-! setPass -/
def r_setPass (s : Sp) (x : Int32) : Int32 × Sp := (nI (s.2.2.1 % 2), (s.1, s.2.1, wps s.2.2.1 (if x = 0 then 0 else 1), rec s.2.2.1 s.2.2.2))
theorem ok_setPass {s : Sp} (x : Int32) (ho : okS s) : okS (r_setPass s x).2 := ⟨ho.1, ho.2.1, wps_lt ho.2.2.1 (by by_cases e : x = 0 <;> simp [e]), rec_ok ho.2.2.1 ho.2.2.2⟩
theorem X_setPass {s : Sp} (ho : okS s) {S : hm_S} (hI : IX s S) (x : Int32) {Q : Int32 → hm_S → hm_T → Prop} (h : ∀ S', IX (r_setPass s x).2 S' → Q (r_setPass s x).1 S' T) : wp_10_setPass x S T Q := by
  obtain ⟨ρ, tx, q, hs⟩ := s
  exact x_setPass ho.2.2.1 hI.2.1 hI.2.2.1 x (fun S' f' k' e' hh' => h S' (hI.go f' (by decide) (hI.1.fr f' (by decide)) e' hh'))
theorem Z_setPass {s : Sp} (ho : okS s) {S : hm_S} (hI : IZ s S T) (x : Int32) {Q : Int32 → hm_S → hm_T → Prop} (h : ∀ S' T', IZ (r_setPass s x).2 S' T' → Q (r_setPass s x).1 S' T') : wp_11_setPass x S T Q := by
  obtain ⟨ρ, tx, q, hs⟩ := s
  have hq : q < 2430 := ho.2.2.1
  have hp := pM_lt hq
  have e7 : S 0 7 = nI (pM q) := hI.2.2.2.1
  unfold wp_11_setPass
  refine z_keeps hI.2.2.2.2.1 e7 (fun S1 f1 h1 => ?_)
  have e71 : S1 0 7 = nI (pM q) := by rw [f1.2 7 (by decide)]; exact e7
  rw [e71]
  refine z_withPass hq x ?_
  rw [q_2, n_rem2 (by omega), show pM q % 2 = q % 2 by unfold pM; omega]
  have f2 : fr [0] S1 (hm_up S1 0 7 (nI (pM (wps q (if x = 0 then 0 else 1))))) := fr.up _ _ _ (by decide)
  have k2 : ∀ k, k ≠ 7 → k ≠ 9 → hm_up S1 0 7 (nI (pM (wps q (if x = 0 then 0 else 1)))) 0 k = S 0 k := fun k a b => by rw [hm_up_col _ _ a, f1.2 k b]
  have fA : fr [0, 5] S (hm_up S1 0 7 (nI (pM (wps q (if x = 0 then 0 else 1))))) := f1.1.tr (f2.mono (by decide))
  obtain ⟨a, b, d⟩ := hI.sl fA (by decide) (fun k hk => k2 k (by revert k; decide) (by revert k; decide))
  exact h _ T ⟨a, b, d, hm_up_same _ _ _ _, h1.fr0 f2 (by decide) (hm_up_col _ _ (by decide)), hI.2.2.2.2.2.fr0 fA (by decide) (k2 25 (by decide) (by decide))⟩
/-! play -/
def r_play (s : Sp) (x : Int32) : Int32 × Sp := match idx x (mv s.1 s.2.2.1).length with
  | none => (-2, s)
  | some i => match (mv s.1 s.2.2.1)[i]? with
    | none => (-2, s)
    | some m => (nI (cnt (tgt m / 2)), (s.1, s.2.1, tgt m, rec s.2.2.1 s.2.2.2))
theorem r_play0 {s : Sp} {x : Int32} (e : idx x (mv s.1 s.2.2.1).length = none) : r_play s x = (-2, s) := by unfold r_play; rw [e]
theorem r_play1 {s : Sp} {x : Int32} {i : Nat} {m : Mv} (e : idx x (mv s.1 s.2.2.1).length = some i) (hm : (mv s.1 s.2.2.1)[i]? = some m) : r_play s x = (nI (cnt (tgt m / 2)), (s.1, s.2.1, tgt m, rec s.2.2.1 s.2.2.2)) := by unfold r_play; rw [e]; simp only []; rw [hm]
theorem mv_31 {ρ : Ru} {q : Nat} (hq : q < 2430) : (mv ρ q).length ≤ 31 := Nat.le_trans mv_len (tq_mvB hq)
theorem ok_play {s : Sp} (x : Int32) (ho : okS s) : okS (r_play s x).2 := by
  have hl := mv_31 (ρ := s.1) ho.2.2.1
  rcases idx_c x (n := (mv s.1 s.2.2.1).length) (by omega) with ⟨g, e⟩ | ⟨g1, g2, e⟩ | ⟨i, h1, h2, e⟩
  · rw [r_play0 e]; exact ho
  · rw [r_play0 e]; exact ho
  · obtain ⟨m, hm⟩ : ∃ m, (mv s.1 s.2.2.1)[i]? = some m := ⟨_, List.getElem?_eq_getElem h1⟩
    rw [r_play1 e hm]
    exact ⟨ho.1, ho.2.1, tgt_lt ho.2.2.1 m (List.mem_of_getElem? hm), rec_ok ho.2.2.1 ho.2.2.2⟩
theorem X_play {s : Sp} (ho : okS s) {S : hm_S} (hI : IX s S) (x : Int32) {Q : Int32 → hm_S → hm_T → Prop} (h : ∀ S', IX (r_play s x).2 S' → Q (r_play s x).1 S' T) : wp_10_play x S T Q := by
  have hl := mv_31 (ρ := s.1) ho.2.2.1
  refine x_play ho.1 hI.1 ho.2.2.1 hI.2.1 hI.2.2.1 x (fun hn S' f' s' => ?_) (fun i m hx hm S' f' k' e' hh' s' => ?_)
  · rw [r_play0 (idx_none (by omega) hn)] at h
    exact h S' (hI.lst f' s')
  · have hi := (List.getElem?_eq_some_iff.mp hm).1
    rw [r_play1 (by rw [hx]; exact idx_nI hi (by omega)) hm] at h
    obtain ⟨ρ, tx, q, hs⟩ := s
    exact h S' (hI.go f' (by decide) s' e' hh')
theorem Z_play {s : Sp} (ho : okS s) {S : hm_S} (hI : IZ s S T) (x : Int32) {Q : Int32 → hm_S → hm_T → Prop} (h : ∀ S' T', IZ (r_play s x).2 S' T' → Q (r_play s x).1 S' T') : wp_11_play x S T Q := by
  have hl := mv_31 (ρ := s.1) ho.2.2.1
  refine z_play ho.1 hI.1 hI.2.1 hI.2.2.1 ho.2.2.1 hI.2.2.2.1 hI.2.2.2.2.1 x (fun hn S' f' c' => ?_) (fun i m hx hm S' f' k' e' hh' c' t' => ?_)
  · rw [r_play0 (idx_none (by omega) hn)] at h
    exact h S' T (hI.lrn f' c')
  · have hi := (List.getElem?_eq_some_iff.mp hm).1
    rw [r_play1 (by rw [hx]; exact idx_nI hi (by omega)) hm] at h
    obtain ⟨ρ, tx, q, hs⟩ := s
    have u' : ruM ρ S' := by
      have r := hI.2.1
      unfold ruM at r ⊢
      rw [f' 4 (by decide), k' 4 (by decide) (by decide) (by decide) (by decide) (by decide), k' 5 (by decide) (by decide) (by decide) (by decide) (by decide), k' 6 (by decide) (by decide) (by decide) (by decide) (by decide)]
      exact r
    exact h S' T ⟨t', u', c', e', hh', hI.2.2.2.2.2.fr0 f' (by decide) (k' 25 (by decide) (by decide) (by decide) (by decide) (by decide))⟩
/-! type and erase -/
def r_type (s : Sp) (x : Int32) : Int32 × Sp := match idx x 128 with
  | none => (-2, s)
  | some c => if s.2.1.length = 40 then (-4, s) else (nI (s.2.1.length + 1), (s.1, s.2.1 ++ [c], s.2.2.1, s.2.2.2))
theorem idx_128 {x : Int32} (h : x < 0 ∨ ¬ x ≤ 127) : idx x 128 = none := by
  refine idx_none (by omega) (fun i hi e => ?_)
  rw [e] at h
  rcases h with h | h
  · exact nI_pos (by omega) h
  · rw [q_127] at h; exact h (nI_le (by omega) (by omega))
theorem idx_128s {x : Int32} {c : Nat} (h1 : x ≤ 127) (e : x = nI c) (h0 : ¬ x < 0) : ∃ c', idx x 128 = some c' ∧ x = nI c' ∧ c' < 128 := by
  rcases idx_c x (n := 128) (by omega) with ⟨g, -⟩ | ⟨g1, g2, -⟩ | ⟨i, k1, k2, k3⟩
  · exact absurd g h0
  · rw [q_127] at h1; exact absurd h1 (nI_out (by omega) g2)
  · exact ⟨i, k3, k2, k1⟩
theorem ok_type {s : Sp} (x : Int32) (ho : okS s) : okS (r_type s x).2 := by
  unfold r_type
  rcases idx_c x (n := 128) (by omega) with ⟨g, e⟩ | ⟨g1, g2, e⟩ | ⟨i, h1, h2, e⟩
  · rw [e]; exact ho
  · rw [e]; exact ho
  · rw [e]
    simp only []
    by_cases q : s.2.1.length = 40
    · rw [if_pos q]; exact ho
    · rw [if_neg q]
      refine ⟨ho.1, fun c hc => ?_, ho.2.2⟩
      rcases List.mem_append.mp hc with w | w
      · exact ho.2.1 c w
      · rw [show c = i by simpa using w]; exact h1
theorem nI_inj2 {a b : Nat} (ha : a < 2 ^ 31) (hb : b < 2 ^ 31) (h : nI a = nI b) : a = b := (nI_eq ha hb).mp h
theorem TX.snoc {tx : List Nat} {c d : Nat} {S : hm_S} (h : TX (tx ++ [c]) S) (e : nI c = nI d) : TX (tx ++ [d]) S := by
  obtain ⟨h1, h2, h3⟩ := h
  refine ⟨by rw [h1]; simp, by simpa using h2, fun i b hb => ?_⟩
  rcases gE_last hb with ⟨b1, b2⟩ | ⟨b1, b2⟩
  · exact h3 i b (by rw [List.getElem?_append_left b1]; exact b2)
  · rw [b2, ← e]
    exact h3 i c (by rw [b1]; simp)
theorem TM.snoc {tx : List Nat} {c d : Nat} {S : hm_S} (h : TM (tx ++ [c]) S) (e : nI c = nI d) : TM (tx ++ [d]) S := by
  obtain ⟨h1, h2, h3⟩ := h
  refine ⟨by rw [h1]; simp, by simpa using h2, fun i b hb => ?_⟩
  rcases gE_last hb with ⟨b1, b2⟩ | ⟨b1, b2⟩
  · exact h3 i b (by rw [List.getElem?_append_left b1]; exact b2)
  · rw [b2, ← e]
    exact h3 i c (by rw [b1]; simp)
theorem X_type {s : Sp} {S : hm_S} (hI : IX s S) (x : Int32) {Q : Int32 → hm_S → hm_T → Prop} (h : ∀ S', IX (r_type s x).2 S' → Q (r_type s x).1 S' T) : wp_10_type x S T Q := by
  obtain ⟨ρ, tx, q, hs⟩ := s
  unfold r_type at h
  refine x_type hI.2.2.2.1 x (fun hn => ?_) (fun h0 h1 hl => ?_) (fun c h0 h1 hc hl S' f' t' => ?_)
  · rw [idx_128 hn] at h; exact h S hI
  · obtain ⟨j, -, hj⟩ := nI_of h0
    obtain ⟨c', e', -⟩ := idx_128s h1 hj h0
    rw [e'] at h
    simp only [] at h
    rw [if_pos hl] at h
    exact h S hI
  · obtain ⟨c', e', e2, -⟩ := idx_128s h1 hc h0
    rw [e'] at h
    simp only [] at h
    rw [if_neg (show ¬ tx.length = 40 from Nat.ne_of_lt hl)] at h
    exact h S' ⟨hI.1.fr f' (by decide), by rw [f' 0 (by decide)]; exact hI.2.1, hI.2.2.1.fr f' (by decide), t'.snoc (hc.symm.trans e2), hI.2.2.2.2.fr f' (by decide)⟩
theorem Z_type {s : Sp} {S : hm_S} (hI : IZ s S T) (x : Int32) {Q : Int32 → hm_S → hm_T → Prop} (h : ∀ S' T', IZ (r_type s x).2 S' T' → Q (r_type s x).1 S' T') : wp_11_type x S T Q := by
  obtain ⟨ρ, tx, q, hs⟩ := s
  unfold r_type at h
  refine z_type hI.2.2.2.2.2 x (fun hn => ?_) (fun h0 h1 hl => ?_) (fun c h0 h1 hc hl S' f' k' t' => ?_)
  · rw [idx_128 hn] at h; exact h S T hI
  · obtain ⟨j, -, hj⟩ := nI_of h0
    obtain ⟨c', e', -⟩ := idx_128s h1 hj h0
    rw [e'] at h
    simp only [] at h
    rw [if_pos hl] at h
    exact h S T hI
  · obtain ⟨c', e', e2, -⟩ := idx_128s h1 hc h0
    rw [e'] at h
    simp only [] at h
    rw [if_neg (show ¬ tx.length = 40 from Nat.ne_of_lt hl)] at h
    obtain ⟨a, b, d⟩ := hI.sl f' (by decide) (fun k hk => k' k (by revert k; decide))
    exact h S' T ⟨a, b, d, by rw [k' 7 (by decide)]; exact hI.2.2.2.1, hI.2.2.2.2.1.fr0 f' (by decide) (k' 9 (by decide)), t'.snoc (hc.symm.trans e2)⟩
def r_erase (s : Sp) : Int32 × Sp := (nI s.2.1.length, (s.1, [], s.2.2.1, s.2.2.2))
theorem ok_erase {s : Sp} (ho : okS s) : okS (r_erase s).2 := ⟨ho.1, fun c hc => absurd hc (by simp [r_erase]), ho.2.2⟩
theorem X_erase {s : Sp} {S : hm_S} (hI : IX s S) {Q : Int32 → hm_S → hm_T → Prop} (h : ∀ S', IX (r_erase s).2 S' → Q (r_erase s).1 S' T) : wp_10_erase S T Q := by
  obtain ⟨ρ, tx, q, hs⟩ := s
  exact x_erase hI.2.2.2.1 (fun S' f' t' => h S' ⟨hI.1.fr f' (by decide), by rw [f' 0 (by decide)]; exact hI.2.1, hI.2.2.1.fr f' (by decide), t', hI.2.2.2.2.fr f' (by decide)⟩)
theorem Z_erase {s : Sp} {S : hm_S} (hI : IZ s S T) {Q : Int32 → hm_S → hm_T → Prop} (h : ∀ S' T', IZ (r_erase s).2 S' T' → Q (r_erase s).1 S' T') : wp_11_erase S T Q := by
  obtain ⟨ρ, tx, q, hs⟩ := s
  refine z_erase hI.2.2.2.2.2 (fun S' f' k' t' => ?_)
  obtain ⟨a, b, d⟩ := hI.sl f' (by decide) (fun k hk => k' k (by revert k; decide))
  exact h S' T ⟨a, b, d, by rw [k' 7 (by decide)]; exact hI.2.2.2.1, hI.2.2.2.2.1.fr0 f' (by decide) (k' 9 (by decide)), t'⟩
end SI2
