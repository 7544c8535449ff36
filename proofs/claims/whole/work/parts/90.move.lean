/-! ===== move, both sides ===== -/
noncomputable def mvP (ρ : Ru) (m : Mv) (w : Nat) : Int32 := if w = 0 then nI m.1 else if w = 1 then nI m.2.1 else if w = 2 then nI m.2.2.1 else if w = 3 then nI m.2.2.2.1 else if w = 4 then nI m.2.2.2.2.1 else if w = 5 then nI (oF ρ (tgt m)) else dI ρ (tgt m)
section MO
variable {T : hm_T}
theorem x_prop {ρ : Ru} {q i w : Nat} {m : Mv} {S : hm_S} (hq : q < 2430) (hm : ml (mv ρ q) S) (hmi : (mv ρ q)[i]? = some m) (hw : w < 7) (hk : 5 ≤ w → ∃ kn, KN kn S ∧ solX ρ kn S ∧ tgt m ∈ kn) {Q : Int32 → hm_S → hm_T → Prop} (h : Q (mvP ρ m w) S T) : wp_10_propertyOfMove (nI i) (nI w) S T Q := by
  have hl := mv_31 (ρ := ρ) hq
  have hi := (List.getElem?_eq_some_iff.mp hmi).1
  obtain ⟨m0, m1, m2, m3, m4, m5⟩ := hm.2 i m hmi
  unfold wp_10_propertyOfMove wp_3_targetOf
  rcases (show w = 0 ∨ w = 1 ∨ w = 2 ∨ w = 3 ∨ w = 4 ∨ w = 5 ∨ w = 6 by omega) with e | e | e | e | e | e | e
  · subst e
    rw [if_pos (by decide), e_get (by omega) (by omega)]
    simp only [Nat.reduceAdd]
    rw [m0]; exact h
  · subst e
    rw [if_neg (by decide), if_pos (by decide), e_get (by omega) (by omega)]
    simp only [Nat.reduceAdd]
    rw [m1]; exact h
  · subst e
    rw [if_neg (by decide), if_neg (by decide), if_pos (by decide), e_get (by omega) (by omega)]
    simp only [Nat.reduceAdd]
    rw [m2]; exact h
  · subst e
    rw [if_neg (by decide), if_neg (by decide), if_neg (by decide), if_pos (by decide), e_get (by omega) (by omega)]
    simp only [Nat.reduceAdd]
    rw [m3]; exact h
  · subst e
    rw [if_neg (by decide), if_neg (by decide), if_neg (by decide), if_neg (by decide), if_pos (by decide), e_get (by omega) (by omega)]
    simp only [Nat.reduceAdd]
    rw [m4]; exact h
  · subst e
    obtain ⟨kn, k1, k2, k3⟩ := hk (by omega)
    rw [if_neg (by decide), if_neg (by decide), if_neg (by decide), if_neg (by decide), if_neg (by decide), if_pos (by decide), e_get (by omega) (by omega)]
    simp only [Nat.reduceAdd]
    rw [m5]
    exact x_outcomeOf k1 k2 k3 h
  · subst e
    obtain ⟨kn, k1, k2, k3⟩ := hk (by omega)
    rw [if_neg (by decide), if_neg (by decide), if_neg (by decide), if_neg (by decide), if_neg (by decide), if_neg (by decide), e_get (by omega) (by omega)]
    simp only [Nat.reduceAdd]
    rw [m5]
    exact x_distanceOf k1 k2 k3 h
theorem z_part {ρ : Ru} {q i w : Nat} {m : Mv} {S : hm_S} (hq : q < 2430) (hs : solM ρ S) (hm : mlM (mv ρ q) S) (hmi : (mv ρ q)[i]? = some m) (hw : w < 7) {Q : Int32 → hm_S → hm_T → Prop} (h : Q (mvP ρ m w) S T) : wp_11_part (nI i) (nI w) S T Q := by
  have hl := mv_31 (ρ := ρ) hq
  have hi := (List.getElem?_eq_some_iff.mp hmi).1
  have htl := tgt_lt hq m (List.mem_of_getElem? hmi)
  have hpt := pM_lt htl
  obtain ⟨m0, m1, m2, m3, m4, m5⟩ := hm.2 i m hmi
  have v : vp_in (nI i) 64 := vp_in_nI (by omega) (by omega)
  have v2 : vp_in (nI (pM (tgt m))) 2430 := vp_in_nI (by omega) (by omega)
  unfold wp_11_part
  rw [nI_clamp (show i < 2 ^ 31 by omega), m0, m1, m2, m3, m4, m5, nI_clamp (show pM (tgt m) < 2 ^ 31 by omega), (hs.2.2 _ htl).1, (hs.2.2 _ htl).2]
  rcases (show w = 0 ∨ w = 1 ∨ w = 2 ∨ w = 3 ∨ w = 4 ∨ w = 5 ∨ w = 6 by omega) with e | e | e | e | e | e | e
  · subst e; rw [if_pos (by decide)]; exact ⟨v, h⟩
  · subst e; rw [if_neg (by decide), if_pos (by decide)]; exact ⟨v, h⟩
  · subst e; rw [if_neg (by decide), if_neg (by decide), if_pos (by decide)]; exact ⟨v, h⟩
  · subst e; rw [if_neg (by decide), if_neg (by decide), if_neg (by decide), if_pos (by decide)]; exact ⟨v, h⟩
  · subst e; rw [if_neg (by decide), if_neg (by decide), if_neg (by decide), if_neg (by decide), if_pos (by decide)]; exact ⟨v, h⟩
  · subst e; rw [if_neg (by decide), if_neg (by decide), if_neg (by decide), if_neg (by decide), if_neg (by decide), if_pos (by decide)]; exact ⟨v, v2, h⟩
  · subst e; rw [if_neg (by decide), if_neg (by decide), if_neg (by decide), if_neg (by decide), if_neg (by decide), if_neg (by decide)]; exact ⟨v, v2, h⟩
noncomputable def a_move (s : Sp) (x y : Int32) : Int32 := match idx x (mv s.1 s.2.2.1).length with
  | none => -2
  | some i => match idx y 7 with
    | none => -2
    | some w => match (mv s.1 s.2.2.1)[i]? with
      | none => -2
      | some m => mvP s.1 m w
theorem a_move0 {s : Sp} {x y : Int32} (e : idx x (mv s.1 s.2.2.1).length = none) : a_move s x y = -2 := by unfold a_move; rw [e]
theorem a_move1 {s : Sp} {x y : Int32} (e : idx y 7 = none) : a_move s x y = -2 := by
  unfold a_move
  cases idx x (mv s.1 s.2.2.1).length with
  | none => rfl
  | some i => simp only []; rw [e]
theorem a_move2 {s : Sp} {x y : Int32} {i w : Nat} {m : Mv} (e : idx x (mv s.1 s.2.2.1).length = some i) (e2 : idx y 7 = some w) (hm : (mv s.1 s.2.2.1)[i]? = some m) : a_move s x y = mvP s.1 m w := by unfold a_move; rw [e]; simp only []; rw [e2]; simp only []; rw [hm]
theorem X_move {s : Sp} (ho : okS s) {S : hm_S} (hI : IX s S) (x y : Int32) {Q : Int32 → hm_S → hm_T → Prop} (h : ∀ S', IX s S' → Q (a_move s x y) S' T) : wp_10_move x y S T Q := by
  have hl := mv_31 (ρ := s.1) ho.2.2.1
  have hq := ho.2.2.1
  unfold wp_10_move wb_10_move_48
  rw [hI.2.1]
  obtain ⟨kn, hx, hs'⟩ := id hI.1
  refine x_list ho.1 hq hx.1 hx.2.1 (hx.2.2.1 _ hq) (fun S1 f1 h12 hm => ?_)
  have hI1 : IX s S1 := hI.lst f1 (hI.1.fm f1 (lcX.mk hq h12 hm))
  rw [hm.1]
  rcases idx_c x (n := (mv s.1 s.2.2.1).length) (by omega) with ⟨g, e⟩ | ⟨g1, g2, e⟩ | ⟨i, h1, h2, e⟩
  · rw [a_move0 e] at h; rw [if_pos g]; exact h S1 hI1
  · rw [a_move0 e] at h; rw [if_neg g1, if_pos g2]; exact h S1 hI1
  · obtain ⟨m, hmi⟩ : ∃ m, (mv s.1 s.2.2.1)[i]? = some m := ⟨_, List.getElem?_eq_getElem h1⟩
    have hx0 : ¬ x < 0 := by rw [h2]; exact nI_pos (by omega)
    have hx1 : ¬ nI (mv s.1 s.2.2.1).length ≤ x := by rw [h2]; exact nI_ge h1 (by omega)
    rw [if_neg hx0, if_neg hx1]
    rcases idx_c y (n := 7) (by omega) with ⟨g, e'⟩ | ⟨g1, g2, e'⟩ | ⟨w, w1, w2, e'⟩
    · rw [a_move1 e'] at h; rw [if_pos g]; exact h S1 hI1
    · rw [a_move1 e'] at h; rw [if_neg g1, q_6, if_neg (nI_out (by omega) g2)]; exact h S1 hI1
    · rw [a_move2 e e' hmi] at h
      rw [w2, if_neg (nI_pos (by omega)), q_6, if_pos (nI_le (by omega) (by omega)), q_5, h2]
      by_cases w5 : w < 5
      · rw [if_pos (nI_lt w5 (by omega))]
        exact x_prop hq hm hmi w1 (fun q => absurd q (by omega)) (h S1 hI1)
      · rw [if_neg (nI_nlt (by omega) (by omega))]
        refine x_learnHere ho.1 hI1.1 hq hI1.2.1 (fun kn2 S2 f2 hq2 x2 h15 s2 hm2 => ?_)
        exact x_prop hq hm2 hmi w1 (fun _ => ⟨kn2, x2.2.2.2.1, s2, x2.closed hq2 _ (List.mem_map.mpr ⟨m, List.mem_of_getElem? hmi, rfl⟩)⟩) (h S2 (hI1.lrn f2 ⟨kn2, x2, Or.inr ⟨h15, s2⟩⟩))
theorem Z_move {s : Sp} (ho : okS s) {S : hm_S} (hI : IZ s S T) (x y : Int32) {Q : Int32 → hm_S → hm_T → Prop} (h : ∀ S' T', IZ s S' T' → Q (a_move s x y) S' T') : wp_11_move x y S T Q := by
  have hl := mv_31 (ρ := s.1) ho.2.2.1
  have hq := ho.2.2.1
  unfold wp_11_move
  refine z_looks ho.1 hI.1 hI.2.1 hI.2.2.1 hq hI.2.2.2.1 (fun S1 f1 t1 u1 h19 s1 hm => ?_)
  have hI1 : IZ s S1 T := hI.lrn f1 (Or.inr ⟨h19, s1⟩)
  rw [hm.1]
  refine z_in (by omega) (fun hn => ?_) (fun i hi hx => ?_)
  · rw [a_move0 (idx_none (by omega) hn)] at h
    rw [if_pos rfl]; exact h S1 T hI1
  · obtain ⟨m, hmi⟩ : ∃ m, (mv s.1 s.2.2.1)[i]? = some m := ⟨_, List.getElem?_eq_getElem hi⟩
    have e : idx x (mv s.1 s.2.2.1).length = some i := by rw [hx]; exact idx_nI hi (by omega)
    rw [if_neg (by decide), q_6]
    refine z_inI (by omega) (fun e' => ?_) (fun w w1 w2 e' => ?_)
    · rw [a_move1 e'] at h
      rw [if_pos rfl]; exact h S1 T hI1
    · rw [a_move2 e e' hmi] at h
      rw [if_neg (by decide), hx, w2]
      exact z_part hq s1 hm hmi (by omega) (h S1 T hI1)
end MO
/-! ===== the best move is a move ===== -/
theorem gst_n1 : ∀ (l : List Nat) g, g ≠ 1 → l.foldl gst g ≠ 1 := by
  intro l
  induction l with
  | nil => intro g hg; exact hg
  | cons a l ih =>
    intro g hg
    rw [List.foldl_cons]
    refine ih _ ?_
    unfold gst
    by_cases k : a = 0 ∨ g = 0
    · rw [if_pos k]; omega
    · rw [if_neg k]
      by_cases k2 : a = 2
      · rw [if_pos k2]; omega
      · rw [if_neg k2]; exact hg
theorem gst_all : ∀ (l : List Nat) g, (∀ o ∈ l, o < 3) → l.foldl gst g = 1 → ∀ o ∈ l, o = 1 := by
  intro l
  induction l with
  | nil => intro g _ _ o ho; exact absurd ho (by simp)
  | cons a l ih =>
    intro g hl he o ho
    rw [List.foldl_cons] at he
    have hg : gst g a = 1 := Classical.byContradiction (fun q => gst_n1 l _ q he)
    have ha := hl a (List.mem_cons_self)
    have ha1 : a = 1 := by
      unfold gst at hg
      by_cases k : a = 0 ∨ g = 0
      · rw [if_pos k] at hg; omega
      · rw [if_neg k] at hg
        by_cases k2 : a = 2
        · rw [if_pos k2] at hg; omega
        · omega
    rcases List.mem_cons.mp ho with e | e
    · rw [e]; exact ha1
    · exact ih _ (fun o h => hl o (List.mem_cons_of_mem _ h)) he o e
theorem gst_mem : ∀ (l : List Nat) g, l.foldl gst g ∈ l ∨ l.foldl gst g = g ∨ l.foldl gst g = 0 ∧ g = 0 := by
  intro l
  induction l with
  | nil => intro g; exact Or.inr (Or.inl rfl)
  | cons a l ih =>
    intro g
    rw [List.foldl_cons]
    have hg : gst g a = a ∨ gst g a = g := by
      unfold gst
      by_cases k : a = 0 ∨ g = 0
      · rw [if_pos k]; omega
      · rw [if_neg k]
        by_cases k2 : a = 2
        · rw [if_pos k2]; omega
        · rw [if_neg k2]; omega
    rcases ih (gst g a) with h | h | ⟨h, h'⟩
    · exact Or.inl (List.mem_cons_of_mem _ h)
    · rcases hg with k | k
      · rw [h, k]; exact Or.inl (List.mem_cons_self)
      · rw [h, k]; exact Or.inr (Or.inl rfl)
    · rcases hg with k | k
      · rw [h, ← h', k]; exact Or.inl (List.mem_cons_self)
      · rw [h, ← h', k]; exact Or.inr (Or.inl rfl)
theorem gl_mem {ρ : Ru} (hr : rok ρ) {q : Nat} (hne : (mv ρ q).length ≠ 0) : ∃ t ∈ suc ρ q, oF ρ t = gl ρ q := by
  have hl : ∀ o ∈ os ρ q, o < 3 := fun o ho => by
    obtain ⟨t, -, e⟩ := List.mem_map.mp ho
    rw [← e]; exact oF_lt hr t
  have hm : gl ρ q ∈ os ρ q := by
    rcases gst_mem (os ρ q) 1 with h | h | ⟨h, h'⟩
    · exact h
    · have h0 : 0 < (os ρ q).length := by rw [os_len]; omega
      have h1 := gst_all (os ρ q) 1 hl h _ (List.getElem_mem h0)
      have h2 := List.getElem_mem h0
      rw [h1] at h2
      unfold gl
      rw [h]; exact h2
    · exact absurd h' (by decide)
  obtain ⟨t, h1, h2⟩ := List.mem_map.mp hm
  exact ⟨t, h1, h2⟩
theorem nI_ne1 {n : Nat} (h : n < 2 ^ 31) : nI n ≠ -1 := fun e => nI_pos h (by rw [e]; decide)
theorem bsF_cases {ρ : Ru} {g : Nat} : ∀ (l : List Nat) (i : Nat) (b d : Int32), i + l.length < 2 ^ 31 → (b = -1 ∨ ∃ k, k < i ∧ b = nI k) → (bsF ρ g l i b d = -1 ∧ b = -1 ∧ ∀ t ∈ l, oF ρ t ≠ g) ∨ ∃ k, k < i + l.length ∧ bsF ρ g l i b d = nI k := by
  intro l
  induction l with
  | nil =>
    intro i b d hi hb
    rcases hb with e | ⟨k, h1, h2⟩
    · exact Or.inl ⟨e, e, fun t ht => absurd ht (by simp)⟩
    · exact Or.inr ⟨k, by simpa using h1, h2⟩
  | cons t l ih =>
    intro i b d hi hb
    rw [List.length_cons] at hi ⊢
    have kp : ∀ d', (bsF ρ g l (i + 1) b d' = -1 ∧ b = -1 ∧ ∀ t ∈ l, oF ρ t ≠ g) ∨ ∃ k, k < i + (l.length + 1) ∧ bsF ρ g l (i + 1) b d' = nI k := fun d' =>
      (ih (i + 1) b d' (by omega) (hb.imp id (fun ⟨k, h1, h2⟩ => ⟨k, by omega, h2⟩))).imp id (fun ⟨k, h1, h2⟩ => ⟨k, by omega, h2⟩)
    have tk : ∀ d', ∃ k, k < i + (l.length + 1) ∧ bsF ρ g l (i + 1) (nI i) d' = nI k := fun d' => by
      rcases ih (i + 1) (nI i) d' (by omega) (Or.inr ⟨i, by omega, rfl⟩) with ⟨-, e, -⟩ | ⟨k, h1, h2⟩
      · exact absurd e (nI_ne1 (by omega))
      · exact ⟨k, by omega, h2⟩
    have kp' : b ≠ -1 → ∀ d', ∃ k, k < i + (l.length + 1) ∧ bsF ρ g l (i + 1) b d' = nI k := fun h0 d' => by
      rcases kp d' with ⟨-, e, -⟩ | r
      · exact absurd e h0
      · exact r
    simp only [bsF]
    by_cases c1 : oF ρ t = g
    · rw [if_pos c1]
      refine Or.inr ?_
      by_cases h0 : b = -1
      · rw [if_pos h0]; exact tk _
      · rw [if_neg h0]
        by_cases c2 : g = 0
        · rw [if_pos c2]
          by_cases c3 : d ≤ dI ρ t
          · rw [if_pos c3]; exact kp' h0 d
          · rw [if_neg c3]; exact tk _
        · rw [if_neg c2]
          by_cases c3 : dI ρ t ≤ d
          · rw [if_pos c3]; exact kp' h0 d
          · rw [if_neg c3]; exact tk _
    · rw [if_neg c1]
      rcases kp d with ⟨e1, e2, e3⟩ | r
      · refine Or.inl ⟨e1, e2, fun u hu => ?_⟩
        rcases List.mem_cons.mp hu with k | k
        · rw [k]; exact c1
        · exact e3 u k
      · exact Or.inr r
theorem bs_cases {ρ : Ru} (hr : rok ρ) {q : Nat} (hq : q < 2430) : (mv ρ q = [] ∧ bsN ρ q = -1) ∨ ∃ k m, (mv ρ q)[k]? = some m ∧ bsN ρ q = nI k ∧ k < 31 := by
  have hl := mv_31 (ρ := ρ) hq
  by_cases h0 : (mv ρ q).length = 0
  · have e : mv ρ q = [] := List.length_eq_zero_iff.mp h0
    refine Or.inl ⟨e, ?_⟩
    unfold bsN suc
    rw [e]
    rfl
  · obtain ⟨t, h1, h2⟩ := gl_mem hr h0
    rcases bsF_cases (ρ := ρ) (g := gl ρ q) (suc ρ q) 0 (-1) (-1) (by rw [suc_len]; omega) (Or.inl rfl) with ⟨-, -, e⟩ | ⟨k, k1, k2⟩
    · exact absurd h2 (e t h1)
    · rw [suc_len] at k1
      exact Or.inr ⟨k, _, List.getElem?_eq_getElem (by omega), k2, by omega⟩
