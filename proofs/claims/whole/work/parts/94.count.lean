/-! ===== heap, nimSum, count, both sides ===== -/
def hpP (ρ : Ru) (k w : Nat) : Int32 := if w = 0 then nI (szk k) else if w = 1 then nI (k % 2) else nI (gv ρ (szk k))
def a_heap (s : Sp) (x y : Int32) : Int32 := match idx x (len (s.2.2.1 / 2)) with
  | none => -2
  | some h => match idx y 3 with
    | none => -2
    | some w => hpP s.1 ((lay (s.2.2.1 / 2)).getD h 0) w
theorem a_heap0 {s : Sp} {x y : Int32} (e : idx x (len (s.2.2.1 / 2)) = none) : a_heap s x y = -2 := by unfold a_heap; rw [e]
theorem a_heap1 {s : Sp} {x y : Int32} (e : idx y 3 = none) : a_heap s x y = -2 := by
  unfold a_heap
  cases idx x (len (s.2.2.1 / 2)) with
  | none => rfl
  | some i => simp only []; rw [e]
theorem a_heap2 {s : Sp} {x y : Int32} {h w : Nat} (e : idx x (len (s.2.2.1 / 2)) = some h) (e2 : idx y 3 = some w) : a_heap s x y = hpP s.1 ((lay (s.2.2.1 / 2)).getD h 0) w := by unfold a_heap; rw [e]; simp only []; rw [e2]
section HP
variable {T : hm_T}
theorem x_propH {s : Sp} (ho : okS s) {S : hm_S} (hI : IX s S) {h w : Nat} (hh : h < len (s.2.2.1 / 2)) (hw : w < 3) {Q : Int32 → hm_S → hm_T → Prop} (hq : ∀ S', fr [59, 61, 63] S S' → IX s S' → Q (hpP s.1 ((lay (s.2.2.1 / 2)).getD h 0) w) S' T) : wp_10_propertyOfHeap (nI h) (nI w) S T Q := by
  have hq2 := ho.2.2.1
  have hl : s.2.2.1 / 2 < 1215 := by omega
  have hk := tq_small hl (getD_mem hh)
  unfold wp_10_propertyOfHeap
  rw [hI.2.1, e_layoutOf (by omega)]
  refine x_kindAt hI.1.tab hl hh ?_
  rcases (show w = 0 ∨ w = 1 ∨ w = 2 by omega) with e | e | e
  · subst e
    rw [if_pos (by decide), e_sizeOfKind (by omega)]
    exact hq S (fr.rf _ S) hI
  · subst e
    rw [if_neg (by decide), if_pos (by decide), e_boundOfKind (by omega)]
    exact hq S (fr.rf _ S) hI
  · subst e
    rw [if_neg (by decide), if_neg (by decide), e_sizeOfKind (by omega)]
    exact x_valueOf ho.1 hI.1.ru hI.2.2.2.2 (by omega) (fun S' f' g' => hq S' f' (hI.grn f' g'))
theorem X_heap {s : Sp} (ho : okS s) {S : hm_S} (hI : IX s S) (x y : Int32) {Q : Int32 → hm_S → hm_T → Prop} (h : ∀ S', IX s S' → Q (a_heap s x y) S' T) : wp_10_heap x y S T Q := by
  have hq := ho.2.2.1
  have hl : s.2.2.1 / 2 < 1215 := by omega
  have hlen := tq_len hl
  unfold wp_10_heap
  rcases idx_c x (n := len (s.2.2.1 / 2)) (by omega) with ⟨g, e⟩ | ⟨g1, g2, e⟩ | ⟨i, h1, h2, e⟩
  · rw [a_heap0 e] at h; rw [if_pos g]; exact h S hI
  · rw [a_heap0 e] at h
    rw [if_neg g1, hI.2.1, e_layoutOf (by omega), x_heapsOf hI.1.tab hl, if_pos g2]; exact h S hI
  · rw [h2, if_neg (nI_pos (by omega)), hI.2.1, e_layoutOf (by omega), x_heapsOf hI.1.tab hl, if_neg (nI_ge h1 (by omega))]
    rcases idx_c y (n := 3) (by omega) with ⟨g, e'⟩ | ⟨g1, g2, e'⟩ | ⟨w, w1, w2, e'⟩
    · rw [a_heap1 e'] at h; rw [if_pos g]; exact h S hI
    · rw [a_heap1 e'] at h; rw [if_neg g1, q_2, if_neg (nI_out (by omega) g2)]; exact h S hI
    · rw [a_heap2 e e'] at h
      rw [w2, if_neg (nI_pos (by omega)), q_2, if_pos (nI_le (by omega) (by omega))]
      exact x_propH ho hI h1 w1 (fun S' _ i' => h S' i')
theorem Z_heap {s : Sp} (ho : okS s) {S : hm_S} (hI : IZ s S T) (x y : Int32) {Q : Int32 → hm_S → hm_T → Prop} (h : ∀ S', IZ s S' T → Q (a_heap s x y) S' T) : wp_11_heap x y S T Q := by
  have hq := ho.2.2.1
  have hl : s.2.2.1 / 2 < 1215 := by omega
  have hlen := tq_len hl
  unfold wp_11_heap
  refine z_isHeap hq hI.1 hI.2.2.2.1 (fun e => ?_) (fun i h1 h2 e => ?_)
  · rw [a_heap0 e] at h; rw [if_pos rfl]; exact h S hI
  · rw [if_neg (by decide), q_2]
    refine z_inI (by omega) (fun e' => ?_) (fun w w1 w2 e' => ?_)
    · rw [a_heap1 e'] at h; rw [if_pos rfl]; exact h S hI
    · rw [a_heap2 e e'] at h
      have hk := tq_small hl (getD_mem h1)
      have e7 : S 0 7 = nI (2 * xpi (s.2.2.1 / 2) + s.2.2.1 % 2) := hI.2.2.2.1
      rw [if_neg (by decide), e7, h2, z_heapAt hI.1 (tq_pi hl).1 (by omega) (by rw [len_pi hl]; exact h1), mrow_at hl h1, w2]
      unfold wb_11_heap_39
      rw [← q_2]
      have ed : nI ((lay (s.2.2.1 / 2)).getD i 0 + 2) / 2 = nI (szk ((lay (s.2.2.1 / 2)).getD i 0)) := by rw [q_2, n_div2 (by omega), show ((lay (s.2.2.1 / 2)).getD i 0 + 2) / 2 = szk ((lay (s.2.2.1 / 2)).getD i 0) by unfold szk; omega]
      have er : nI ((lay (s.2.2.1 / 2)).getD i 0 + 2) - nI ((lay (s.2.2.1 / 2)).getD i 0 + 2) / 2 * 2 = nI ((lay (s.2.2.1 / 2)).getD i 0 % 2) := by rw [q_2, n_rem2 (by omega), show ((lay (s.2.2.1 / 2)).getD i 0 + 2) % 2 = (lay (s.2.2.1 / 2)).getD i 0 % 2 by omega]
      rw [er, ed]
      have hz : szk ((lay (s.2.2.1 / 2)).getD i 0) ≤ 60 := by unfold szk; omega
      rcases (show w = 0 ∨ w = 1 ∨ w = 2 by omega) with k | k | k
      · subst k
        rw [if_neg (by decide), if_pos (by decide)]
        exact h S hI
      · subst k
        rw [if_neg (by decide), if_neg (by decide), if_pos (by decide)]
        exact h S hI
      · subst k
        rw [if_pos (by decide)]
        refine z_values ho.1 hI.2.1 (fun S1 f1 v1 => ?_)
        rw [if_neg (by decide), if_neg (by decide), nI_clamp (by omega), v1 _ hz]
        exact ⟨vp_in_nI (by omega) (by omega), h S1 (hI.out f1 (by decide))⟩
/-! nimSum -/
def nsF (ρ : Ru) (acc k : Nat) : Nat := acc ^^^ gv ρ (szk k)
def a_nimSum (s : Sp) : Int32 := nI ((lay (s.2.2.1 / 2)).foldl (nsF s.1) 0)
theorem X_nimSum {s : Sp} (ho : okS s) {S : hm_S} (hI : IX s S) {Q : Int32 → hm_S → hm_T → Prop} (h : ∀ S', IX s S' → Q (a_nimSum s) S' T) : wp_10_nimSum S T Q := by
  have hq := ho.2.2.1
  have hl : s.2.2.1 / 2 < 1215 := by omega
  have hlen := tq_len hl
  have key : ∀ c i acc S, i + c = len (s.2.2.1 / 2) → ((lay (s.2.2.1 / 2)).drop i).foldl (nsF s.1) acc = (lay (s.2.2.1 / 2)).foldl (nsF s.1) 0 → IX s S → wl_10_nimSum_12 Q (c + 1) (nI (s.2.2.1 / 2)) (nI acc) (nI i) S T := by
    intro c
    induction c with
    | zero =>
      intro i acc S hi he hI
      show wb_10_nimSum_12 Q _ _ _ _ S T
      unfold wb_10_nimSum_12
      rw [x_heapsOf hI.1.tab hl, if_pos (nI_le (by omega) (by omega))]
      rw [List.drop_of_length_le (by unfold len at hi; omega)] at he
      have he : acc = (lay (s.2.2.1 / 2)).foldl (nsF s.1) 0 := he
      rw [he]
      exact h S hI
    | succ c ih =>
      intro i acc S hi he hI
      have hil : i < len (s.2.2.1 / 2) := by omega
      show wb_10_nimSum_12 Q _ _ _ _ S T
      unfold wb_10_nimSum_12
      rw [x_heapsOf hI.1.tab hl, if_neg (nI_ge hil (by omega)), q_2]
      refine x_propH ho hI hil (by omega) (fun S1 _ i1 => ?_)
      rw [show hpP s.1 ((lay (s.2.2.1 / 2)).getD i 0) 2 = nI (gv s.1 (szk ((lay (s.2.2.1 / 2)).getD i 0))) from rfl, g_xor, nI_1]
      rw [drop_c hil, List.foldl_cons] at he
      exact ih (i + 1) _ S1 (by omega) he i1
  unfold wp_10_nimSum
  rw [hI.2.1, e_layoutOf (by omega), q_0]
  exact ⟨_, key (len (s.2.2.1 / 2)) 0 0 S (by omega) rfl hI⟩
theorem Z_nimSum {s : Sp} (ho : okS s) {S : hm_S} (hI : IZ s S T) {Q : Int32 → hm_S → hm_T → Prop} (h : ∀ S' T', IZ s S' T' → Q (a_nimSum s) S' T') : wp_11_nimSum S T Q := by
  have hq := ho.2.2.1
  have hl : s.2.2.1 / 2 < 1215 := by omega
  have hlen := tq_len hl
  have hr := (tq_pi hl).1
  unfold wp_11_nimSum
  refine z_values ho.1 hI.2.1 (fun S1 f1 v1 => ?_)
  have hI1 : IZ s S1 T := hI.out f1 (by decide)
  have e7 : S1 0 7 = nI (2 * xpi (s.2.2.1 / 2) + s.2.2.1 % 2) := hI1.2.2.2.1
  have hdiv : nI (2 * xpi (s.2.2.1 / 2) + s.2.2.1 % 2) / 2 = nI (xpi (s.2.2.1 / 2)) := by rw [q_2, n_div2 (by omega), show (2 * xpi (s.2.2.1 / 2) + s.2.2.1 % 2) / 2 = xpi (s.2.2.1 / 2) by omega]
  have key : ∀ c i acc, i + c = len (s.2.2.1 / 2) → ((lay (s.2.2.1 / 2)).drop i).foldl (nsF s.1) acc = (lay (s.2.2.1 / 2)).foldl (nsF s.1) 0 → wl_11_nimSum_8 Q (c + 1) (nI acc) (nI i) S1 T := by
    intro c
    induction c with
    | zero =>
      intro i acc hi he
      show wb_11_nimSum_8 Q _ _ _ S1 T
      unfold wb_11_nimSum_8
      rw [e7, hdiv, nI_clamp (by omega), hI1.1.1 _ hr, len_pi hl, if_pos (nI_le (by omega) (by omega))]
      rw [List.drop_of_length_le (by unfold len at hi; omega)] at he
      have he : acc = (lay (s.2.2.1 / 2)).foldl (nsF s.1) 0 := he
      rw [he]
      exact ⟨vp_in_nI hr (by omega), h S1 T hI1⟩
    | succ c ih =>
      intro i acc hi he
      have hil : i < len (s.2.2.1 / 2) := by omega
      have hk := tq_small hl (getD_mem hil)
      have hz : szk ((lay (s.2.2.1 / 2)).getD i 0) ≤ 60 := by unfold szk; omega
      show wb_11_nimSum_8 Q _ _ _ S1 T
      unfold wb_11_nimSum_8
      rw [e7, hdiv, nI_clamp (by omega), hI1.1.1 _ hr, len_pi hl, if_neg (nI_ge hil (by omega)), z_heapAt hI1.1 hr (by omega) (by rw [len_pi hl]; exact hil), mrow_at hl hil, q_2, n_div2 (by omega), show ((lay (s.2.2.1 / 2)).getD i 0 + 2) / 2 = szk ((lay (s.2.2.1 / 2)).getD i 0) by unfold szk; omega, nI_clamp (by omega), v1 _ hz, g_xor, nI_1]
      rw [drop_c hil, List.foldl_cons] at he
      exact ⟨vp_in_nI hr (by omega), vp_in_nI (by omega) (by omega), ih (i + 1) _ (by omega) he⟩
  rw [q_0]
  exact ⟨_, key (len (s.2.2.1 / 2)) 0 0 (by omega) rfl⟩
/-! count -/
def cntP (s : Sp) (w : Nat) : Int32 := if w = 0 then nI (len (s.2.2.1 / 2)) else if w = 1 then nI (cnt (s.2.2.1 / 2)) else if w = 2 then nI (s.2.2.1 % 2) else if w = 3 then nI (bnd (s.2.2.1 / 2)) else if w = 4 then nI (mv s.1 s.2.2.1).length else if w = 5 then nI s.2.2.2.length else if w = 6 then nI s.2.1.length else nI (rchN s.1 s.2.2.1)
theorem XE.fw {ρ : Ru} {kn : List Nat} {i j : Nat} {S S' : hm_S} (hx : XE ρ kn i j S) (h : fw S S') : XE ρ kn i j S' := ⟨hx.1.fr h.1 (by decide), hx.2.1.fr h.1 (by decide), hx.2.2.1.fr h.1 (by decide), hx.2.2.2.1.fr h.1 (by decide) (h.2 13 (by decide)), hx.2.2.2.2.fr h.1 (by decide)⟩
theorem IX.fw {s : Sp} {S S' : hm_S} (hI : IX s S) (h : fw S S') : IX s S' := by
  refine hI.lrn (h.1.mono (by decide)) ?_
  obtain ⟨kn, hx, hs⟩ := hI.1
  refine ⟨kn, hx.fw h, ?_⟩
  rw [h.2 15 (by decide)]
  rcases hs with e | ⟨e, k⟩
  · exact Or.inl e
  · exact Or.inr ⟨e, k.fr h.1 (by decide)⟩
theorem x_numberOf {s : Sp} (ho : okS s) {S : hm_S} (hI : IX s S) {w : Nat} (hw : w < 8) (h4 : w = 4 → ml (mv s.1 s.2.2.1) S) (h7 : w = 7 → ∃ kn, s.2.2.1 ∈ kn ∧ XE s.1 kn kn.length 0 S) {Q : Int32 → hm_S → hm_T → Prop} (h : ∀ S', fw S S' → IX s S' → Q (cntP s w) S' T) : wp_10_numberOf (nI w) S T Q := by
  have hq := ho.2.2.1
  have hl : s.2.2.1 / 2 < 1215 := by omega
  have r := h S (fw.rf S) hI
  unfold wp_10_numberOf
  rcases (show w = 0 ∨ w = 1 ∨ w = 2 ∨ w = 3 ∨ w = 4 ∨ w = 5 ∨ w = 6 ∨ w = 7 by omega) with e | e | e | e | e | e | e | e
  · subst e
    rw [if_pos (by decide), hI.2.1, e_layoutOf (by omega), x_heapsOf hI.1.tab hl]; exact r
  · subst e
    rw [if_neg (by decide), if_pos (by decide), hI.2.1, e_layoutOf (by omega), x_countersOf hI.1.tab hl]; exact r
  · subst e
    rw [if_neg (by decide), if_neg (by decide), if_pos (by decide), hI.2.1, e_passOf (by omega)]; exact r
  · subst e
    rw [if_neg (by decide), if_neg (by decide), if_neg (by decide), if_pos (by decide), hI.2.1, e_layoutOf (by omega), x_boundHeapsOf hI.1.tab hl]; exact r
  · subst e
    rw [if_neg (by decide), if_neg (by decide), if_neg (by decide), if_neg (by decide), if_pos (by decide), (h4 rfl).1]; exact r
  · subst e
    obtain ⟨n, -, -, e2, -⟩ := hI.2.2.1
    rw [if_neg (by decide), if_neg (by decide), if_neg (by decide), if_neg (by decide), if_neg (by decide), if_pos (by decide), e2]; exact r
  · subst e
    rw [if_neg (by decide), if_neg (by decide), if_neg (by decide), if_neg (by decide), if_neg (by decide), if_neg (by decide), if_pos (by decide), hI.2.2.2.1.1]; exact r
  · subst e
    obtain ⟨kn, k1, k2⟩ := h7 rfl
    rw [if_neg (by decide), if_neg (by decide), if_neg (by decide), if_neg (by decide), if_neg (by decide), if_neg (by decide), if_neg (by decide), hI.2.1]
    exact x_reach k2 k1 (fun S' f' => h S' f' (hI.fw f'))
def a_count (s : Sp) (x : Int32) : Int32 := match idx x 8 with
  | none => -2
  | some w => cntP s w
theorem a_count0 {s : Sp} {x : Int32} (e : idx x 8 = none) : a_count s x = -2 := by unfold a_count; rw [e]
theorem a_count1 {s : Sp} {x : Int32} {w : Nat} (e : idx x 8 = some w) : a_count s x = cntP s w := by unfold a_count; rw [e]
theorem X_count {s : Sp} (ho : okS s) {S : hm_S} (hI : IX s S) (x : Int32) {Q : Int32 → hm_S → hm_T → Prop} (h : ∀ S', IX s S' → Q (a_count s x) S' T) : wp_10_count x S T Q := by
  have hq := ho.2.2.1
  unfold wp_10_count wb_10_count_49
  rcases idx_c x (n := 8) (by omega) with ⟨g, e⟩ | ⟨g1, g2, e⟩ | ⟨w, h1, h2, e⟩
  · rw [a_count0 e] at h; rw [if_pos g]; exact h S hI
  · rw [a_count0 e] at h; rw [if_neg g1, q_7, if_neg (nI_out (by omega) g2)]; exact h S hI
  · rw [a_count1 e] at h
    rw [h2, if_neg (nI_pos (by omega)), q_7, if_pos (nI_le (by omega) (by omega))]
    obtain ⟨kn, hx, hs'⟩ := id hI.1
    by_cases w4 : w = 4
    · rw [if_pos (by rw [w4]; rfl), hI.2.1]
      refine x_list ho.1 hq hx.1 hx.2.1 (hx.2.2.1 _ hq) (fun S1 f1 h12 hm => ?_)
      have hI1 : IX s S1 := hI.lst f1 (hI.1.fm f1 (lcX.mk hq h12 hm))
      exact x_numberOf ho hI1 h1 (fun _ => hm) (fun q => absurd q (by omega)) (fun S' _ i' => h S' i')
    · rw [if_neg (by rw [q_4, nI_eq (by omega) (by omega)]; exact w4)]
      by_cases w7 : w = 7
      · rw [if_pos (by rw [w7]), hI.2.1]
        refine x_explore ho.1 hq hx (fun kn2 S2 hq2 he2 hs2 f2 x2 => ?_)
        have hI2 : IX s S2 := by
          refine hI.lrn (f2.mono (by decide)) ⟨kn2, x2, ?_⟩
          rcases hs2 with ⟨e1, e2⟩ | e2
          · rw [e2]
            rcases hs' with e3 | ⟨e3, e4⟩
            · exact Or.inl e3
            · exact Or.inr ⟨e3, by rw [e1]; exact e4.fr f2 (by decide)⟩
          · exact Or.inl e2
        exact x_numberOf ho hI2 h1 (fun q => absurd q w4) (fun _ => ⟨kn2, hq2, x2⟩) (fun S' _ i' => h S' i')
      · rw [if_neg (by rw [nI_eq (by omega) (by omega)]; exact w7)]
        exact x_numberOf ho hI h1 (fun q => absurd q w4) (fun q => absurd q w7) (fun S' _ i' => h S' i')
theorem IZ.lrr {s : Sp} {S S' : hm_S} (h : IZ s S T) (hf : fsr S S') (hc : cM s.1 S') : IZ s S' T := by
  refine ⟨h.1.fr hf.1 (by decide), ?_, hc, by rw [hf.2 7 (by decide) (by decide) (by decide)]; exact h.2.2.2.1, h.2.2.2.2.1.fr0 hf.1 (by decide) (hf.2 9 (by decide) (by decide) (by decide)), h.2.2.2.2.2.fr0 hf.1 (by decide) (hf.2 25 (by decide) (by decide) (by decide))⟩
  have r := h.2.1
  unfold ruM at r ⊢
  rw [hf.1 4 (by decide), hf.2 4 (by decide) (by decide) (by decide), hf.2 5 (by decide) (by decide) (by decide), hf.2 6 (by decide) (by decide) (by decide)]
  exact r
theorem bndL_take {a : List Nat} {i : Nat} (h : i < a.length) : bndL (a.take (i + 1)) = bndL (a.take i) + a.getD i 0 % 2 := by
  rw [take_s h, bndL_app]
  simp [bndL]
theorem z_bounds {q : Nat} (hq : q < 2430) {S : hm_S} (ht : tabM S T) (h7 : S 0 7 = nI (pM q)) {Q : Int32 → hm_S → hm_T → Prop} (h : Q (nI (bnd (q / 2))) S T) : wp_11_bounds S T Q := by
  have hl : q / 2 < 1215 := by omega
  have hlen := tq_len hl
  have hr := (tq_pi hl).1
  have e7 : S 0 7 = nI (2 * xpi (q / 2) + q % 2) := h7
  have hdiv : nI (2 * xpi (q / 2) + q % 2) / 2 = nI (xpi (q / 2)) := by rw [q_2, n_div2 (by omega), show (2 * xpi (q / 2) + q % 2) / 2 = xpi (q / 2) by omega]
  have key : ∀ c i, i + c = len (q / 2) → wl_11_bounds_4 Q (c + 1) (nI (bndL ((lay (q / 2)).take i))) (nI i) S T := by
    intro c
    induction c with
    | zero =>
      intro i hi
      show wb_11_bounds_4 Q _ _ _ S T
      unfold wb_11_bounds_4
      rw [e7, hdiv, nI_clamp (by omega), ht.1 _ hr, len_pi hl, if_pos (nI_le (by omega) (by omega)), show i = (lay (q / 2)).length by unfold len at hi; omega, List.take_length]
      exact ⟨vp_in_nI hr (by omega), h⟩
    | succ c ih =>
      intro i hi
      have hil : i < len (q / 2) := by omega
      have hk := tq_small hl (getD_mem hil)
      have nx := ih (i + 1) (by omega)
      rw [bndL_take hil] at nx
      show wb_11_bounds_4 Q _ _ _ S T
      unfold wb_11_bounds_4
      rw [e7, hdiv, nI_clamp (by omega), ht.1 _ hr, len_pi hl, if_neg (nI_ge hil (by omega)), z_heapAt ht hr (by omega) (by rw [len_pi hl]; exact hil), mrow_at hl hil, q_2, n_rem2 (by omega), show ((lay (q / 2)).getD i 0 + 2) % 2 = (lay (q / 2)).getD i 0 % 2 by omega, nI_add, nI_1]
      exact ⟨vp_in_nI hr (by omega), nx⟩
  exact ⟨_, key (len (q / 2)) 0 (by omega)⟩
theorem Z_count {s : Sp} (ho : okS s) {S : hm_S} (hI : IZ s S T) (x : Int32) {Q : Int32 → hm_S → hm_T → Prop} (h : ∀ S', IZ s S' T → Q (a_count s x) S' T) : wp_11_count x S T Q := by
  have hq := ho.2.2.1
  have hl : s.2.2.1 / 2 < 1215 := by omega
  have hr := (tq_pi hl).1
  have hp := pM_lt hq
  unfold wp_11_count
  rcases idx_c x (n := 8) (by omega) with ⟨g, e⟩ | ⟨g1, g2, e⟩ | ⟨w, h1, h2, e⟩
  · rw [a_count0 e] at h
    have ne : ∀ n, n < 8 → x ≠ nI n := fun n hn e => by rw [e] at g; exact nI_pos (by omega) g
    rw [if_neg (show ¬ x = (0 : Int32) from ne 0 (by omega)), if_neg (show ¬ x = (1 : Int32) from ne 1 (by omega)), if_neg (show ¬ x = (2 : Int32) from ne 2 (by omega)), if_neg (show ¬ x = (3 : Int32) from ne 3 (by omega)), if_neg (show ¬ x = (4 : Int32) from ne 4 (by omega)), if_neg (show ¬ x = (5 : Int32) from ne 5 (by omega)), if_neg (show ¬ x = (6 : Int32) from ne 6 (by omega)), if_neg (show ¬ x = (7 : Int32) from ne 7 (by omega))]
    exact h S hI
  · rw [a_count0 e] at h
    have ne : ∀ n, n < 8 → x ≠ nI n := fun n hn e => by rw [e] at g2; exact nI_ge hn (by omega) g2
    rw [if_neg (show ¬ x = (0 : Int32) from ne 0 (by omega)), if_neg (show ¬ x = (1 : Int32) from ne 1 (by omega)), if_neg (show ¬ x = (2 : Int32) from ne 2 (by omega)), if_neg (show ¬ x = (3 : Int32) from ne 3 (by omega)), if_neg (show ¬ x = (4 : Int32) from ne 4 (by omega)), if_neg (show ¬ x = (5 : Int32) from ne 5 (by omega)), if_neg (show ¬ x = (6 : Int32) from ne 6 (by omega)), if_neg (show ¬ x = (7 : Int32) from ne 7 (by omega))]
    exact h S hI
  · rw [a_count1 e] at h
    rw [h2]
    rcases (show w = 0 ∨ w = 1 ∨ w = 2 ∨ w = 3 ∨ w = 4 ∨ w = 5 ∨ w = 6 ∨ w = 7 by omega) with k | k | k | k | k | k | k | k
    · subst k
      rw [if_pos (by decide), hI.2.2.2.1, q_2, n_div2 (by omega), show pM s.2.2.1 / 2 = xpi (s.2.2.1 / 2) by unfold pM; omega, nI_clamp (by omega), hI.1.1 _ hr, len_pi hl]
      exact ⟨vp_in_nI hr (by omega), h S hI⟩
    · subst k
      rw [if_neg (by decide), if_pos (by decide), hI.2.2.2.1]
      exact z_sum hI.1 (l := s.2.2.1 / 2) (p := s.2.2.1 % 2) hl (by omega) (h S hI)
    · subst k
      rw [if_neg (by decide), if_neg (by decide), if_pos (by decide), hI.2.2.2.1]
      have er : nI (pM s.2.2.1) - nI (pM s.2.2.1) / 2 * 2 = nI (s.2.2.1 % 2) := by rw [q_2, n_rem2 (by omega), show pM s.2.2.1 % 2 = s.2.2.1 % 2 by unfold pM; omega]
      rw [er]
      exact h S hI
    · subst k
      rw [if_neg (by decide), if_neg (by decide), if_neg (by decide), if_pos (by decide)]
      exact z_bounds hq hI.1 hI.2.2.2.1 (h S hI)
    · subst k
      rw [if_neg (by decide), if_neg (by decide), if_neg (by decide), if_neg (by decide), if_pos (by decide)]
      unfold wp_11_movesNow
      rw [hI.2.2.2.1]
      refine z_listsMoves ho.1 hq hI.1 hI.2.1 (fun S1 f1 hm => ?_)
      rw [hm.1]
      refine h S1 (hI.lrn f1.fs ?_)
      have r := hI.2.2.1
      unfold cM at r ⊢
      rw [f1.2 19 (by decide) (by decide)]
      rcases r with e | ⟨e, k⟩
      · exact Or.inl e
      · exact Or.inr ⟨e, k.fr f1.1 (by decide)⟩
    · subst k
      rw [if_neg (by decide), if_neg (by decide), if_neg (by decide), if_neg (by decide), if_neg (by decide), if_pos (by decide), hI.2.2.2.2.1.1]
      exact h S hI
    · subst k
      rw [if_neg (by decide), if_neg (by decide), if_neg (by decide), if_neg (by decide), if_neg (by decide), if_neg (by decide), if_pos (by decide), hI.2.2.2.2.2.1]
      exact h S hI
    · subst k
      rw [if_neg (by decide), if_neg (by decide), if_neg (by decide), if_neg (by decide), if_neg (by decide), if_neg (by decide), if_neg (by decide), if_pos (by decide)]
      exact z_reachable ho.1 hI.1 hI.2.1 hI.2.2.1 hq hI.2.2.2.1 (fun S' f' h19 s' => h S' (hI.lrr f' (Or.inr ⟨h19, s'⟩)))
end HP
