/-! ===== place and lift, both sides ===== -/
theorem srt_map2 : ∀ {a : List Nat}, srtL a = true → srtL (a.map (· + 2)) = true := by
  intro a
  induction a with
  | nil => intro _; rfl
  | cons x t ih =>
    intro hs
    cases t with
    | nil => rfl
    | cons z t =>
      simp only [srtL, Bool.and_eq_true, decide_eq_true_eq] at hs
      have := ih hs.2
      simp only [List.map_cons, srtL, Bool.and_eq_true, decide_eq_true_eq] at this ⊢
      exact ⟨by omega, this⟩
theorem map2_lt {a : List Nat} {b : Nat} (h : ∀ x ∈ a, x < b) : ∀ y ∈ a.map (· + 2), y < b + 2 := by
  intro y hy
  obtain ⟨k, hk, rfl⟩ := List.mem_map.mp hy
  have := h k hk
  omega
theorem lay_le {l i : Nat} (hl : l < 1215) (hi : i < len l) : ∀ y ∈ (lay l).take i, y ≤ (lay l).getD i 0 := by
  have h1 : srtL ((lay l).take (i + 1)) = true := srt_app (b := (lay l).drop (i + 1)) (by rw [List.take_append_drop]; exact tq_srt hl)
  rw [take_s hi] at h1
  exact srt_last h1
theorem pM_mk {t b : Nat} (hb : b < 2) : pM (2 * t + b) = 2 * xpi t + b := by
  unfold pM
  rw [show (2 * t + b) / 2 = t by omega, show (2 * t + b) % 2 = b by omega]
theorem IZ.go {c : List Nat} {ρ : Ru} {tx : List Nat} {q : Nat} {hs : List Nat} {p : Nat} {hs' : List Nat} {S S' : hm_S} {T : hm_T} (h : IZ (ρ, tx, q, hs) S T) (hf : fr c S S') (hc : ∀ a ∈ [1, 2, 4, 13, 14, 15, 16, 17], a ∉ c) (e : ∀ k ∈ [4, 5, 6, 19, 25], S' 0 k = S 0 k) (e7 : S' 0 7 = nI (pM p)) (hh : HM hs' S') : IZ (ρ, tx, p, hs') S' T := by
  obtain ⟨a, b, d⟩ := h.sl hf (fun a ha => hc a (by revert a; decide)) (fun k hk => e k (by revert k; decide))
  exact ⟨a, b, d, e7, hh, h.2.2.2.2.2.fr0 hf (hc 17 (by decide)) (e 25 (by decide))⟩
theorem mw.fr {S S' : hm_S} (h : mw S S') : fr [0, 6] S S' := fun a ha => h.1 a (fun e => ha (by rw [e]; decide)) (fun e => ha (by rw [e]; decide))
section PLC
variable {T : hm_T}
/-- the name of what was made, looked up -/
theorem z_name {S : hm_S} (ht : tabM S T) {t : Nat} (h1 : t < 1215) (hm : md S ((lay t).map (· + 2))) {Q : Int32 → hm_S → hm_T → Prop} (h : Q (nI (xpi t)) S T) : wp_11_nameOf S T (fun r S1 T1 => wp_11_rowOf r S1 T1 Q) := by
  refine z_nameOf hm (by rw [List.length_map]; exact Nat.le_trans (tq_cnt h1).2 (by omega)) (map2_lt (fun x hx => tq_small h1 hx)) ?_
  have hnm : nmL ((lay t).map (· + 2)) = nmT (xpi t) := by unfold nmT; rw [mrow_pi h1]
  rw [hnm]
  exact z_rowOf ht.2.2 (tq_pi h1).1 h
theorem z_copies {l p h : Nat} {x : Int32} (hl : l < 1215) (hp : p < 2) (hx : ∀ i, i < len l → (nI i = x ↔ i = h)) {S : hm_S} (ht : tabM S T) (h7 : S 0 7 = nI (2 * xpi l + p)) {Q : hm_S → hm_T → Prop} (hq : ∀ S', mw S S' → md S' (((lay l).eraseIdx h).map (· + 2)) → Q S' T) : wp_11_copies x S T Q := by
  have hr := (tq_pi hl).1
  have hlen := tq_len hl
  have hdiv : nI (2 * xpi l + p) / 2 = nI (xpi l) := by rw [q_2, n_div2 (by omega), show (2 * xpi l + p) / 2 = xpi l by omega]
  have key : ∀ c i S1, i + c = len l → mw S S1 → srtL (((lay l).take i).eraseIdx h) = true → md S1 ((((lay l).take i).eraseIdx h).map (· + 2)) → wl_11_copies_7 Q (c + 1) x (nI i) S1 T := by
    intro c
    induction c with
    | zero =>
      intro i S1 hi hw hs hm
      show wb_11_copies_7 Q _ _ _ S1 T
      unfold wb_11_copies_7
      rw [hw.2 7 (by decide), h7, hdiv, nI_clamp (by omega), (ht.mw hw).1 _ hr, len_pi hl, if_pos (nI_le (by omega) (by omega))]
      refine ⟨vp_in_nI hr (by omega), hq S1 hw ?_⟩
      rw [show i = (lay l).length by unfold len at hi; omega, List.take_length] at hm
      exact hm
    | succ c ih =>
      intro i S1 hi hw hs hm
      have hil : i < len l := by omega
      have hk := tq_small hl (getD_mem hil)
      show wb_11_copies_7 Q _ _ _ S1 T
      unfold wb_11_copies_7 wb_11_copies_40
      rw [hw.2 7 (by decide), h7, hdiv, nI_clamp (by omega), (ht.mw hw).1 _ hr, len_pi hl, if_neg (nI_ge hil (by omega)), nI_1]
      refine ⟨vp_in_nI hr (by omega), ?_⟩
      by_cases e : i = h
      · rw [if_pos ((hx i hil).mpr e)]
        have e2 : ((lay l).take (i + 1)).eraseIdx h = ((lay l).take i).eraseIdx h := by rw [e]; exact pre_h (by rw [← e]; exact hil)
        exact ih (i + 1) S1 (by omega) hw (by rw [e2]; exact hs) (by rw [e2]; exact hm)
      · rw [if_neg (fun q => e ((hx i hil).mp q)), z_heapAt (ht.mw hw) hr hp (by rw [len_pi hl]; exact hil), mrow_at hl hil]
        have hB : ∀ y ∈ ((lay l).take i).eraseIdx h, y ≤ (lay l).getD i 0 ∧ y < 20 := fun y hy => by
          have h1 := List.mem_of_mem_eraseIdx hy
          exact ⟨lay_le hl hil y h1, tq_small hl (List.mem_of_mem_take h1)⟩
        have e2 : insL ((lay l).getD i 0) (((lay l).take i).eraseIdx h) = ((lay l).take (i + 1)).eraseIdx h := by
          rw [insL_end (fun y hy => (hB y hy).1), pre_s hil e]
        have hbl : (((lay l).take i).eraseIdx h).length ≤ 10 := by
          have := List.length_eraseIdx_le ((lay l).take i) h
          rw [List.length_take] at this
          omega
        refine z_puts hm (by rw [List.length_map]; exact hbl) (srt_map2 hs) (by omega) (fun y hy => Nat.lt_of_lt_of_le (map2_lt (b := 20) (fun z hz => (hB z hz).2) y hy) (by omega)) (fun S2 hw2 hm2 => ?_)
        rw [insL_map, e2] at hm2
        refine ih (i + 1) S2 (by omega) (hw.tr hw2) ?_ hm2
        rw [← e2]
        exact srt_ins hs
  unfold wp_11_copies
  rw [q_0]
  exact ⟨_, by
    have h0 := key (len l) 0 (hm_up S 0 11 (nI 0)) (by omega) (mw.up0 S _) (by rw [List.take_zero]; rfl) ⟨by rw [hm_up_same]; rfl, fun i hi => absurd hi (by simp)⟩
    exact h0⟩
def r_place (s : Sp) (x : Int32) : Int32 × Sp := if 1 ≤ x then (if x ≤ nI (10 - cnt (s.2.2.1 / 2)) then (nI (len (jt (s.2.2.1 / 2) (2 * (x.toNatClampNeg - 1) + 0))), (s.1, s.2.1, 2 * jt (s.2.2.1 / 2) (2 * (x.toNatClampNeg - 1) + 0) + s.2.2.1 % 2, rec s.2.2.1 s.2.2.2)) else (-4, s)) else (-2, s)
theorem pos_of {x : Int32} (h : 1 ≤ x) : ∃ n, 1 ≤ n ∧ n < 2 ^ 31 ∧ x = nI n := by
  have h0 : ¬ x < 0 := fun q => absurd (Int32.lt_of_le_of_lt h q) (by decide)
  obtain ⟨n, h1, h2⟩ := nI_of h0
  refine ⟨n, ?_, h1, h2⟩
  rcases Nat.eq_zero_or_pos n with e | e
  · rw [h2, e] at h; exact absurd h (by decide)
  · exact e
theorem pl_args {q : Nat} (hq : q < 2430) {x : Int32} {n : Nat} (hn : 1 ≤ n) (hn2 : n < 2 ^ 31) (hx : x = nI n) (h : x ≤ nI (10 - cnt (q / 2))) : 2 * (n - 1) + 0 < 20 ∧ szk (2 * (n - 1) + 0) ≤ 10 - cnt (q / 2) ∧ jt (q / 2) (2 * (n - 1) + 0) < 1215 ∧ lay (jt (q / 2) (2 * (n - 1) + 0)) = insL (2 * (n - 1) + 0) (lay (q / 2)) := by
  rw [hx, nI_leI hn2 (by omega)] at h
  have hc := (tq_cnt (show q / 2 < 1215 by omega)).1
  obtain ⟨a, b, c, d, e⟩ := jt_put (l := q / 2) (n := n) (b := 0) (by omega) hn (by omega) (by omega)
  exact ⟨a, b, c, e⟩
theorem ok_place {s : Sp} (x : Int32) (ho : okS s) : okS (r_place s x).2 := by
  unfold r_place
  by_cases h1 : 1 ≤ x
  · rw [if_pos h1]
    by_cases h2 : x ≤ nI (10 - cnt (s.2.2.1 / 2))
    · rw [if_pos h2]
      obtain ⟨n, n1, n2, n3⟩ := pos_of h1
      have := (pl_args ho.2.2.1 n1 n2 n3 h2).2.2.1
      refine ⟨ho.1, ho.2.1, ?_, rec_ok ho.2.2.1 ho.2.2.2⟩
      show 2 * jt (s.2.2.1 / 2) (2 * (x.toNatClampNeg - 1) + 0) + s.2.2.1 % 2 < 2430
      rw [n3, nI_clamp n2]
      omega
    · rw [if_neg h2]; exact ho
  · rw [if_neg h1]; exact ho
theorem X_place {s : Sp} (ho : okS s) {S : hm_S} (hI : IX s S) (x : Int32) {Q : Int32 → hm_S → hm_T → Prop} (h : ∀ S', IX (r_place s x).2 S' → Q (r_place s x).1 S' T) : wp_10_place x S T Q := by
  have hq := ho.2.2.1
  have hc := (tq_cnt (show s.2.2.1 / 2 < 1215 by omega)).1
  unfold wp_10_place
  unfold r_place at h
  by_cases h1 : 1 ≤ x
  · rw [if_pos h1] at h ⊢
    rw [hI.2.1, e_layoutOf (by omega), x_countersOf hI.1.tab (by omega), q_10, pk_sub hc]
    by_cases h2 : x ≤ nI (10 - cnt (s.2.2.1 / 2))
    · rw [if_pos h2] at h ⊢
      obtain ⟨n, n1, n2, n3⟩ := pos_of h1
      obtain ⟨a, b, c, d⟩ := pl_args hq n1 n2 n3 h2
      rw [n3, nI_clamp n2] at h
      rw [n3, q_0, e_kindOfHeap n1, x_join hI.1.tab (by omega) a b, hI.2.1, e_passOf (by omega), e_positionOf]
      refine x_goTo hI.2.2.1 hI.2.1 (fun S2 f2 k2 e2 h2 => ?_)
      rw [x_heapsOf (hI.1.tab.fr f2 (by decide)) c]
      obtain ⟨ρ, tx, q, hs⟩ := s
      exact h S2 (hI.go f2 (by decide) (hI.1.fr f2 (by decide)) e2 h2)
    · rw [if_neg h2] at h ⊢
      exact h S hI
  · rw [if_neg h1] at h ⊢
    exact h S hI
theorem Z_place {s : Sp} (ho : okS s) {S : hm_S} (hI : IZ s S T) (x : Int32) {Q : Int32 → hm_S → hm_T → Prop} (h : ∀ S' T', IZ (r_place s x).2 S' T' → Q (r_place s x).1 S' T') : wp_11_place x S T Q := by
  have hq := ho.2.2.1
  have hl : s.2.2.1 / 2 < 1215 := by omega
  have hc := (tq_cnt hl).1
  have hp := pM_lt hq
  unfold wp_11_place
  unfold r_place at h
  by_cases h1 : 1 ≤ x
  · rw [if_pos h1] at h ⊢
    rw [hI.2.2.2.1]
    refine z_sum hI.1 (l := s.2.2.1 / 2) (p := s.2.2.1 % 2) hl (by omega) ?_
    rw [q_10, pk_sub hc]
    by_cases h2 : x ≤ nI (10 - cnt (s.2.2.1 / 2))
    · rw [if_pos h2] at h ⊢
      obtain ⟨n, n1, n2, n3⟩ := pos_of h1
      obtain ⟨a, b, c, d⟩ := pl_args hq n1 n2 n3 h2
      rw [n3, nI_clamp n2] at h
      refine z_keeps hI.2.2.2.2.1 hI.2.2.2.1 (fun S2 f2 hh2 => ?_)
      have e72 : S2 0 7 = nI (2 * xpi (s.2.2.1 / 2) + s.2.2.1 % 2) := by rw [f2.2 7 (by decide)]; exact hI.2.2.2.1
      have t2 : tabM S2 T := hI.1.fr f2.1 (by decide)
      refine z_copies (h := len (s.2.2.1 / 2)) hl (by omega) (fun i hi => ⟨fun e => absurd e (nI_ne1 (by have := tq_len hl; omega)), fun e => absurd e (by omega)⟩) t2 e72 (fun S3 hw3 hm3 => ?_)
      rw [List.eraseIdx_of_length_le (by unfold len; exact Nat.le_refl _)] at hm3
      rw [n3, q_2, pk_mul]
      refine z_puts hm3 (by rw [List.length_map]; exact (tq_cnt hl).2) (srt_map2 (tq_srt hl)) (by omega) (fun y hy => Nat.lt_of_lt_of_le (map2_lt (fun z hz => tq_small hl hz) y hy) (by omega)) (fun S4 hw4 hm4 => ?_)
      rw [show 2 * n = 2 * (n - 1) + 2 by omega, insL_map] at hm4
      replace hm4 : md S4 ((insL (2 * (n - 1) + 0) (lay (s.2.2.1 / 2))).map (· + 2)) := hm4
      rw [← d] at hm4
      have hwA := hw3.tr hw4
      refine z_name (t2.mw hwA) c hm4 ?_
      have e74 : S4 0 7 = nI (pM s.2.2.1) := by rw [hwA.2 7 (by decide)]; exact e72
      have hx := (tq_pi c).1
      rw [e74, n_rem2 (by omega), show pM s.2.2.1 % 2 = s.2.2.1 % 2 by unfold pM; omega, pk_mul, nI_add, hm_up_same, n_div2 (by omega), show (2 * xpi (jt (s.2.2.1 / 2) (2 * (n - 1) + 0)) + s.2.2.1 % 2) / 2 = xpi (jt (s.2.2.1 / 2) (2 * (n - 1) + 0)) by omega, nI_clamp (by omega), hm_up_row _ _ _ (by decide), (t2.mw hwA).1 _ hx, len_pi c]
      refine ⟨vp_in_nI hx (by omega), ?_⟩
      have f4 : fr [0] S4 (hm_up S4 0 7 (nI (2 * xpi (jt (s.2.2.1 / 2) (2 * (n - 1) + 0)) + s.2.2.1 % 2))) := fr.up _ _ _ (by decide)
      have fA : fr [0, 5, 6] S (hm_up S4 0 7 (nI (2 * xpi (jt (s.2.2.1 / 2) (2 * (n - 1) + 0)) + s.2.2.1 % 2))) := ((f2.1.mono (by decide)).tr (hwA.fr.mono (by decide))).tr (f4.mono (by decide))
      obtain ⟨ρ, tx, q, hs⟩ := s
      refine h _ T (hI.go fA (by decide) (fun k hk => ?_) ?_ ?_)
      · rw [hm_up_col _ _ (by revert k; decide), hwA.2 k (by revert k; decide), f2.2 k (by revert k; decide)]
      · rw [hm_up_same, pM_mk (by omega)]
      · exact (hh2.fr0 hwA.fr (by decide) (hwA.2 9 (by decide))).fr0 f4 (by decide) (hm_up_col _ _ (by decide))
    · rw [if_neg h2] at h ⊢
      exact h S T hI
  · rw [if_neg h1] at h ⊢
    exact h S T hI
/-! lift -/
theorem z_isHeap {q : Nat} (hq : q < 2430) {S : hm_S} (ht : tabM S T) (h7 : S 0 7 = nI (pM q)) {x : Int32} {Q : Int32 → hm_S → hm_T → Prop} (hno : idx x (len (q / 2)) = none → Q 0 S T) (h : ∀ i, i < len (q / 2) → x = nI i → idx x (len (q / 2)) = some i → Q 1 S T) : wp_11_isHeap x S T Q := by
  have hl : q / 2 < 1215 := by omega
  have hr := (tq_pi hl).1
  have hlen := tq_len hl
  have hp := pM_lt hq
  unfold wp_11_isHeap
  rw [h7, q_2, n_div2 (by omega), show pM q / 2 = xpi (q / 2) by unfold pM; omega, nI_clamp (by omega), ht.1 _ hr, len_pi hl]
  refine ⟨vp_in_nI hr (by omega), z_in (by omega) (fun hn => ⟨Or.inl rfl, hno (idx_none (by omega) hn)⟩) (fun i h1 h2 => ⟨Or.inr rfl, h i h1 h2 (by rw [h2]; exact idx_nI h1 (by omega))⟩)⟩
def r_lift (s : Sp) (x : Int32) : Int32 × Sp := match idx x (len (s.2.2.1 / 2)) with
  | none => (-2, s)
  | some h => (nI (szk ((lay (s.2.2.1 / 2)).getD h 0)), (s.1, s.2.1, 2 * wo (s.2.2.1 / 2) h + s.2.2.1 % 2, rec s.2.2.1 s.2.2.2))
theorem r_lift0 {s : Sp} {x : Int32} (e : idx x (len (s.2.2.1 / 2)) = none) : r_lift s x = (-2, s) := by unfold r_lift; rw [e]
theorem r_lift1 {s : Sp} {x : Int32} {h : Nat} (e : idx x (len (s.2.2.1 / 2)) = some h) : r_lift s x = (nI (szk ((lay (s.2.2.1 / 2)).getD h 0)), (s.1, s.2.1, 2 * wo (s.2.2.1 / 2) h + s.2.2.1 % 2, rec s.2.2.1 s.2.2.2)) := by unfold r_lift; rw [e]
theorem ok_lift {s : Sp} (x : Int32) (ho : okS s) : okS (r_lift s x).2 := by
  have hq := ho.2.2.1
  have hl : s.2.2.1 / 2 < 1215 := by omega
  have hlen := tq_len hl
  rcases idx_c x (n := len (s.2.2.1 / 2)) (by omega) with ⟨g, e⟩ | ⟨g1, g2, e⟩ | ⟨i, h1, h2, e⟩
  · rw [r_lift0 e]; exact ho
  · rw [r_lift0 e]; exact ho
  · rw [r_lift1 e]
    have := (wo_ok (h := i) hl).1
    refine ⟨ho.1, ho.2.1, ?_, rec_ok ho.2.2.1 ho.2.2.2⟩
    show 2 * wo (s.2.2.1 / 2) i + s.2.2.1 % 2 < 2430
    omega
theorem X_lift {s : Sp} (ho : okS s) {S : hm_S} (hI : IX s S) (x : Int32) {Q : Int32 → hm_S → hm_T → Prop} (h : ∀ S', IX (r_lift s x).2 S' → Q (r_lift s x).1 S' T) : wp_10_lift x S T Q := by
  have hq := ho.2.2.1
  have hl : s.2.2.1 / 2 < 1215 := by omega
  have hlen := tq_len hl
  unfold wp_10_lift
  rw [hI.2.1, e_layoutOf (by omega)]
  rcases idx_c x (n := len (s.2.2.1 / 2)) (by omega) with ⟨g, e⟩ | ⟨g1, g2, e⟩ | ⟨i, h1, h2, e⟩
  · rw [r_lift0 e] at h; rw [if_pos g]; exact h S hI
  · rw [r_lift0 e] at h
    rw [if_neg g1, x_heapsOf hI.1.tab hl, if_neg (Int32.not_lt.mpr g2)]; exact h S hI
  · rw [r_lift1 e] at h
    have hk := tq_small hl (getD_mem h1)
    rw [h2, if_neg (nI_pos (by omega)), x_heapsOf hI.1.tab hl, if_pos (nI_lt h1 (by omega))]
    refine x_kindAt hI.1.tab hl h1 ?_
    rw [e_sizeOfKind (by omega)]
    refine x_without hI.1.tab hl (by omega) ?_
    rw [hI.2.1, e_passOf (by omega), e_positionOf]
    refine x_goTo hI.2.2.1 hI.2.1 (fun S2 f2 k2 e2 h2 => ?_)
    obtain ⟨ρ, tx, q, hs⟩ := s
    exact h S2 (hI.go f2 (by decide) (hI.1.fr f2 (by decide)) e2 h2)
theorem Z_lift {s : Sp} (ho : okS s) {S : hm_S} (hI : IZ s S T) (x : Int32) {Q : Int32 → hm_S → hm_T → Prop} (h : ∀ S' T', IZ (r_lift s x).2 S' T' → Q (r_lift s x).1 S' T') : wp_11_lift x S T Q := by
  have hq := ho.2.2.1
  have hl : s.2.2.1 / 2 < 1215 := by omega
  have hlen := tq_len hl
  have hp := pM_lt hq
  unfold wp_11_lift
  refine z_isHeap hq hI.1 hI.2.2.2.1 (fun e => ?_) (fun i h1 h2 e => ?_)
  · rw [r_lift0 e] at h; rw [if_pos rfl]; exact h S T hI
  · rw [r_lift1 e] at h
    rw [if_neg (by decide)]
    refine z_keeps hI.2.2.2.2.1 hI.2.2.2.1 (fun S2 f2 hh2 => ?_)
    have e72 : S2 0 7 = nI (2 * xpi (s.2.2.1 / 2) + s.2.2.1 % 2) := by rw [f2.2 7 (by decide)]; exact hI.2.2.2.1
    have t2 : tabM S2 T := hI.1.fr f2.1 (by decide)
    have hk := tq_small hl (getD_mem h1)
    obtain ⟨c, d⟩ := wo_ok (h := i) hl
    rw [e72, h2, z_heapAt t2 (tq_pi hl).1 (by omega) (by rw [len_pi hl]; exact h1), mrow_at hl h1]
    refine z_copies (h := i) hl (by omega) (fun j hj => by rw [nI_eq (by omega) (by omega)]) t2 e72 (fun S4 hwA hm4 => ?_)
    rw [← d] at hm4
    refine z_name (t2.mw hwA) c hm4 ?_
    have e74 : S4 0 7 = nI (pM s.2.2.1) := by rw [hwA.2 7 (by decide)]; exact e72
    rw [e74, q_2, n_rem2 (by omega), show pM s.2.2.1 % 2 = s.2.2.1 % 2 by unfold pM; omega, pk_mul, nI_add, n_div2 (by omega), show ((lay (s.2.2.1 / 2)).getD i 0 + 2) / 2 = szk ((lay (s.2.2.1 / 2)).getD i 0) by unfold szk; omega]
    have f4 : fr [0] S4 (hm_up S4 0 7 (nI (2 * xpi (wo (s.2.2.1 / 2) i) + s.2.2.1 % 2))) := fr.up _ _ _ (by decide)
    have fA : fr [0, 5, 6] S (hm_up S4 0 7 (nI (2 * xpi (wo (s.2.2.1 / 2) i) + s.2.2.1 % 2))) := ((f2.1.mono (by decide)).tr (hwA.fr.mono (by decide))).tr (f4.mono (by decide))
    obtain ⟨ρ, tx, q, hs⟩ := s
    refine h _ T (hI.go fA (by decide) (fun k hk => ?_) ?_ ?_)
    · rw [hm_up_col _ _ (by revert k; decide), hwA.2 k (by revert k; decide), f2.2 k (by revert k; decide)]
    · rw [hm_up_same, pM_mk (by omega)]
    · exact (hh2.fr0 hwA.fr (by decide) (hwA.2 9 (by decide))).fr0 f4 (by decide) (hm_up_col _ _ (by decide))
end PLC
