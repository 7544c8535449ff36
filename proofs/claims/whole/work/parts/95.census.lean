/-! ===== census, both sides ===== -/
theorem sumB_range (g : Nat → Nat) : ∀ n, ((List.range n).map g).sum = sumB g n := by
  intro n
  induction n with
  | zero => rfl
  | succ n ih =>
    rw [List.range_succ, List.map_append, List.sum_append, ih]
    simp [sumB]
theorem sumB_congr {g h : Nat → Nat} : ∀ n, (∀ i, i < n → g i = h i) → sumB g n = sumB h n := by
  intro n
  induction n with
  | zero => intro _; rfl
  | succ n ih =>
    intro hh
    simp only [sumB]
    rw [ih (fun i hi => hh i (by omega)), hh n (by omega)]
theorem sumB_inj {g f : Nat → Nat} {n : Nat} (hf : ∀ i, i < n → f i < n) (hi : ∀ i j, i < n → j < n → f i = f j → i = j) : sumB (fun i => g (f i)) n ≤ sumB g n := by
  have hn : ((List.range n).map f).Nodup := by
    refine List.pairwise_map.mpr (List.Pairwise.imp_of_mem (fun {a b} ha hb hab e => ?_) (List.nodup_range (n := n)))
    exact hab (hi a b (List.mem_range.mp ha) (List.mem_range.mp hb) e)
  have := sumB_nd (g := g) (n := n) hn (fun q hq => by
    obtain ⟨i, h1, h2⟩ := List.mem_map.mp hq
    rw [← h2]; exact hf i (List.mem_range.mp h1))
  rw [List.map_map] at this
  have e := sumB_range (g ∘ f) n
  rw [e] at this
  exact this
theorem sumB_xpv (g : Nat → Nat) : sumB (fun r => g (xpv r)) 1215 = sumB g 1215 := by
  refine Nat.le_antisymm (sumB_inj (fun i hi => (tq_pi hi).2.2.1) (fun i j hi hj e => ?_)) ?_
  · have := congrArg xpi e
    rwa [(tq_pi hi).2.2.2, (tq_pi hj).2.2.2] at this
  · have h1 := sumB_inj (g := fun r => g (xpv r)) (f := xpi) (n := 1215) (fun i hi => (tq_pi hi).1) (fun i j hi hj e => by
      have := congrArg xpv e
      rwa [(tq_pi hi).2.1, (tq_pi hj).2.1] at this)
    rw [sumB_congr (h := g) 1215 (fun i hi => by show g (xpv (xpi i)) = g i; rw [(tq_pi hi).2.1])] at h1
    exact h1
noncomputable def csB (ρ : Ru) (c b o t : Nat) : Nat := if bnd t = 0 ∧ cnt t = c ∧ oF ρ (2 * t + b) = o then 1 else 0
noncomputable def csN (ρ : Ru) (c b o : Nat) : Nat := sumB (csB ρ c b o) 1215
theorem sum1_le {g : Nat → Nat} (h : ∀ i, g i ≤ 1) : ∀ n, sumB g n ≤ n := by
  intro n
  induction n with
  | zero => simp [sumB]
  | succ n ih => have := h n; simp only [sumB]; omega
theorem csB_le (ρ : Ru) (c b o : Nat) : ∀ t, csB ρ c b o t ≤ 1 := by
  intro t
  unfold csB
  by_cases h : bnd t = 0 ∧ cnt t = c ∧ oF ρ (2 * t + b) = o <;> simp [h]
section CS
variable {T : hm_T}
theorem x_isFreeWith {S : hm_S} (ht : tabX S) {l c : Nat} (hl : l < 1215) (hc : c ≤ 10) {Q : Int32 → hm_S → hm_T → Prop} : wp_2_isFreeWith (nI l) (nI c) S T Q ↔ (if bnd l = 0 ∧ cnt l = c then Q 1 S T else Q 0 S T) := by
  have hb := tq_bnd hl
  have hn := (tq_cnt hl).1
  unfold wp_2_isFreeWith
  rw [e_get hl (by omega), show S (13 + 1) l = nI (bnd l) from (ht.1 l hl).2.2.2.2.1, e_get hl (by omega), show S (11 + 1) l = nI (cnt l) from (ht.1 l hl).2.2.2.1]
  by_cases h0 : bnd l = 0
  · rw [if_pos (by rw [h0]; rfl)]
    by_cases h1 : cnt l = c
    · rw [if_pos (by rw [h1]), if_pos ⟨h0, h1⟩]
    · rw [if_neg (by rw [nI_eq (by omega) (by omega)]; exact h1), if_neg (fun q => h1 q.2)]
  · rw [if_neg (by rw [q_0, nI_eq (by omega) (by omega)]; exact h0), if_neg (fun q => h0 q.1)]
theorem x_csB {ρ : Ru} (hr : rok ρ) {c b o : Nat} (hc : c ≤ 10) (hb : b < 2) (ho : o < 3) {kn : List Nat} {S : hm_S} (hx : XE ρ kn kn.length 0 S) (hs : solX ρ kn S) (hk : ∀ u, u < 1215 → bnd u = 0 → cnt u = c → 2 * u + b ∈ kn) {Q : Int32 → hm_S → hm_T → Prop} (h : Q (nI (csN ρ c b o)) S T) : ∀ n t, t + n = 1215 → wl_10_census_90 Q (n + 1) (nI c) (nI o) (nI b) (nI (sumB (csB ρ c b o) t)) (nI t) S T := by
  intro n
  induction n with
  | zero =>
    intro t ht
    show wb_10_census_90 Q _ _ _ _ _ _ S T
    unfold wb_10_census_90
    rw [q_1215, if_pos (nI_le (by omega) (by omega)), show t = 1215 by omega]
    exact h
  | succ n ih =>
    intro t ht
    have nx := ih (t + 1) (by omega)
    have hoF := oF_lt hr (2 * t + b)
    have es : sumB (csB ρ c b o) (t + 1) = sumB (csB ρ c b o) t + csB ρ c b o t := rfl
    rw [es] at nx
    show wb_10_census_90 Q _ _ _ _ _ _ S T
    unfold wb_10_census_90 wb_10_census_132
    rw [q_1215, if_neg (nI_ge (by omega) (by omega)), x_isFreeWith hx.1 (by omega) hc, nI_1 t]
    by_cases hf : bnd t = 0 ∧ cnt t = c
    · rw [if_pos hf, if_neg (by decide), e_positionOf]
      refine x_outcomeOf hx.2.2.2.1 hs (hk t (by omega) hf.1 hf.2) ?_
      by_cases e : oF ρ (2 * t + b) = o
      · rw [if_pos (by rw [e]), nI_1]
        rw [show csB ρ c b o t = 1 by unfold csB; rw [if_pos ⟨hf.1, hf.2, e⟩]] at nx
        exact nx
      · rw [if_neg (by rw [nI_eq (by omega) (by omega)]; exact e)]
        rw [show csB ρ c b o t = 0 by unfold csB; rw [if_neg (fun q => e q.2.2)], Nat.add_zero] at nx
        exact nx
    · rw [if_neg hf, if_pos rfl]
      rw [show csB ρ c b o t = 0 by unfold csB; rw [if_neg (fun q => hf ⟨q.1, q.2.1⟩)], Nat.add_zero] at nx
      exact nx
theorem x_csA {ρ : Ru} (hr : rok ρ) {c b o : Nat} (hc : c ≤ 10) (hb : b < 2) (ho : o < 3) {S0 : hm_S} {Q : Int32 → hm_S → hm_T → Prop} (h : ∀ S, fr fX S0 S → SV ρ S → Q (nI (csN ρ c b o)) S T) : ∀ n t kn S, t + n = 1215 → fr fX S0 S → XE ρ kn kn.length 0 S → (S 36 15 = 0 ∨ (S 36 15 = 1 ∧ solX ρ kn S)) → (∀ u, u < t → bnd u = 0 → cnt u = c → 2 * u + b ∈ kn) → wl_10_census_36 Q (n + 1) (nI c) (nI o) (nI b) (nI t) S T := by
  intro n
  induction n with
  | zero =>
    intro t kn S ht hf hx hs hk
    show wb_10_census_36 Q _ _ _ _ _ S T
    unfold wb_10_census_36 wb_10_census_77
    rw [q_1215, if_pos (nI_le (by omega) (by omega))]
    refine x_solve hr hx hs (fun S1 f1 h15 s1 => ?_)
    have hx1 := f1.XE hx
    rw [q_0]
    exact ⟨_, x_csB hr hc hb ho hx1 s1 (fun u hu => hk u (by omega)) (h S1 (hf.tr (f1.1.mono (by decide))) ⟨kn, hx1, Or.inr ⟨h15, s1⟩⟩) 1215 0 (by omega)⟩
  | succ n ih =>
    intro t kn S ht hf hx hs hk
    show wb_10_census_36 Q _ _ _ _ _ S T
    unfold wb_10_census_36 wb_10_census_71
    rw [q_1215, if_neg (nI_ge (by omega) (by omega)), x_isFreeWith hx.1 (by omega) hc, nI_1 t]
    by_cases hfr : bnd t = 0 ∧ cnt t = c
    · rw [if_pos hfr, if_neg (by decide), e_positionOf]
      refine x_explore hr (by omega) hx (fun kn2 S2 hq2 he2 hs2 f2 x2 => ?_)
      refine ih (t + 1) kn2 S2 (by omega) (hf.tr (f2.mono (by decide))) x2 ?_ (fun u hu h1 h2 => ?_)
      · rcases hs2 with ⟨e1, e2⟩ | e2
        · rw [e2]
          rcases hs with e3 | ⟨e3, e4⟩
          · exact Or.inl e3
          · exact Or.inr ⟨e3, by rw [e1]; exact e4.fr f2 (by decide)⟩
        · exact Or.inl e2
      · obtain ⟨e, he⟩ := he2
        rcases Nat.lt_or_ge u t with w | w
        · rw [he]; exact List.mem_append_left _ (hk u w h1 h2)
        · rw [show u = t by omega]; exact hq2
    · rw [if_neg hfr, if_pos rfl]
      refine ih (t + 1) kn S (by omega) hf hx hs (fun u hu h1 h2 => ?_)
      rcases Nat.lt_or_ge u t with w | w
      · exact hk u w h1 h2
      · rw [show u = t by omega] at h1 h2; exact absurd ⟨h1, h2⟩ hfr
noncomputable def a_census (s : Sp) (x y z : Int32) : Int32 := match idx x 11 with
  | none => -2
  | some c => match idx z 3 with
    | none => -2
    | some o => nI (csN s.1 c (if y = 0 then 0 else 1) o)
theorem a_census0 {s : Sp} {x y z : Int32} (e : idx x 11 = none) : a_census s x y z = -2 := by unfold a_census; rw [e]
theorem a_census1 {s : Sp} {x y z : Int32} (e : idx z 3 = none) : a_census s x y z = -2 := by
  unfold a_census
  cases idx x 11 with
  | none => rfl
  | some i => simp only []; rw [e]
theorem a_census2 {s : Sp} {x y z : Int32} {c o : Nat} (e : idx x 11 = some c) (e2 : idx z 3 = some o) : a_census s x y z = nI (csN s.1 c (if y = 0 then 0 else 1) o) := by unfold a_census; rw [e]; simp only []; rw [e2]
theorem X_census {s : Sp} (ho : okS s) {S : hm_S} (hI : IX s S) (x y z : Int32) {Q : Int32 → hm_S → hm_T → Prop} (h : ∀ S', IX s S' → Q (a_census s x y z) S' T) : wp_10_census x y z S T Q := by
  unfold wp_10_census
  rcases idx_c x (n := 11) (by omega) with ⟨g, e⟩ | ⟨g1, g2, e⟩ | ⟨c, h1, h2, e⟩
  · rw [a_census0 e] at h; rw [if_pos g]; exact h S hI
  · rw [a_census0 e] at h; rw [if_neg g1, q_10, if_pos (Int32.not_le.mp (nI_out (by omega) g2))]; exact h S hI
  · rw [h2, if_neg (nI_pos (by omega)), q_10, if_neg (nI_nlt (by omega) (by omega))]
    rcases idx_c z (n := 3) (by omega) with ⟨g, e'⟩ | ⟨g1, g2, e'⟩ | ⟨o, w1, w2, e'⟩
    · rw [a_census1 e'] at h; rw [if_pos g]; exact h S hI
    · rw [a_census1 e'] at h; rw [if_neg g1, q_2, if_neg (nI_out (by omega) g2)]; exact h S hI
    · rw [a_census2 e e'] at h
      rw [w2, if_neg (nI_pos (by omega)), q_2, if_pos (nI_le (by omega) (by omega))]
      obtain ⟨kn, hx, hs'⟩ := id hI.1
      have go : ∀ b, b < 2 → (∀ S', IX s S' → Q (nI (csN s.1 c b o)) S' T) → wb_10_census_31 Q (nI c) (nI o) (nI b) S T := by
        intro b hb h'
        unfold wb_10_census_31
        rw [q_0]
        exact ⟨_, x_csA ho.1 (by omega) hb w1 (fun S' f' s' => h' S' (hI.lrn f' s')) 1215 0 kn S (by omega) (fr.rf _ S) hx hs' (fun u hu => absurd hu (Nat.not_lt_zero u))⟩
      by_cases y0 : y = 0
      · rw [if_pos y0] at h ⊢; exact go 0 (by omega) h
      · rw [if_neg y0] at h ⊢; exact go 1 (by omega) h
theorem z_cs {ρ : Ru} (hr : rok ρ) {c b o : Nat} (hc : c ≤ 10) (hb : b < 2) (ho : o < 3) {S : hm_S} (ht : tabM S T) (hs : solM ρ S) {Q : Int32 → hm_S → hm_T → Prop} (h : Q (nI (csN ρ c b o)) S T) : ∀ n r, r + n = 1215 → wl_11_census_40 Q (n + 1) (nI c) (nI o) (nI (sumB (fun r => csB ρ c b o (xpv r)) r)) (nI (2 * r + b)) S T := by
  intro n
  induction n with
  | zero =>
    intro r hn
    show wb_11_census_40 Q _ _ _ _ _ S T
    unfold wb_11_census_40
    rw [q_2430, if_pos (nI_le (by omega) (by omega)), show r = 1215 by omega, sumB_xpv]
    exact h
  | succ n ih =>
    intro r hn
    have nx := ih (r + 1) (by omega)
    obtain ⟨p1, p2, p3, p4⟩ := tq_pi (show r < 1215 by omega)
    have hoF := oF_lt hr (2 * xpv r + b)
    have hcn := (tq_cnt p3).1
    have hbb := bb_lt (xpv r)
    have es : sumB (fun r => csB ρ c b o (xpv r)) (r + 1) = sumB (fun r => csB ρ c b o (xpv r)) r + csB ρ c b o (xpv r) := rfl
    rw [es, show 2 * (r + 1) + b = 2 * r + b + 2 by omega] at nx
    have ep : 2 * r + b = 2 * xpi (xpv r) + b := by rw [p4]
    show wb_11_census_40 Q _ _ _ _ _ S T
    unfold wb_11_census_40 wb_11_census_84 wb_11_census_85
    have e2 : nI (2 * r + b) + 2 = nI (2 * r + b + 2) := by rw [q_2, nI_add]
    rw [q_2430, if_neg (nI_ge (by omega) (by omega)), e2]
    have e15 : S 15 (2 * r + b) = nI (oF ρ (2 * xpv r + b)) := by
      have := (hs.2.2 (2 * xpv r + b) (by omega)).1
      rw [pM_mk hb, p4] at this
      exact this
    rw [nI_clamp (show 2 * r + b < 2 ^ 31 by omega)]
    have no : csB ρ c b o (xpv r) = 0 → wl_11_census_40 Q (n + 1) (nI c) (nI o) (nI (sumB (fun r => csB ρ c b o (xpv r)) r) + 0) (nI (2 * r + b + 2)) S T := by
      intro e
      rw [e] at nx
      rw [q_0, nI_add]
      exact nx
    rw [show nI (2 * r + b) = nI (2 * xpi (xpv r) + b) by rw [p4]]
    refine z_sum ht p3 hb ?_
    by_cases h1 : cnt (xpv r) = c
    · rw [if_pos (by rw [h1])]
      refine z_isBound ht p3 hb ?_
      by_cases h0 : bnd (xpv r) = 0
      · rw [if_pos (show nI (bb (xpv r)) = 0 by unfold bb; rw [if_neg (by omega)]; rfl), e15]
        refine ⟨by rw [p4]; exact vp_in_nI (by omega) (by omega), ?_⟩
        by_cases h2 : oF ρ (2 * xpv r + b) = o
        · rw [if_pos (by rw [h2]), nI_1]
          rw [show csB ρ c b o (xpv r) = 1 by unfold csB; rw [if_pos ⟨h0, h1, h2⟩]] at nx
          exact nx
        · rw [if_neg (by rw [nI_eq (by omega) (by omega)]; exact h2)]
          exact no (by unfold csB; rw [if_neg (fun q => h2 q.2.2)])
      · rw [if_neg (show ¬ nI (bb (xpv r)) = 0 by unfold bb; rw [if_pos (by omega)]; decide)]
        exact no (by unfold csB; rw [if_neg (fun q => h0 q.1)])
    · rw [if_neg (by rw [nI_eq (by omega) (by omega)]; exact h1)]
      exact no (by unfold csB; rw [if_neg (fun q => h1 q.2.1)])
theorem Z_census {s : Sp} (ho : okS s) {S : hm_S} (hI : IZ s S T) (x y z : Int32) {Q : Int32 → hm_S → hm_T → Prop} (h : ∀ S' T', IZ s S' T' → Q (a_census s x y z) S' T') : wp_11_census x y z S T Q := by
  unfold wp_11_census
  rw [q_10]
  refine z_inI (by omega) (fun e => ?_) (fun c h1 h2 e => ?_)
  · rw [a_census0 e] at h; rw [if_pos rfl]; exact h S T hI
  · rw [if_neg (by decide), q_2]
    refine z_inI (by omega) (fun e' => ?_) (fun o w1 w2 e' => ?_)
    · rw [a_census1 e'] at h; rw [if_pos rfl]; exact h S T hI
    · rw [a_census2 e e'] at h
      rw [if_neg (by decide)]
      refine z_solves ho.1 hI.1 hI.2.1 hI.2.2.1 (fun S1 f1 h19 s1 => ?_)
      have hI1 : IZ s S1 T := hI.lrn f1 (Or.inr ⟨h19, s1⟩)
      unfold wb_11_census_38
      rw [h2, w2]
      by_cases y0 : y = 0
      · rw [if_pos y0] at h ⊢
        exact ⟨_, z_cs ho.1 h1 (b := 0) (by omega) (show o < 3 by omega) hI1.1 s1 (h S1 T hI1) 1215 0 (by omega)⟩
      · rw [if_neg y0] at h ⊢
        exact ⟨_, z_cs ho.1 h1 (b := 1) (by omega) (show o < 3 by omega) hI1.1 s1 (h S1 T hI1) 1215 0 (by omega)⟩
end CS
