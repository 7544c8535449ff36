/-! ===== a position is decided, a level, all levels ===== -/
/-- within the pass to level d + 1: the positions below p are there already -/
noncomputable def lvA (d p i : Nat) : Nat := if i < p then d + 1 else d
def lm (ρ : Ru) (d p : Nat) (S : hm_S) : Prop := ∀ i, i < 2430 → S 15 i = nI (vO ρ (lvA d p i) (pX i)) ∧ S 16 i = lvI ρ (lvA d p i) (pX i)
theorem vO_und {ρ : Ru} {d q : Nat} (h : ¬ vO ρ (d + 1) q < 2) : ¬ vO ρ d q < 2 := fun hh => h (by have := vO_keep hh 1; omega)
theorem lv_le {d p i : Nat} : d ≤ lvA d p i ∧ lvA d p i ≤ d + 1 := by unfold lvA; by_cases h : i < p <;> simp [h]
/-- what the reference sees of a target: whether it was decided before -/
theorem bef {ρ : Ru} (hr : rok ρ) {d p i : Nat} (hd : d < 2 ^ 30) : (¬ vO ρ d (pX i) < 2 → (2 : Int32) ≤ nI (vO ρ (lvA d p i) (pX i)) ∨ (¬ (2 : Int32) ≤ nI (vO ρ (lvA d p i) (pX i)) ∧ nI (d + 1) ≤ lvI ρ (lvA d p i) (pX i))) ∧ (vO ρ d (pX i) < 2 → ¬ (2 : Int32) ≤ nI (vO ρ (lvA d p i) (pX i)) ∧ ¬ nI (d + 1) ≤ lvI ρ (lvA d p i) (pX i) ∧ vO ρ (lvA d p i) (pX i) = vO ρ d (pX i)) := by
  obtain ⟨h1, h2⟩ := lv_le (d := d) (p := p) (i := i)
  have h3 := vO_le hr (lvA d p i) (pX i)
  constructor
  · intro hu
    by_cases hv : vO ρ (lvA d p i) (pX i) < 2
    · right
      refine ⟨by rw [q_2]; exact nI_ge hv (by omega), ?_⟩
      obtain ⟨g1, g2, g3, g4⟩ := dF_spec hv
      have : d + 1 ≤ dF ρ (pX i) := Classical.byContradiction fun q => hu (by rw [vO_mono g1 (show dF ρ (pX i) ≤ d by omega)]; exact g1)
      unfold lvI
      rw [if_pos hv]
      exact nI_le this (by omega)
    · left
      rw [q_2]
      exact nI_le (by omega) (by omega)
  · intro hv
    have e : vO ρ (lvA d p i) (pX i) = vO ρ d (pX i) := vO_mono hv h1
    refine ⟨by rw [e, q_2]; exact nI_ge hv (by omega), ?_, e⟩
    obtain ⟨g1, g2, g3, g4⟩ := dF_spec hv
    unfold lvI
    rw [if_pos (by rw [e]; exact hv)]
    exact nI_ge (by omega) (by omega)
section MD
variable {T : hm_T}
theorem z_decLoop {ρ : Ru} (hr : rok ρ) {d p : Nat} (hd : d < 2 ^ 30) (hp : p < 2430) {S : hm_S} (hg : gM ρ 2430 S) (h13 : S 13 2430 = nI (st ρ 2430)) (hm : lm ρ d p S) {Q : Int32 → hm_S → hm_T → Prop} (h : ∀ w lo : Nat, w < 2 → lo < 2 → (w = 1 ↔ (suc ρ (pX p)).any (fun t => vO ρ d t == 0) = true) → (lo = 1 ↔ (suc ρ (pX p)).all (fun t => vO ρ d t == 1) = true) → wb_11_decides_135 Q (nI p) (nI (d + 1)) (nI w) (nI lo) S T) : ∀ c j w lo, j + c = (mv ρ (pX p)).length → w < 2 → lo < 2 → (w = 1 ↔ ((suc ρ (pX p)).take j).any (fun t => vO ρ d t == 0) = true) → (lo = 1 ↔ ((suc ρ (pX p)).take j).all (fun t => vO ρ d t == 1) = true) → wl_11_decides_25 Q (c + 1) (nI p) (nI (d + 1)) (nI w) (nI lo) (nI (st ρ p + j)) S T := by
  have hB := st_le (ρ := ρ) (show p + 1 ≤ 2430 by omega)
  have hss := st_s ρ p
  have hto : S 13 (p + 1) = nI (st ρ (p + 1)) := by
    rcases Nat.lt_or_ge (p + 1) 2430 with q | q
    · exact hg.1 _ q
    · rw [show p + 1 = 2430 by omega]; exact h13
  have hsl : (suc ρ (pX p)).length = (mv ρ (pX p)).length := by unfold suc; rw [List.length_map]
  intro c
  induction c with
  | zero =>
    intro j w lo hj hw hlo hW hL
    show wb_11_decides_25 Q _ _ _ _ _ _ S T
    unfold wb_11_decides_25
    rw [nI_1, nI_clamp (by omega), hto, if_pos (nI_le (by omega) (by omega))]
    refine ⟨vp_in_nI (by omega) (by omega), h w lo hw hlo ?_ ?_⟩
    · rw [hW, List.take_of_length_le (by omega)]
    · rw [hL, List.take_of_length_le (by omega)]
  | succ c ih =>
    intro j w lo hj hw hlo hW hL
    have hjl : j < (mv ρ (pX p)).length := by omega
    obtain ⟨m, hm2⟩ : ∃ m, (mv ρ (pX p))[j]? = some m := ⟨_, List.getElem?_eq_getElem hjl⟩
    have ht := tgt_lt (pX_lt hp) m (List.mem_of_getElem? hm2)
    have hpm := pM_lt ht
    have h14 : S 14 (st ρ p + j) = nI (pM (tgt m)) := hg.2 p j m hp hm2
    obtain ⟨v15, v16⟩ := hm (pM (tgt m)) hpm
    have hpx : pX (pM (tgt m)) = tgt m := pX_pM ht
    have hsj : (suc ρ (pX p)).take (j + 1) = (suc ρ (pX p)).take j ++ [tgt m] := by
      rw [List.take_add_one]
      congr 1
      unfold suc
      rw [List.getElem?_map, hm2]
      rfl
    have vv := vp_in_nI (n := pM (tgt m)) (N := 2430) hpm (by omega)
    -- the next turn
    have next : ∀ w' lo', w' < 2 → lo' < 2 → (w' = 1 ↔ w = 1 ∨ vO ρ d (tgt m) = 0) → (lo' = 1 ↔ lo = 1 ∧ vO ρ d (tgt m) = 1) → wl_11_decides_25 Q (c + 1) (nI p) (nI (d + 1)) (nI w') (nI lo') (nI (st ρ p + j) + 1) S T := by
      intro w' lo' a1 a2 a3 a4
      rw [nI_1]
      refine ih (j + 1) w' lo' (by omega) a1 a2 ?_ ?_
      · rw [a3, hW, hsj]
        simp
      · rw [a4, hL, hsj]
        simp
    -- the two flags, once it is known whether the target was decided before
    have t74 : ∀ z : Nat, z < 2 → (z = 1 ↔ vO ρ d (tgt m) < 2) → (z = 1 → S 15 (pM (tgt m)) = nI (vO ρ d (tgt m))) → wb_11_decides_74 Q (wl_11_decides_25 Q (c + 1)) (nI p) (nI (d + 1)) (nI w) (nI lo) (nI (st ρ p + j)) (nI (pM (tgt m))) (nI z) S T := by
      intro z hz hz1 hz2
      -- the second flag
      have t100 : ∀ w', w' < 2 → (w' = 1 ↔ w = 1 ∨ vO ρ d (tgt m) = 0) → ∀ x : Int32, x = nI w' → wb_11_decides_100 Q (wl_11_decides_25 Q (c + 1)) (nI p) (nI (d + 1)) (nI lo) (nI (st ρ p + j)) (nI (pM (tgt m))) (nI z) x S T := by
        intro w' a1 a3 x hx
        subst hx
        unfold wb_11_decides_100 wb_11_decides_126 wb_11_decides_127
        rcases (show lo = 0 ∨ lo = 1 by omega) with e | e
        · rw [e, if_pos (by decide), q_0]
          exact next w' 0 a1 (by omega) a3 ⟨fun q => absurd q (by decide), fun q => absurd q.1 (by omega)⟩
        · rw [e, if_neg (by decide)]
          rcases (show z = 0 ∨ z = 1 by omega) with e2 | e2
          · rw [e2, if_pos (by decide), q_0]
            refine next w' 0 a1 (by omega) a3 ⟨fun q => absurd q (by decide), fun q => ?_⟩
            have := hz1.mpr (by omega)
            omega
          · rw [e2, if_neg (by decide), nI_clamp (by omega), hz2 e2]
            have hlt := hz1.mp e2
            refine ⟨vv, ?_⟩
            by_cases hone : vO ρ d (tgt m) = 1
            · rw [if_pos (by rw [hone]; rfl), q_1]
              exact next w' 1 a1 (by omega) a3 ⟨fun _ => ⟨e, hone⟩, fun _ => rfl⟩
            · rw [if_neg (by rw [q_1, nI_eq (by omega) (by omega)]; exact hone), q_0]
              exact next w' 0 a1 (by omega) a3 ⟨fun q => absurd q (by decide), fun q => absurd q.2 hone⟩
      unfold wb_11_decides_74 wb_11_decides_95 wb_11_decides_99
      rcases (show w = 0 ∨ w = 1 by omega) with e | e
      · rw [e, if_pos (by decide)]
        rcases (show z = 0 ∨ z = 1 by omega) with e2 | e2
        · rw [if_pos (by rw [e2]; rfl)]
          refine t100 0 (by omega) ⟨fun q => absurd q (by decide), fun q => ?_⟩ 0 rfl
          rcases q with q | q
          · omega
          · have := hz1.mpr (by omega)
            omega
        · have hlt := hz1.mp e2
          rw [if_neg (by rw [e2]; decide), nI_clamp (by omega), hz2 e2]
          refine ⟨vv, ?_⟩
          by_cases hze : vO ρ d (tgt m) = 0
          · rw [if_pos (by rw [hze]; rfl)]
            exact t100 1 (by omega) ⟨fun _ => Or.inr hze, fun _ => rfl⟩ 1 rfl
          · rw [if_neg (by rw [q_0, nI_eq (by omega) (by omega)]; exact hze)]
            exact t100 0 (by omega) ⟨fun q => absurd q (by decide), fun q => by rcases q with q | q <;> omega⟩ 0 rfl
      · rw [e, if_neg (by decide)]
        exact t100 1 (by omega) ⟨fun _ => Or.inl e, fun _ => rfl⟩ 1 rfl
    show wb_11_decides_25 Q _ _ _ _ _ _ S T
    unfold wb_11_decides_25 wb_11_decides_73
    rw [nI_1, nI_clamp (by omega), hto, if_neg (nI_ge (by omega) (by omega)), nI_clamp (by omega), h14, nI_clamp (by omega), v15, v16]
    refine ⟨vp_in_nI (by omega) (by omega), vp_in_nI (by omega) (by omega), vv, ?_⟩
    obtain ⟨b1, b2⟩ := bef hr (p := p) (i := pM (tgt m)) hd
    rw [hpx] at b1 b2
    rw [hpx]
    by_cases hv : vO ρ d (tgt m) < 2
    · obtain ⟨c1, c2, c3⟩ := b2 hv
      rw [if_neg c1]
      refine ⟨vv, ?_⟩
      rw [if_neg c2, q_1]
      exact t74 1 (by omega) ⟨fun _ => hv, fun _ => rfl⟩ (fun _ => by rw [v15, hpx, c3])
    · have z0 := t74 0 (by omega) ⟨fun q => absurd q (by decide), fun q => absurd q hv⟩ (fun q => absurd q (by decide))
      rcases b1 hv with c1 | ⟨c1, c2⟩
      · rw [if_pos c1, q_0]; exact z0
      · rw [if_neg c1]
        refine ⟨vv, ?_⟩
        rw [if_pos c2, q_0]; exact z0
theorem lm_step {ρ : Ru} {d p : Nat} {S S' : hm_S} (hm : lm ρ d p S) (ho : ∀ i, i < 2430 → i ≠ p → S' 15 i = S 15 i ∧ S' 16 i = S 16 i) (hp : S' 15 p = nI (vO ρ (d + 1) (pX p)) ∧ S' 16 p = lvI ρ (d + 1) (pX p)) : lm ρ d (p + 1) S' := by
  intro i hi
  by_cases e : i = p
  · rw [e]
    have : lvA d (p + 1) p = d + 1 := by unfold lvA; rw [if_pos (by omega)]
    rw [this]
    exact hp
  · have : lvA d (p + 1) i = lvA d p i := by
      unfold lvA
      by_cases h1 : i < p
      · rw [if_pos h1, if_pos (by omega)]
      · rw [if_neg h1, if_neg (by omega)]
    rw [this, (ho i hi e).1, (ho i hi e).2]
    exact hm i hi
theorem z_decides {ρ : Ru} (hr : rok ρ) {d p : Nat} (hd : d < 2 ^ 30) (hp : p < 2430) {S : hm_S} (hg : gM ρ 2430 S) (h13 : S 13 2430 = nI (st ρ 2430)) (hm : lm ρ d p S) {Q : Int32 → hm_S → hm_T → Prop} (h : ∀ S', fr [15, 16] S S' → lm ρ d (p + 1) S' → Q (if ¬ vO ρ d (pX p) < 2 ∧ vO ρ (d + 1) (pX p) < 2 then 1 else 0) S' T) : wp_11_decides (nI p) (nI (d + 1)) S T Q := by
  obtain ⟨v15, v16⟩ := hm p hp
  have hlv : lvA d p p = d := by unfold lvA; rw [if_neg (Nat.lt_irrefl p)]
  rw [hlv] at v15 v16
  have v := vp_in_nI (n := p) (N := 2430) hp (by omega)
  have hle := vO_le hr d (pX p)
  unfold wp_11_decides
  rw [nI_clamp (by omega), v15]
  refine ⟨v, ?_⟩
  by_cases hdec : vO ρ d (pX p) < 2
  · rw [if_neg (by rw [q_2]; exact nI_ge hdec (by omega))]
    have hk := vO_keep hdec 1
    have := h S (fr.rf _ S) (lm_step hm (fun _ _ _ => ⟨rfl, rfl⟩) ⟨by rw [v15, hk], by rw [v16]; unfold lvI; rw [if_pos hdec, if_pos (by omega)]⟩)
    rw [if_neg (fun q => q.1 hdec)] at this
    exact this
  · rw [if_pos (by rw [q_2]; exact nI_le (by omega) (by omega)), hg.1 p hp]
    refine ⟨vp_in_nI (by omega) (by omega), (mv ρ (pX p)).length + 1, ?_⟩
    refine z_decLoop hr hd hp hg h13 hm (fun w lo hw hlo hW hL => ?_) (mv ρ (pX p)).length 0 0 1 (by omega) (by omega) (by omega) (by simp) (by simp)
    have hv1 := vO_s ρ d (pX p)
    rw [if_neg hdec] at hv1
    -- decided now
    have t144 : (w = 1 ∨ lo = 1) → wb_11_decides_144 Q (nI p) (nI (d + 1)) (nI w) (nI lo) S T := by
      intro hor
      have hval : vO ρ (d + 1) (pX p) = if w = 0 then 0 else 1 := by
        rw [hv1]
        by_cases hwz : w = 1
        · rw [if_pos (hW.mp hwz), if_neg (by omega)]
        · rw [if_neg (fun q => hwz (hW.mpr q)), if_pos (hL.mp (by omega)), if_pos (by omega)]
      have hlt : vO ρ (d + 1) (pX p) < 2 := by rw [hval]; by_cases q : w = 0 <;> simp [q]
      have hdf : dF ρ (pX p) = d + 1 := dF_eq hlt (fun e he => fun q => hdec (by rw [vO_mono q (show e ≤ d by omega)]; exact q))
      have fin : ∀ z : Int32, z = nI (vO ρ (d + 1) (pX p)) → wb_11_decides_158 Q (nI p) (nI (d + 1)) (nI w) (nI lo) z (nI p) S T := by
        intro z hz
        unfold wb_11_decides_158 wb_11_decides_166 wb_11_decides_175
        rw [nI_clamp (by omega)]
        refine ⟨v, v, ?_⟩
        have hres := h (hm_up (hm_up S 15 p z) 16 p (nI (d + 1))) ((fr.up S _ _ (by decide)).tr (fr.up _ _ _ (by decide))) (lm_step hm (fun i _ hi => ⟨by rw [hm_up_row _ _ _ (by decide), hm_up_col _ _ hi], by rw [hm_up_col _ _ hi, hm_up_row _ _ _ (by decide)]⟩) ⟨by rw [hm_up_row _ _ _ (by decide), hm_up_same, hz], by rw [hm_up_same]; unfold lvI; rw [if_pos hlt, hdf]⟩)
        rw [if_pos ⟨hdec, hlt⟩] at hres
        by_cases hwz : w = 0
        · rw [if_pos (by rw [hwz]; rfl), if_neg (by rw [q_0, nI_eq (by omega) (by omega)]; omega)]
          exact hres
        · rw [if_neg (by rw [q_0, nI_eq (by omega) (by omega)]; exact hwz)]
          exact hres
      unfold wb_11_decides_144
      by_cases hwz : w = 0
      · rw [if_pos (by rw [hwz]; rfl)]
        exact fin 0 (by rw [hval, if_pos hwz]; rfl)
      · rw [if_neg (by rw [q_0, nI_eq (by omega) (by omega)]; exact hwz)]
        exact fin 1 (by rw [hval, if_neg hwz]; rfl)
    unfold wb_11_decides_135
    by_cases hwz : w = 0
    · rw [if_pos (by rw [hwz]; rfl)]
      by_cases hlz : lo = 0
      · rw [if_pos (by rw [hlz]; rfl)]
        unfold wb_11_decides_166
        rw [if_pos (by rw [hwz]; rfl), if_pos (by rw [hlz]; rfl)]
        have hval : vO ρ (d + 1) (pX p) = 2 := by
          rw [hv1, if_neg (fun q => by have := hW.mpr q; omega), if_neg (fun q => by have := hL.mpr q; omega)]
        have hd2 : vO ρ d (pX p) = 2 := by omega
        have := h S (fr.rf _ S) (lm_step hm (fun _ _ _ => ⟨rfl, rfl⟩) ⟨by rw [v15, hval, hd2], by rw [v16]; unfold lvI; rw [if_neg hdec, if_neg (by omega)]⟩)
        rw [if_neg (fun q => by omega)] at this
        exact this
      · rw [if_neg (by rw [q_0, nI_eq (by omega) (by omega)]; exact hlz)]
        exact t144 (Or.inr (by omega))
    · rw [if_neg (by rw [q_0, nI_eq (by omega) (by omega)]; exact hwz)]
      exact t144 (Or.inl (by omega))
end MD
