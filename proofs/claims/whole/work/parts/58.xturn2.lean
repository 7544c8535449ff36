/-! ===== the steps as a list of pairs of numbers; turnStepsRound, whole ===== -/
theorem ix_at {kn : List Nat} {q : Nat} (h : q ∈ kn) : kn.idxOf q < kn.length ∧ kn[kn.idxOf q]? = some q := by
  have h1 : kn.idxOf q < kn.length := List.idxOf_lt_length_iff.mpr h
  exact ⟨h1, by rw [List.getElem?_eq_getElem h1, List.getElem_idxOf h1]⟩
theorem ix_eq {kn : List Nat} (hn : kn.Nodup) {q t : Nat} (h : kn[t]? = some q) : kn.idxOf q = t := by
  obtain ⟨h1, h2⟩ := ix_at (List.mem_of_getElem? h)
  exact (List.getElem?_inj h1 hn).mp (h2.trans h.symm)
def ndA (kn : List Nat) (i : Nat) : Nat := kn.getD i 0
theorem nd_at {kn : List Nat} {i : Nat} (h : i < kn.length) : kn[i]? = some (ndA kn i) := by
  unfold ndA
  rw [List.getD_eq_getElem?_getD, List.getElem?_eq_getElem h]
  rfl
theorem nd_eq {kn : List Nat} {i q : Nat} (h : kn[i]? = some q) : ndA kn i = q := by
  unfold ndA
  rw [List.getD_eq_getElem?_getD, h]
  rfl
/-- the numbers to which the steps of the i-th lead -/
def ad (ρ : Ru) (kn : List Nat) (i : Nat) : List Nat := (suc ρ (ndA kn i)).map (fun t => kn.idxOf t)
theorem ad_len (ρ : Ru) (kn : List Nat) (i : Nat) : (ad ρ kn i).length = (mv ρ (ndA kn i)).length := by unfold ad suc; rw [List.length_map, List.length_map]
def EL (ρ : Ru) (kn : List Nat) : Nat → List (Nat × Nat)
  | 0 => []
  | i + 1 => EL ρ kn i ++ (ad ρ kn i).map (fun t => (i, t))
theorem EL_len {ρ : Ru} {kn : List Nat} : ∀ i, i ≤ kn.length → (EL ρ kn i).length = sx ρ kn i := by
  intro i
  induction i with
  | zero => intro _; rfl
  | succ i ih =>
    intro h
    rw [sx_s (nd_at (kn := kn) (i := i) (by omega))]
    simp only [EL]
    rw [List.length_append, ih (by omega), List.length_map, ad_len]
theorem EL_inv {ρ : Ru} {kn : List Nat} : ∀ i, i ≤ kn.length → ∀ k e, (EL ρ kn i)[k]? = some e → e.1 < i ∧ ∃ b, k = sx ρ kn e.1 + b ∧ (ad ρ kn e.1)[b]? = some e.2 := by
  intro i
  induction i with
  | zero => intro _ k e h; simp [EL] at h
  | succ i ih =>
    intro hi k e h
    simp only [EL] at h
    have hl := EL_len (ρ := ρ) (kn := kn) i (by omega)
    rcases Nat.lt_or_ge k (sx ρ kn i) with g | g
    · rw [List.getElem?_append_left (by omega)] at h
      obtain ⟨h1, h2⟩ := ih (by omega) k e h
      exact ⟨by omega, h2⟩
    · rw [List.getElem?_append_right (by omega), List.getElem?_map, hl] at h
      obtain ⟨t, h1, h2⟩ := Option.map_eq_some_iff.mp h
      subst h2
      exact ⟨by show i < i + 1; omega, k - sx ρ kn i, by show k = sx ρ kn i + _; omega, h1⟩
theorem EL_src {ρ : Ru} {kn : List Nat} {a k : Nat} {e : Nat × Nat} (h : (EL ρ kn kn.length)[k]? = some e) (h1 : sx ρ kn a ≤ k) (h2 : k < sx ρ kn (a + 1)) : e.1 = a := by
  obtain ⟨g1, b, g2, g3⟩ := EL_inv kn.length (Nat.le_refl _) k e h
  have hb := (List.getElem?_eq_some_iff.mp g3).1
  rw [ad_len] at hb
  have hs := sx_s (ρ := ρ) (nd_at g1)
  rcases Nat.lt_trichotomy e.1 a with q | q | q
  · have := sx_mono (ρ := ρ) (kn := kn) (show e.1 + 1 ≤ a by omega)
    omega
  · exact q
  · have := sx_mono (ρ := ρ) (kn := kn) (show a + 1 ≤ e.1 by omega)
    omega
theorem ad_lt {ρ : Ru} {kn : List Nat} {S : hm_S} (hx : XE ρ kn kn.length 0 S) {i : Nat} (hi : i < kn.length) : ∀ t ∈ ad ρ kn i, t < kn.length := by
  intro t ht
  obtain ⟨q, hq, rfl⟩ := List.mem_map.mp ht
  exact (ix_at (hx.closed (List.mem_of_getElem? (nd_at hi)) q hq)).1
theorem XE.row44 {ρ : Ru} {kn : List Nat} {S : hm_S} (hx : XE ρ kn kn.length 0 S) {i b t : Nat} (hi : i < kn.length) (h : (ad ρ kn i)[b]? = some t) : S 44 (sx ρ kn i + b) = nI t := by
  unfold ad suc at h
  rw [List.getElem?_map, List.getElem?_map] at h
  obtain ⟨q, h1, h2⟩ := Option.map_eq_some_iff.mp h
  obtain ⟨m, h3, h4⟩ := Option.map_eq_some_iff.mp h1
  obtain ⟨t2, u1, u2⟩ := hx.2.2.2.2.2 i b (ndA kn i) m (nd_at hi) h3 (Or.inl hi)
  have e := ix_eq hx.2.2.2.1.nd u1
  rw [u2, ← e, ← h2, ← h4]
/-- the steps turned round, as they lie -/
def BT (ρ : Ru) (kn : List Nat) (S : hm_S) : Prop := (∀ v, v ≤ kn.length → S 46 v = nI (CB (EL ρ kn kn.length) v)) ∧ ∀ v i u, v < kn.length → (pre (EL ρ kn kn.length) v)[i]? = some u → S 48 (CB (EL ρ kn kn.length) (v + 1) - 1 - i) = nI u
section XT2
variable {T : hm_T}
theorem x_turn {ρ : Ru} {kn : List Nat} {S : hm_S} (hx : XE ρ kn kn.length 0 S) {Q : hm_S → hm_T → Prop} (h : ∀ S', fr [46, 48] S S' → BT ρ kn S' → Q S' T) : wp_8_turnStepsRound S T Q := by
  have hk := hx.2.2.2.1
  have hkl := hk.len
  have hsx := sx_le (ρ := ρ) hk.nd hk.lt kn.length
  have hl := EL_len (ρ := ρ) (kn := kn) kn.length (Nat.le_refl _)
  have hE : ∀ e ∈ EL ρ kn kn.length, e.2 < kn.length := by
    intro e he
    obtain ⟨k, hk2⟩ := List.mem_iff_getElem?.mp he
    obtain ⟨g1, b, g2, g3⟩ := EL_inv kn.length (Nat.le_refl _) k e hk2
    exact ad_lt hx g1 e.2 (List.mem_of_getElem? g3)
  have h44 : ∀ k e, (EL ρ kn kn.length)[k]? = some e → S 44 k = nI e.2 := by
    intro k e he
    obtain ⟨g1, b, g2, g3⟩ := EL_inv kn.length (Nat.le_refl _) k e he
    rw [g2]
    exact hx.row44 g1 g3
  unfold wp_8_turnStepsRound
  refine z_clear (by omega) ?_
  simp only [Nat.reduceAdd]
  have f0 : fr [46, 48] S (hm_fill S 46 2431 0) := fr.fill S _ _ (by decide)
  rw [f0 36 (by decide), hk.fnd, e_get (by omega) (by omega)]
  simp only [Nat.reduceAdd]
  rw [f0 42 (by decide), hx.2.2.2.2.1 kn.length (Nat.le_refl _), ← hl, q_0]
  refine ⟨_, x_trnA (S0 := S) hkl (by omega) hE h44 (fun S1 f1 h1 => ?_) (EL ρ kn kn.length).length 0 _ (by omega) f0 (fun v hv => ?_)⟩
  · unfold wb_8_turnStepsRound_48
    rw [q_1]
    refine ⟨_, x_trnB (E := EL ρ kn kn.length) (S0 := S) hkl hk.fnd (fun S2 f2 h2 => ?_) kn.length 1 S1 (by omega) (by omega) f1 (fun v hv => ?_)⟩
    · unfold wb_8_turnStepsRound_82
      rw [q_0]
      -- position by position
      have out : ∀ c u S3, u + c = kn.length → fr [46, 48] S S3 → BK (EL ρ kn kn.length) kn.length (sx ρ kn u) S3 → wl_8_turnStepsRound_84 Q (c + 1) (nI u) S3 T := by
        intro c
        induction c with
        | zero =>
          intro u S3 hu f3 b3
          show wb_8_turnStepsRound_84 Q _ _ S3 T
          unfold wb_8_turnStepsRound_84
          rw [f3 36 (by decide), hk.fnd, if_pos (nI_le (by omega) (by omega))]
          rw [show u = kn.length by omega] at b3
          refine h S3 f3 ⟨fun v hv => ?_, fun v i w hv hw => ?_⟩
          · rw [b3.1 v hv, prd_all (by omega), CB_s]
            congr 1
            omega
          · exact b3.2 v i w hv (by rw [prd_all (by omega)]; exact hw)
        | succ c ih =>
          intro u S3 hu f3 b3
          have hm := sx_mono (ρ := ρ) (kn := kn) (show u + 1 ≤ kn.length by omega)
          have hm2 := sx_mono (ρ := ρ) (kn := kn) (show u ≤ u + 1 by omega)
          show wb_8_turnStepsRound_84 Q _ _ S3 T
          unfold wb_8_turnStepsRound_84
          rw [f3 36 (by decide), hk.fnd, if_neg (nI_ge (by omega) (by omega)), nI_1, e_get (by omega) (by omega), e_get (by omega) (by omega)]
          simp only [Nat.reduceAdd]
          rw [f3 42 (by decide), hx.2.2.2.2.1 (u + 1) (by omega), hx.2.2.2.2.1 u (by omega)]
          exact ⟨_, x_trnC (S0 := S) hkl (by omega) hE h44 (by omega) (fun S4 f4 b4 => ih (u + 1) S4 (by omega) f4 b4) (sx ρ kn (u + 1) - sx ρ kn u) (sx ρ kn u) S3 (by omega) (fun j e h1 h2 h3 => EL_src h3 h1 h2) f3 b3⟩
      refine ⟨_, out kn.length 0 S2 (by omega) f2 ⟨fun v hv => ?_, fun v i w hv hw => ?_⟩⟩
      · rw [h2 v hv]
        rfl
      · simp [pre, sx] at hw
    · rw [h1 v (by omega)]
      by_cases hv0 : v < 1
      · rw [if_pos hv0, show v = 0 by omega]
        congr 1
        rw [CB_s]
        show _ = 0 + _
        omega
      · rw [if_neg hv0]
  · simp [hm_fill, hv, pre]
end XT2
