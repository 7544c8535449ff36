/-! ===== solve, whole ===== -/
def fsX (S S' : hm_S) : Prop := fr [36, 46, 48, 50, 52, 54, 56] S S' ∧ ∀ k, k ≠ 14 → k ≠ 15 → S' 36 k = S 36 k
theorem fsX.rf (S : hm_S) : fsX S S := ⟨fr.rf _ S, fun _ _ _ => rfl⟩
theorem fsX.XE {ρ : Ru} {kn : List Nat} {i j : Nat} {S S' : hm_S} (h : fsX S S') (hx : XE ρ kn i j S) : XE ρ kn i j S' := ⟨hx.1.fr h.1 (by decide), hx.2.1.fr h.1 (by decide), hx.2.2.1.fr h.1 (by decide), hx.2.2.2.1.fr h.1 (by decide) (h.2 13 (by decide) (by decide)), hx.2.2.2.2.fr h.1 (by decide)⟩
section XV2
variable {T : hm_T}
theorem x_solve {ρ : Ru} (hr : rok ρ) {kn : List Nat} {S : hm_S} (hx : XE ρ kn kn.length 0 S) (hs : S 36 15 = 0 ∨ (S 36 15 = 1 ∧ solX ρ kn S)) {Q : hm_S → hm_T → Prop} (h : ∀ S', fsX S S' → S' 36 15 = 1 → solX ρ kn S' → Q S' T) : wp_8_solve S T Q := by
  unfold wp_8_solve
  rcases hs with hs | ⟨hs, hs2⟩
  · have hk := hx.2.2.2.1
    have hkl := hk.len
    have hsx := sx_le (ρ := ρ) hk.nd hk.lt kn.length
    have hl := EL_len (ρ := ρ) (kn := kn) kn.length (Nat.le_refl _)
    have hc : clo ρ kn := fun q hq => hx.closed hq
    rw [if_pos hs]
    refine x_turn hx (fun S1 f1 b1 => ?_)
    have f2 : fr [36] S1 (hm_up S1 36 14 0) := fr.up S1 _ _ (by decide)
    have g2 : fsX S (hm_up S1 36 14 0) := ⟨(f1.mono (by decide)).tr (f2.mono (by decide)), fun k h1 _ => by rw [hm_up_col _ _ h1, f1 36 (by decide)]⟩
    have b2 : BT ρ kn (hm_up S1 36 14 0) := by unfold BT; rw [f2 46 (by decide), f2 48 (by decide)]; exact b1
    have hx2 := g2.XE hx
    -- all positions are begun with
    have start : ∀ c k qu S3, k + c = kn.length → fq (hm_up S1 36 14 0) S3 → SI ρ kn k qu (fun _ => 0) S3 → (∀ w ∈ qu, dN ρ kn w = 0) → wl_8_solve_19 Q (c + 1) (nI k) S3 T := by
      intro c
      induction c with
      | zero =>
        intro k qu S3 hk3 f3 i3 z3
        show wb_8_solve_19 Q _ _ S3 T
        unfold wb_8_solve_19 wb_8_solve_38
        rw [f3.2 13 (by decide), hx2.2.2.2.1.fnd, if_pos (nI_le (by omega) (by omega)), q_0]
        have hke : k = kn.length := by omega
        subst hke
        refine ⟨_, x_queue (S0 := hm_up S1 36 14 0) hr hc hkl (by omega) b2 (fun S4 f4 s4 => ?_) 2430 0 qu S3 (by omega) ⟨f3, ⟨i3.1, i3.2.1, i3.2.2.1, i3.2.2.2.1, i3.2.2.2.2.1, fun u hu huq => ?_⟩, fun u hu huq t ht htp => absurd htp (by simp), fun i j a b hij ha hb => ?_, by omega, fun v hv w hw => ?_⟩⟩
        · have f5 : fr [36] S4 (hm_up S4 36 15 1) := fr.up S4 _ _ (by decide)
          refine h _ ⟨(g2.1.tr (f4.1.mono (by decide))).tr (f5.mono (by decide)), fun k h1 h2 => ?_⟩ (hm_up_same _ _ _ _) ?_
          · rw [hm_up_col _ _ h2, f4.2 k h1]
            exact g2.2 k h1 h2
          · unfold solX
            rw [f5 50 (by decide), f5 52 (by decide)]
            exact s4
        · have h0 : dn ρ kn (qu.take 0) u = 0 := by unfold dn; simp
          rw [h0]
          exact i3.2.2.2.2.2 u hu huq
        · have := z3 a (List.mem_of_getElem? ha)
          have := z3 b (List.mem_of_getElem? hb)
          omega
        · have := z3 w hw
          omega
      | succ c ih =>
        intro k qu S3 hk3 f3 i3 z3
        show wb_8_solve_19 Q _ _ S3 T
        unfold wb_8_solve_19
        rw [f3.2 13 (by decide), hx2.2.2.2.1.fnd, if_neg (nI_ge (by omega) (by omega)), nI_1]
        refine x_startWith hr hkl (by omega) (show k < kn.length by omega) (hx2.2.1.fr f3.1 (by decide)) ?_ i3 z3 (fun qu' S' f' i' z' => ih (k + 1) qu' S' (by omega) (f3.tr f') i' z')
        rw [f3.1 42 (by decide)]
        exact hx2.2.2.2.2.1
    refine ⟨_, start kn.length 0 [] _ (by omega) (fq.rf _) ⟨List.nodup_nil, fun u hu => absurd hu (by simp), hm_up_same _ _ _ _, fun i u hu => absurd hu (by simp), fun u hu => absurd hu (by simp), fun u hu => absurd hu (Nat.not_lt_zero u)⟩ (fun w hw => absurd hw (by simp))⟩
  · rw [if_neg (by rw [hs]; decide)]
    exact h S (fsX.rf S) hs hs2
/-- the answers of a known position -/
theorem x_outcomeOf {ρ : Ru} {kn : List Nat} {S : hm_S} (hk : KN kn S) (hs : solX ρ kn S) {q : Nat} (hq : q ∈ kn) {Q : Int32 → hm_S → hm_T → Prop} (h : Q (nI (oF ρ q)) S T) : wp_8_outcomeOf (nI q) S T Q := by
  obtain ⟨i1, i2⟩ := ix_at hq
  have hkl := hk.len
  unfold wp_8_outcomeOf
  rw [e_get (hk.lt q hq) (by omega)]
  simp only [Nat.reduceAdd]
  rw [(hk.at' _ q i2).2, nI_pred, e_get (by omega) (by omega)]
  simp only [Nat.reduceAdd]
  have := (hs _ i1).1
  rw [nd_eq i2] at this
  rw [this]
  exact h
theorem x_distanceOf {ρ : Ru} {kn : List Nat} {S : hm_S} (hk : KN kn S) (hs : solX ρ kn S) {q : Nat} (hq : q ∈ kn) {Q : Int32 → hm_S → hm_T → Prop} (h : Q (dI ρ q) S T) : wp_8_distanceOf (nI q) S T Q := by
  obtain ⟨i1, i2⟩ := ix_at hq
  have hkl := hk.len
  unfold wp_8_distanceOf
  rw [e_get (hk.lt q hq) (by omega)]
  simp only [Nat.reduceAdd]
  rw [(hk.at' _ q i2).2, nI_pred, e_get (by omega) (by omega)]
  simp only [Nat.reduceAdd]
  have := (hs _ i1).2
  rw [nd_eq i2] at this
  rw [this]
  exact h
/-- forget: nothing is known -/
theorem x_forget {ρ : Ru} {kn : List Nat} {S : hm_S} (hx : XE ρ kn kn.length 0 S) {Q : hm_S → hm_T → Prop} (h : ∀ S', fr [36, 38] S S' → S' 36 15 = 0 → KN [] S' → (∀ ρ', SP ρ' [] 0 0 S') → Q S' T) : wp_8_forget S T Q := by
  unfold wp_8_forget
  refine z_clear (by omega) ?_
  simp only [Nat.reduceAdd]
  have f1 : fr [36, 38] S (hm_fill S 38 2430 0) := fr.fill S _ _ (by decide)
  have f2 : fr [36] (hm_fill S 38 2430 0) (hm_up (hm_up (hm_fill S 38 2430 0) 36 13 0) 36 15 0) := (fr.up _ _ _ (by decide)).tr (fr.up _ _ _ (by decide))
  refine h _ (f1.tr (f2.mono (by decide))) (hm_up_same _ _ _ _) ⟨List.nodup_nil, fun q hq => absurd hq (by simp), ?_, fun i q hq => absurd hq (by simp), fun q hq _ => ?_⟩ (fun ρ' => ⟨fun a ha => ?_, fun a b q m h1 => absurd h1 (by simp)⟩)
  · rw [hm_up_col _ _ (by decide), hm_up_same]
    rfl
  · rw [f2 38 (by decide)]
    simp [hm_fill, hq]
  · have e : a = 0 := by omega
    rw [e, f2 42 (by decide), f1 42 (by decide)]
    exact hx.2.2.2.2.1 0 (by omega)
end XV2
