/-! ===== the reference's period ===== -/
section MPE
variable {T : hm_T}
theorem z_rep {g : Nat → Nat} {S : hm_S} (hv : ∀ i, i ≤ 60 → S 19 i = nI (g i)) (hg : ∀ i, i ≤ 60 → g i ≤ 60) {p s : Nat} (hp : 1 ≤ p) (hp2 : p ≤ 20) (hs : s ≤ 20) {Q : Int32 → hm_S → hm_T → Prop} (h : Q (if stp g p ≤ s then 1 else 0) S T) : wp_11_repeats (nI p) (nI s) S T Q := by
  have key : ∀ c n b, n + c = 61 - p → s ≤ n → b < 2 → (b = 1 ↔ ∀ m, s ≤ m → m < n → g m = g (m + p)) → wl_11_repeats_5 Q (c + 1) (nI p) (nI b) (nI n) S T := by
    intro c
    induction c with
    | zero =>
      intro n b hn hsn hb hi
      show wb_11_repeats_5 Q _ _ _ _ S T
      unfold wb_11_repeats_5
      rw [q_60, pk_sub (by omega), if_pos (nI_lt (by omega) (by omega))]
      have e : stp g p ≤ s ↔ b = 1 := by
        unfold stp
        rw [stF_iff g p (61 - p) s (by omega), hi, show n = 61 - p by omega]
      have e2 : (if stp g p ≤ s then (1 : Int32) else 0) = nI b := by
        by_cases q : b = 1
        · rw [if_pos (e.mpr q), q]; rfl
        · rw [if_neg (fun w => q (e.mp w)), show b = 0 by omega]; rfl
      rw [e2] at h
      refine ⟨?_, h⟩
      rcases (show b = 0 ∨ b = 1 by omega) with q | q <;> rw [q]
      · exact Or.inl rfl
      · exact Or.inr rfl
    | succ c ih =>
      intro n b hn hsn hb hi
      show wb_11_repeats_5 Q _ _ _ _ S T
      unfold wb_11_repeats_5 wb_11_repeats_41 wb_11_repeats_42
      rw [q_60, pk_sub (by omega), if_neg (nI_nlt (by omega) (by omega)), nI_1 n]
      by_cases q : b = 1
      · have g1 := hg n (by omega)
        have g2 := hg (n + p) (by omega)
        rw [if_neg (by rw [q]; decide), nI_add, nI_clamp (show n < 2 ^ 31 by omega), nI_clamp (show n + p < 2 ^ 31 by omega), hv n (by omega), hv (n + p) (by omega)]
        refine ⟨vp_in_nI (by omega) (by omega), vp_in_nI (by omega) (by omega), ?_⟩
        by_cases w : g n = g (n + p)
        · rw [if_pos (by rw [w]), q_1]
          refine ih (n + 1) 1 (by omega) (by omega) (by omega) ⟨fun _ m h1 h2 => ?_, fun _ => rfl⟩
          rcases Nat.lt_or_ge m n with r | r
          · exact hi.mp q m h1 r
          · rw [show m = n by omega]; exact w
        · rw [if_neg (by rw [nI_eq (by omega) (by omega)]; exact w), q_0]
          exact ih (n + 1) 0 (by omega) (by omega) (by omega) ⟨fun z => absurd z (by decide), fun z => absurd (z n hsn (by omega)) w⟩
      · rw [if_pos (by rw [show b = 0 by omega]; rfl), q_0]
        exact ih (n + 1) 0 (by omega) (by omega) (by omega) ⟨fun z => absurd z (by decide), fun z => absurd (hi.mpr (fun m h1 h2 => z m h1 (by omega))) q⟩
  unfold wp_11_repeats
  rw [q_1]
  exact ⟨_, key (61 - p - s) s 1 (by omega) (by omega) (by omega) ⟨fun _ m h1 h2 => absurd h2 (by omega), fun _ => rfl⟩⟩
theorem z_perIn {g : Nat → Nat} {S : hm_S} (hv : ∀ i, i ≤ 60 → S 19 i = nI (g i)) (hg : ∀ i, i ≤ 60 → g i ≤ 60) {p : Nat} (hp : 1 ≤ p) (hp2 : p ≤ 20) {x : Int32} {Q : Int32 → hm_S → hm_T → Prop} {K18 : Int32 → Int32 → hm_S → hm_T → Prop} (h1 : stp g p ≤ 20 → wb_11_period_41 Q x (nI p) (nI (stp g p)) S T) (h2 : ¬ stp g p ≤ 20 → K18 x (nI (p + 1)) S T) : ∀ c s, s + c = 21 → s ≤ stp g p → wl_11_period_26 Q K18 (c + 1) x (nI p) (nI s) S T := by
  intro c
  induction c with
  | zero =>
    intro s hs hl
    show wb_11_period_26 Q K18 _ _ _ _ S T
    unfold wb_11_period_26 wb_11_period_57
    rw [q_20, if_pos (nI_lt (by omega) (by omega)), nI_1]
    exact h2 (by omega)
  | succ c ih =>
    intro s hs hl
    show wb_11_period_26 Q K18 _ _ _ _ S T
    unfold wb_11_period_26
    rw [q_20, if_neg (nI_nlt (by omega) (by omega))]
    refine z_rep hv hg hp hp2 (by omega) ?_
    by_cases q : stp g p ≤ s
    · rw [if_pos q, if_neg (by decide)]
      have e : stp g p = s := by omega
      rw [← e]
      exact h1 (by omega)
    · rw [if_neg q, if_pos rfl, nI_1]
      exact ih (s + 1) (by omega) (by omega)
theorem z_perOut {g : Nat → Nat} {S : hm_S} (hv : ∀ i, i ≤ 60 → S 19 i = nI (g i)) (hg : ∀ i, i ≤ 60 → g i ≤ 60) {x : Int32} {Q : Int32 → hm_S → hm_T → Prop} (h : Q (if x = 0 then (perF g 20 1).1 else (perF g 20 1).2) S T) : ∀ c p, p + c = 21 → 1 ≤ p → perF g c p = perF g 20 1 → wl_11_period_18 Q (c + 1) x (nI p) S T := by
  intro c
  induction c with
  | zero =>
    intro p hp h1 he
    show wb_11_period_18 Q _ _ _ S T
    unfold wb_11_period_18
    rw [q_20, if_pos (nI_lt (by omega) (by omega))]
    rw [← he] at h
    have e : (if x = 0 then (perF g 0 p).1 else (perF g 0 p).2) = -1 := by by_cases q : x = 0 <;> simp [q, perF]
    rw [e] at h
    exact h
  | succ c ih =>
    intro p hp h1 he
    show wb_11_period_18 Q _ _ _ S T
    unfold wb_11_period_18
    rw [q_20, if_neg (nI_nlt (by omega) (by omega)), q_0]
    rw [perF_s g c p] at he
    refine ⟨_, z_perIn hv hg h1 (by omega) (fun hs => ?_) (fun hs => ?_) 21 0 (by omega) (by omega)⟩
    · rw [if_pos hs] at he
      unfold wb_11_period_41
      rw [← he] at h
      by_cases q : x = 0
      · rw [if_pos q] at h ⊢; exact h
      · rw [if_neg q] at h ⊢; exact h
    · rw [if_neg hs] at he
      exact ih (p + 1) (by omega) (by omega) he
end MPE
