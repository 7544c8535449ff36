/-! ===== explore, whole ===== -/
theorem SP.app0 {kn e : List Nat} {ρ : Ru} {S : hm_S} (h : SP ρ kn kn.length 0 S) : SP ρ (kn ++ e) kn.length 0 S := by
  refine ⟨fun a ha => ?_, fun a b q m h1 h2 h3 => ?_⟩
  · rw [sx_app (by omega)]; exact h.1 a ha
  · have hal : a < kn.length := by omega
    rw [List.getElem?_append_left hal] at h1
    obtain ⟨t, t1, t2⟩ := h.2 a b q m h1 h2 h3
    exact ⟨t, gE_app t1, by rw [sx_app (by omega)]; exact t2⟩
section XE2
variable {T : hm_T}
theorem x_expOut {ρ : Ru} (hr : rok ρ) {Q : hm_S → hm_T → Prop} {kn0 : List Nat} {S0 : hm_S} (h : ∀ kn S, (∃ e, kn = kn0 ++ e) → (kn = kn0 ∧ S 36 15 = S0 36 15 ∨ S 36 15 = 0) → fr fxE S0 S → XE ρ kn kn.length 0 S → Q S T) : ∀ c i kn S, i + c = 2430 → i ≤ kn.length → (∃ e, kn = kn0 ++ e) → (kn = kn0 ∧ S 36 15 = S0 36 15 ∨ S 36 15 = 0) → fr fxE S0 S → XE ρ kn i 0 S → wl_8_explore_13 Q (c + 1) (nI i) S T := by
  intro c
  induction c with
  | zero =>
    intro i kn S hc hi he hs hf hx
    have hkl := hx.2.2.2.1.len
    have e : i = kn.length := by omega
    show wb_8_explore_13 Q _ _ S T
    unfold wb_8_explore_13
    rw [hx.2.2.2.1.fnd, if_pos (nI_le (by omega) (by omega))]
    exact h kn S he hs hf (e ▸ hx)
  | succ c ih =>
    intro i kn S hc hi he hs hf hx
    obtain ⟨ht, hu, hl, hk, hp⟩ := hx
    have hkl := hk.len
    show wb_8_explore_13 Q _ _ S T
    unfold wb_8_explore_13
    rcases Nat.lt_or_ge i kn.length with hil | hil
    · obtain ⟨q, hq⟩ : ∃ q, kn[i]? = some q := ⟨_, List.getElem?_eq_getElem hil⟩
      have hqm := List.mem_of_getElem? hq
      have hq2 := hk.lt q hqm
      have hne : ¬ (2430 : Int32) ≤ nI i := by rw [q_2430]; exact nI_ge (by omega) (by omega)
      rw [hk.fnd, if_neg (nI_ge hil (by omega)), if_neg hne, e_get (by omega) (by omega)]
      simp only [Nat.reduceAdd]
      rw [(hk.at' i q hq).1]
      refine x_list hr hq2 ht hu (hl q hq2) (fun S' f1 h12 hm => ?_)
      have hp' : SP ρ kn i 0 S' := hp.fr f1 (by decide)
      rw [e_get (by omega) (by omega)]
      simp only [Nat.reduceAdd]
      rw [hp'.1 i (Nat.le_refl _), q_0]
      refine ⟨(mv ρ q).length + 1, x_expIn (kn0 := kn0) (S0 := S0) hq2 (fun kn2 S2 e2 l2 s2 f2 x2 => ?_) (mv ρ q).length 0 kn S' (by omega) he hq ?_ (hf.tr (f1.mono (by decide))) h12 hm ⟨f1.tab ht, f1.ru hu, lcX.mk hq2 h12 hm, hk.fr f1 (by decide) (by rw [f1 36 (by decide)]), hp'⟩⟩
      · exact ih (i + 1) kn2 S2 (by omega) l2 e2 s2 f2 x2
      · rw [f1 36 (by decide)]; exact hs
    · have e : i = kn.length := by omega
      rw [hk.fnd, if_pos (nI_le (by omega) (by omega))]
      exact h kn S he hs hf (e ▸ ⟨ht, hu, hl, hk, hp⟩)
/-- explore: the known positions grow to a closed set in which x lies -/
theorem x_explore {ρ : Ru} (hr : rok ρ) {kn : List Nat} {q : Nat} (hq : q < 2430) {S : hm_S} (hx : XE ρ kn kn.length 0 S) {Q : hm_S → hm_T → Prop} (h : ∀ kn' S', q ∈ kn' → (∃ e, kn' = kn ++ e) → (kn' = kn ∧ S' 36 15 = S 36 15 ∨ S' 36 15 = 0) → fr fxE S S' → XE ρ kn' kn'.length 0 S' → Q S' T) : wp_8_explore (nI q) S T Q := by
  obtain ⟨ht, hu, hl, hk, hp⟩ := hx
  have hkl := hk.len
  unfold wp_8_explore
  refine x_numberFor hq hk (fun kn' t S' hor f1 hk' ht' => ?_)
  have he' : ∃ e, kn' = kn ++ e := by
    rcases hor with ⟨a, -⟩ | ⟨-, a, -⟩
    · exact ⟨[], by rw [a, List.append_nil]⟩
    · exact ⟨_, a⟩
  obtain ⟨e', ee⟩ := he'
  have hp' : SP ρ kn' kn.length 0 S' := by rw [ee]; exact (hp.fr f1 (by decide)).app0
  rw [hk.fnd]
  refine ⟨2430 - kn.length + 1, x_expOut (kn0 := kn') (S0 := S') hr (fun kn2 S2 e2 s2 f2 x2 => ?_) (2430 - kn.length) kn.length kn' S' (by omega) (by rw [ee, List.length_append]; omega) ⟨[], by rw [List.append_nil]⟩ (Or.inl ⟨rfl, rfl⟩) (fr.rf _ _) ⟨ht.fr f1 (by decide), hu.fr f1 (by decide), hl.fr f1 (by decide), hk', hp'⟩⟩
  obtain ⟨e3, ee3⟩ := e2
  refine h kn2 S2 ?_ ⟨e' ++ e3, by rw [ee3, ee, List.append_assoc]⟩ ?_ ((f1.mono (by decide)).tr f2) x2
  · rw [ee3]; exact List.mem_append_left _ (List.mem_of_getElem? ht')
  · rcases hor with ⟨a, b⟩ | ⟨-, -, b⟩
    · rw [a, b] at s2; exact s2
    · rcases s2 with ⟨-, s⟩ | s
      · exact Or.inr (s.trans b)
      · exact Or.inr s
end XE2
/-- a closed set: what lies a move away is known -/
theorem XE.closed {ρ : Ru} {kn : List Nat} {S : hm_S} (h : XE ρ kn kn.length 0 S) {q : Nat} (hq : q ∈ kn) : ∀ t ∈ suc ρ q, t ∈ kn := by
  intro t ht
  obtain ⟨a, ha⟩ := List.mem_iff_getElem?.mp hq
  obtain ⟨m, hm, rfl⟩ := List.mem_map.mp ht
  obtain ⟨b, hb⟩ := List.mem_iff_getElem?.mp hm
  obtain ⟨t2, h1, -⟩ := h.2.2.2.2.2 a b q m ha hb (Or.inl (List.getElem?_eq_some_iff.mp ha).1)
  exact List.mem_of_getElem? h1
