/-! ===== the new objects ===== -/
def s_0 : Sp := ((fun _ => 0, 0, 0, 0), [], 0, [])
theorem ok_0 : okS s_0 := ⟨⟨fun _ => by show 0 < 8; omega, by show 0 < 2048; omega, by show 0 < 1024; omega, by show 0 < 2; omega⟩, fun c hc => absurd hc (by simp [s_0]), by show 0 < 2430; omega, fun p hp => absurd hp (by simp [s_0])⟩
theorem L3_tab : tabX (L3 1215) := by
  refine ⟨fun l hl => ⟨?_, ?_, ?_, ?_, ?_, ?_⟩, fun l k hl hk hz => ?_⟩
  · show tabf 1215 stem l = nI (stem l); exact tabf_at stem hl
  · show tabf 1215 lastk l = nI (lastk l); exact tabf_at lastk hl
  · show tabf 1215 len l = nI (len l); exact tabf_at len hl
  · show tabf 1215 cnt l = nI (cnt l); exact tabf_at cnt hl
  · show tabf 1215 bnd l = nI (bnd l); exact tabf_at bnd hl
  · show tabf 1215 frd l = nI (frd l); exact tabf_at frd hl
  · show J2 1215 0 (l * 20 + k) = nI (jt l k)
    unfold J2
    have e1 : (l * 20 + k) / 20 = l := by omega
    have e2 : (l * 20 + k) % 20 = k := by omega
    rw [e1, e2, if_pos ⟨hl, hz, Or.inr (Or.inl hl)⟩]
theorem x_init0 {S : hm_S} (hS : fr [0, 19] (L3 1215) S) (h9 : S 0 9 = 0) (h19 : S 19 12 = -1) : IX s_0 S := by
  have z : ∀ a, a ∈ [1, 3, 36, 38, 42, 59, 61, 64, 71] → ∀ k, S a k = 0 := by
    intro a ha k
    have h1 : S a = L3 1215 a := hS a (by revert a; decide)
    rw [h1]
    rcases (show a = 1 ∨ a = 3 ∨ a = 36 ∨ a = 38 ∨ a = 42 ∨ a = 59 ∨ a = 61 ∨ a = 64 ∨ a = 71 by simpa using ha) with e | e | e | e | e | e | e | e | e <;> subst e <;> rfl
  have ht : tabX S := L3_tab.fr hS (by decide)
  refine ⟨⟨[], ⟨ht, ⟨fun k _ _ => z 3 (by decide) k, z 1 (by decide) 1, z 1 (by decide) 2, z 1 (by decide) 3⟩, fun q hq e => ?_, ⟨List.nodup_nil, fun q hq => absurd hq (by simp), z 36 (by decide) 13, fun i q hq => absurd hq (by simp), fun q _ _ => z 38 (by decide) q⟩, fun a ha => ?_, fun a b q m h1 => absurd h1 (by simp)⟩, Or.inl (z 36 (by decide) 15)⟩, h9, ⟨0, by omega, z 71 (by decide) 1, z 71 (by decide) 2, by simp [s_0], fun i q hq => absurd hq (by simp [s_0])⟩, ⟨z 64 (by decide) 1, by simp [s_0], fun i c hc => absurd hc (by simp [s_0])⟩, z 61 (by decide) 0, Or.inl (z 59 (by decide) 3)⟩
  · rw [h19] at e
    exact absurd e.symm (nI_ne1 (by omega))
  · have e : a = 0 := by simpa using ha
    rw [e]
    exact z 42 (by decide) 0
set_option maxRecDepth 20000 in
theorem x_init {Q : hm_S → hm_T → Prop} (h : ∀ S T, IX s_0 S → Q S T) : wp_10_init (fun _ _ => 0) (fun _ _ => 0) Q := by
  unfold wp_10_init wp_6_init wp_5_init
  refine ⟨fun _ => rfl, fun _ => rfl, fun _ => rfl, fun _ => rfl, fun _ => rfl, fun _ => rfl, fun _ => rfl, ?_⟩
  refine z_layinit (fun _ _ => rfl) ?_
  unfold wp_3_init wp_8_init wp_0_init wp_9_init wp_7_init wp_4_init wp_1_init wp_5_init
  repeat refine ⟨fun _ => rfl, ?_⟩
  refine h _ _ (x_init0 ((fr.up _ _ _ (by decide)).tr (fr.up _ _ _ (by decide))) (hm_up_same _ _ _ _) ?_)
  rw [hm_up_row _ _ _ (by decide), hm_up_same]
theorem pM_0 : pM 0 = 0 := by decide +kernel
theorem z_init0 {S : hm_S} {T : hm_T} (h : MZ S T) : IZ s_0 S T := by
  obtain ⟨h1, h2, h3⟩ := h
  refine ⟨h1, ⟨fun k _ _ => h2 4 (by decide) (by decide) (by decide) (by decide) k, h3 4 (by decide), h3 5 (by decide), h3 6 (by decide)⟩, Or.inl (h3 19 (by decide)), ?_, ⟨h3 9 (by decide), by simp [s_0], fun i q hq => absurd hq (by simp [s_0])⟩, ⟨h3 25 (by decide), by simp [s_0], fun i c hc => absurd hc (by simp [s_0])⟩⟩
  show S 0 7 = nI (pM 0)
  rw [pM_0]
  exact h3 7 (by decide)
