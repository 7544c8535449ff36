/-! ===== the class's solver: a step back ===== -/
/-- rows of the queue: k positions are begun with, dnf u steps of u are ticked off -/
def SI (ρ : Ru) (kn : List Nat) (k : Nat) (qu : List Nat) (dnf : Nat → Nat) (S : hm_S) : Prop := qu.Nodup ∧ (∀ u ∈ qu, u < k) ∧ S 36 14 = nI qu.length ∧ (∀ i u, qu[i]? = some u → S 56 i = nI u) ∧ (∀ u ∈ qu, S 50 u = nI (oN ρ kn u) ∧ S 52 u = nI (dN ρ kn u) ∧ vN ρ kn (dN ρ kn u) u < 2) ∧ ∀ u, u < k → u ∉ qu → S 50 u = nI 2 ∧ S 52 u = -1 ∧ ∃ hp, S 54 u = nI hp ∧ 0 < hp ∧ hp + dnf u = (ad ρ kn u).length
/-- the queue rises -/
def srtQ (ρ : Ru) (kn qu : List Nat) : Prop := ∀ i j a b : Nat, i ≤ j → qu[i]? = some a → qu[j]? = some b → dN ρ kn a ≤ dN ρ kn b
theorem gE_last {l : List Nat} {x b j : Nat} (h : (l ++ [x])[j]? = some b) : (j < l.length ∧ l[j]? = some b) ∨ (j = l.length ∧ b = x) := by
  rcases Nat.lt_or_ge j l.length with g | g
  · rw [List.getElem?_append_left g] at h
    exact Or.inl ⟨g, h⟩
  · rw [List.getElem?_append_right g] at h
    rcases Nat.eq_zero_or_pos (j - l.length) with q | q
    · rw [q] at h
      exact Or.inr ⟨by omega, by simpa using h.symm⟩
    · rw [List.getElem?_eq_none (by rw [List.length_singleton]; omega)] at h
      exact absurd h (by simp)
theorem srtQ.app {ρ : Ru} {kn qu : List Nat} {w : Nat} (h : srtQ ρ kn qu) (hw : ∀ a ∈ qu, dN ρ kn a ≤ dN ρ kn w) : srtQ ρ kn (qu ++ [w]) := by
  intro i j a b hij ha hb
  rcases gE_last ha with ⟨a1, a2⟩ | ⟨a1, a2⟩
  · rcases gE_last hb with ⟨b1, b2⟩ | ⟨b1, b2⟩
    · exact h i j a b hij a2 b2
    · rw [b2]; exact hw a (List.mem_of_getElem? a2)
  · rcases gE_last hb with ⟨b1, b2⟩ | ⟨b1, b2⟩
    · omega
    · rw [a2, b2]; exact Nat.le_refl _
theorem nd_app {l : List Nat} {x : Nat} (h : l.Nodup) (hx : x ∉ l) : (l ++ [x]).Nodup := by
  rw [List.nodup_append]
  refine ⟨h, by simp, fun a ha b hb => ?_⟩
  have e : b = x := by simpa using hb
  rw [e]
  exact fun e2 => hx (e2 ▸ ha)
def fq (S S' : hm_S) : Prop := fr [36, 50, 52, 54, 56] S S' ∧ ∀ k, k ≠ 14 → S' 36 k = S 36 k
theorem fq.rf (S : hm_S) : fq S S := ⟨fr.rf _ S, fun _ _ => rfl⟩
theorem fq.tr {S S' S'' : hm_S} (h : fq S S') (h' : fq S' S'') : fq S S'' := ⟨h.1.tr h'.1, fun k hk => (h'.2 k hk).trans (h.2 k hk)⟩
theorem fq.up {S : hm_S} {a : Nat} (k : Nat) (v : Int32) (ha : a ∈ [50, 52, 54, 56]) : fq S (hm_up S a k v) := ⟨fr.up S k v (List.mem_cons_of_mem _ ha), fun j _ => by rw [hm_up_row S _ _ (by rintro rfl; exact absurd ha (by decide))]⟩
theorem fq.up0 {S : hm_S} (v : Int32) : fq S (hm_up S 36 14 v) := ⟨fr.up S 14 v (by decide), fun j hj => hm_up_col S v hj⟩
section XB
variable {T : hm_T}
/-- a position is settled: it is right, and it is queued -/
theorem x_settle {ρ : Ru} {kn : List Nat} {k : Nat} {qu : List Nat} {dnf dnf' : Nat → Nat} {S S0 : hm_S} {u o d k' : Nat} (hk : k' ≤ 2430) (hu : u < k') (hq : u ∉ qu) (hS : SI ρ kn k qu dnf S0) (hkk : k ≤ k') (hSS : fr [54] S0 S) (hdn : ∀ w, w < k' → w ≠ u → w < k ∧ dnf' w = dnf w ∧ S 54 w = S0 54 w) (ho : o = oN ρ kn u) (hd : d = dN ρ kn u) (hv : vN ρ kn (dN ρ kn u) u < 2) {Q : hm_S → hm_T → Prop} (h : ∀ S', fq S S' → SI ρ kn k' (qu ++ [u]) dnf' S' → Q S' T) : wp_8_settle (nI u) (nI o) (nI d) S T Q := by
  obtain ⟨h1, h2, h3, h4, h5, h6⟩ := hS
  have hn2 := nd_app h1 hq
  have hl2 : ∀ w ∈ qu ++ [u], w < k' := by
    intro w hw
    rcases List.mem_append.mp hw with g | g
    · have := h2 w g; omega
    · have e : w = u := by simpa using g
      omega
  have hlen := nd_len hn2 hl2
  rw [List.length_append, List.length_singleton] at hlen
  unfold wp_8_settle
  rw [e_set (by omega) (by omega), e_set (by omega) (by omega)]
  simp only [Nat.reduceAdd]
  have a1 : hm_up (hm_up S 50 u (nI o)) 52 u (nI d) 36 14 = nI qu.length := by rw [hm_up_row _ _ _ (by decide), hm_up_row _ _ _ (by decide), hSS 36 (by decide), h3]
  rw [a1, e_set (by omega) (by omega)]
  simp only [Nat.reduceAdd]
  have a2 : hm_up (hm_up (hm_up S 50 u (nI o)) 52 u (nI d)) 56 qu.length (nI u) 36 14 = nI qu.length := by rw [hm_up_row _ _ _ (by decide), a1]
  rw [a2, nI_1]
  have r50 : ∀ w, w ≠ u → hm_up (hm_up (hm_up (hm_up S 50 u (nI o)) 52 u (nI d)) 56 qu.length (nI u)) 36 14 (nI (qu.length + 1)) 50 w = S0 50 w := by
    intro w hw
    rw [hm_up_row _ _ _ (by decide), hm_up_row _ _ _ (by decide), hm_up_row _ _ _ (by decide), hm_up_col _ _ hw, hSS 50 (by decide)]
  have r52 : ∀ w, w ≠ u → hm_up (hm_up (hm_up (hm_up S 50 u (nI o)) 52 u (nI d)) 56 qu.length (nI u)) 36 14 (nI (qu.length + 1)) 52 w = S0 52 w := by
    intro w hw
    rw [hm_up_row _ _ _ (by decide), hm_up_row _ _ _ (by decide), hm_up_col _ _ hw, hm_up_row _ _ _ (by decide), hSS 52 (by decide)]
  have r54 : hm_up (hm_up (hm_up (hm_up S 50 u (nI o)) 52 u (nI d)) 56 qu.length (nI u)) 36 14 (nI (qu.length + 1)) 54 = S 54 := by
    rw [hm_up_row _ _ _ (by decide), hm_up_row _ _ _ (by decide), hm_up_row _ _ _ (by decide), hm_up_row _ _ _ (by decide)]
  refine h _ ((((fq.up u _ (by decide)).tr (fq.up u _ (by decide))).tr (fq.up qu.length _ (by decide))).tr (fq.up0 _)) ⟨hn2, hl2, ?_, ?_, ?_, ?_⟩
  · rw [hm_up_same, List.length_append, List.length_singleton]
  · intro i w hw
    rcases gE_last hw with ⟨b1, b2⟩ | ⟨b1, b2⟩
    · rw [hm_up_row _ _ _ (by decide), hm_up_col _ _ (by omega), hm_up_row _ _ _ (by decide), hm_up_row _ _ _ (by decide), hSS 56 (by decide)]
      exact h4 i w b2
    · rw [b1, b2, hm_up_row _ _ _ (by decide), hm_up_same]
  · intro w hw
    by_cases e : w = u
    · subst e
      refine ⟨?_, ?_, hv⟩
      · rw [hm_up_row _ _ _ (by decide), hm_up_row _ _ _ (by decide), hm_up_row _ _ _ (by decide), hm_up_same, ho]
      · rw [hm_up_row _ _ _ (by decide), hm_up_row _ _ _ (by decide), hm_up_same, hd]
    · rw [r50 w e, r52 w e]
      rcases List.mem_append.mp hw with g | g
      · exact h5 w g
      · exact absurd (by simpa using g) e
  · intro w hw hwq
    have e : w ≠ u := fun e => hwq (by rw [e]; simp)
    obtain ⟨g1, g2, g3⟩ := hdn w hw e
    rw [r50 w e, r52 w e, r54, g2, g3]
    exact h6 w g1 (fun g => hwq (List.mem_append_left _ g))
end XB
