/-! ===== the reference looks at a position ===== -/
theorem bnd_any : ∀ (a : List Nat), 0 < bndL a ↔ ∃ k ∈ a, k % 2 = 1 := by
  intro a
  induction a with
  | nil => simp [bndL]
  | cons x t ih =>
    simp only [bndL, List.mem_cons, exists_eq_or_imp]
    rw [← ih]
    have := Nat.mod_two_eq_zero_or_one x
    omega
theorem map_getD (a : List Nat) {i : Nat} (h : i < a.length) : (a.map (· + 2)).getD i 0 = a.getD i 0 + 2 := by
  rw [List.getD_eq_getElem?_getD, List.getElem?_map, List.getElem?_eq_getElem h, List.getD_eq_getElem?_getD, List.getElem?_eq_getElem h]
  rfl
section MP
variable {S : hm_S} {T : hm_T}
theorem mrow_at {l i : Nat} (hl : l < 1215) (hi : i < len l) : (mrow (xpi l)).getD i 0 = (lay l).getD i 0 + 2 := by rw [mrow_pi hl]; exact map_getD _ hi
theorem len_pi {l : Nat} (hl : l < 1215) : len (xpv (xpi l)) = len l := by rw [(tq_pi hl).2.1]
theorem z_isBound (ht : tabM S T) {l p : Nat} (hl : l < 1215) (hp : p < 2) {Q : Int32 → hm_S → hm_T → Prop} (h : Q (nI (bb l)) S T) : wp_11_isBound (nI (2 * xpi l + p)) S T Q := by
  have hr := (tq_pi hl).1
  have hlen := tq_len hl
  have hdiv : nI (2 * xpi l + p) / 2 = nI (xpi l) := by rw [q_2, n_div2 (by omega), show (2 * xpi l + p) / 2 = xpi l by omega]
  have key : ∀ c i g, i + c = len l → g < 2 → (g = 1 ↔ ∃ j, j < i ∧ (lay l).getD j 0 % 2 = 1) → wl_11_isBound_4 Q (c + 1) (nI (2 * xpi l + p)) (nI g) (nI i) S T := by
    intro c
    induction c with
    | zero =>
      intro i g hi hg hG
      show wb_11_isBound_4 Q _ _ _ _ S T
      unfold wb_11_isBound_4
      rw [hdiv, nI_clamp (by omega), ht.1 _ hr, len_pi hl, if_pos (nI_le (by omega) (by omega))]
      refine ⟨vp_in_nI hr (by omega), ?_, ?_⟩
      · rcases (show g = 0 ∨ g = 1 by omega) with e | e <;> rw [e]
        · exact Or.inl rfl
        · exact Or.inr rfl
      · have : g = bb l := by
          unfold bb bnd
          by_cases hb : 0 < bndL (lay l)
          · rw [if_pos hb, hG]
            obtain ⟨k, hk, e⟩ := (bnd_any _).mp hb
            obtain ⟨j, hj, ej⟩ := List.mem_iff_getElem.mp hk
            exact ⟨j, by unfold len at hi; omega, by rw [List.getD_eq_getElem?_getD, List.getElem?_eq_getElem hj]; show (lay l)[j] % 2 = 1; rw [ej]; exact e⟩
          · rw [if_neg hb]
            rcases (show g = 0 ∨ g = 1 by omega) with e | e
            · exact e
            · obtain ⟨j, hj, e2⟩ := hG.mp e
              exact absurd ((bnd_any _).mpr ⟨_, getD_mem (show j < (lay l).length by unfold len at hi; omega), e2⟩) hb
        rw [this]
        exact h
    | succ c ih =>
      intro i g hi hg hG
      have hil : i < len l := by omega
      have hk := tq_small hl (getD_mem hil)
      show wb_11_isBound_4 Q _ _ _ _ S T
      unfold wb_11_isBound_4 wb_11_isBound_32 wb_11_isBound_37
      rw [hdiv, nI_clamp (by omega), ht.1 _ hr, len_pi hl, if_neg (nI_ge hil (by omega))]
      refine ⟨vp_in_nI hr (by omega), ?_⟩
      rcases (show g = 0 ∨ g = 1 by omega) with e | e
      · rw [e, if_pos (by decide), z_heapAt ht hr hp (by rw [len_pi hl]; exact hil), mrow_at hl hil, q_2, n_rem2 (by omega)]
        by_cases hm : ((lay l).getD i 0 + 2) % 2 = 1
        · rw [if_pos (by rw [hm]; rfl), nI_1, q_1]
          exact ih (i + 1) 1 (by omega) (by omega) ⟨fun _ => ⟨i, by omega, by omega⟩, fun _ => rfl⟩
        · rw [if_neg (by rw [q_1, nI_eq (by omega) (by omega)]; exact hm), nI_1, q_0]
          refine ih (i + 1) 0 (by omega) (by omega) ⟨fun q => absurd q (by decide), fun ⟨j, hj, e2⟩ => ?_⟩
          rcases Nat.lt_or_ge j i with q | q
          · exact absurd (hG.mpr ⟨j, q, e2⟩) (by omega)
          · have : j = i := by omega
            rw [this] at e2
            omega
      · rw [e, if_neg (by decide), nI_1, q_1]
        obtain ⟨j, hj, e2⟩ := hG.mp e
        exact ih (i + 1) 1 (by omega) (by omega) ⟨fun _ => ⟨j, by omega, e2⟩, fun _ => rfl⟩
  exact ⟨len l + 1, key (len l) 0 0 (by omega) (by omega) ⟨fun q => absurd q (by decide), fun ⟨j, hj, _⟩ => absurd hj (Nat.not_lt_zero j)⟩⟩
theorem cntL_take_s {a : List Nat} {i : Nat} (h : i < a.length) : cntL (a.take (i + 1)) = cntL (a.take i) + szk (a.getD i 0) := by
  rw [take_s h, cntL_app]
  simp [cntL]
theorem z_sum (ht : tabM S T) {l p : Nat} (hl : l < 1215) (hp : p < 2) {Q : Int32 → hm_S → hm_T → Prop} (h : Q (nI (cnt l)) S T) : wp_11_sum (nI (2 * xpi l + p)) S T Q := by
  have hr := (tq_pi hl).1
  have hlen := tq_len hl
  have hdiv : nI (2 * xpi l + p) / 2 = nI (xpi l) := by rw [q_2, n_div2 (by omega), show (2 * xpi l + p) / 2 = xpi l by omega]
  have key : ∀ c i, i + c = len l → wl_11_sum_4 Q (c + 1) (nI (2 * xpi l + p)) (nI (cntL ((lay l).take i))) (nI i) S T := by
    intro c
    induction c with
    | zero =>
      intro i hi
      show wb_11_sum_4 Q _ _ _ _ S T
      unfold wb_11_sum_4
      rw [hdiv, nI_clamp (by omega), ht.1 _ hr, len_pi hl, if_pos (nI_le (by omega) (by omega)), List.take_of_length_le (by unfold len at hi; omega)]
      exact ⟨vp_in_nI hr (by omega), h⟩
    | succ c ih =>
      intro i hi
      have hil : i < len l := by omega
      have hk := tq_small hl (getD_mem hil)
      show wb_11_sum_4 Q _ _ _ _ S T
      unfold wb_11_sum_4
      rw [hdiv, nI_clamp (by omega), ht.1 _ hr, len_pi hl, if_neg (nI_ge hil (by omega)), z_heapAt ht hr hp (by rw [len_pi hl]; exact hil), mrow_at hl hil, q_2, n_div2 (by omega), nI_add, nI_1]
      refine ⟨vp_in_nI hr (by omega), ?_⟩
      have e : cntL ((lay l).take i) + ((lay l).getD i 0 + 2) / 2 = cntL ((lay l).take (i + 1)) := by rw [cntL_take_s hil]; unfold szk; omega
      rw [e]
      exact ih (i + 1) (by omega)
  exact ⟨len l + 1, key (len l) 0 (by omega)⟩
theorem z_mayMove (ht : tabM S T) {l p n b : Nat} (hl : l < 1215) (hp : p < 2) (hn : 1 ≤ n) (hn2 : n ≤ 10) (hb : b < 2) {Q : Int32 → hm_S → hm_T → Prop} (h : Q (if (lay l).contains (2 * (n - 1) + b) then 1 else 0) S T) : wp_11_mayMove (nI (2 * xpi l + p)) (nI n) (nI b) S T Q := by
  have hr := (tq_pi hl).1
  have hlen := tq_len hl
  have hdiv : nI (2 * xpi l + p) / 2 = nI (xpi l) := by rw [q_2, n_div2 (by omega), show (2 * xpi l + p) / 2 = xpi l by omega]
  have key : ∀ c i g, i + c = len l → g < 2 → (g = 1 ↔ ∃ j, j < i ∧ (lay l).getD j 0 = 2 * (n - 1) + b) → wl_11_mayMove_6 Q (c + 1) (nI (2 * xpi l + p)) (nI n) (nI b) (nI g) (nI i) S T := by
    intro c
    induction c with
    | zero =>
      intro i g hi hg hG
      show wb_11_mayMove_6 Q _ _ _ _ _ _ S T
      unfold wb_11_mayMove_6
      rw [hdiv, nI_clamp (by omega), ht.1 _ hr, len_pi hl, if_pos (nI_le (by omega) (by omega))]
      refine ⟨vp_in_nI hr (by omega), ?_, ?_⟩
      · rcases (show g = 0 ∨ g = 1 by omega) with e | e <;> rw [e]
        · exact Or.inl rfl
        · exact Or.inr rfl
      · have : nI g = (if (lay l).contains (2 * (n - 1) + b) then 1 else 0) := by
          by_cases hc : (lay l).contains (2 * (n - 1) + b) = true
          · rw [if_pos hc]
            have hmem : 2 * (n - 1) + b ∈ lay l := by simpa using hc
            obtain ⟨j, hj, ej⟩ := List.mem_iff_getElem.mp hmem
            have : g = 1 := hG.mpr ⟨j, by unfold len at hi; omega, by rw [List.getD_eq_getElem?_getD, List.getElem?_eq_getElem hj]; exact ej⟩
            rw [this]; rfl
          · rw [if_neg hc]
            rcases (show g = 0 ∨ g = 1 by omega) with e | e
            · rw [e]; rfl
            · obtain ⟨j, hj, e2⟩ := hG.mp e
              have hmem : 2 * (n - 1) + b ∈ lay l := by rw [← e2]; exact getD_mem (show j < (lay l).length by unfold len at hi; omega)
              exact absurd (by simpa using hmem) hc
        rw [this]
        exact h
    | succ c ih =>
      intro i g hi hg hG
      have hil : i < len l := by omega
      have hk := tq_small hl (getD_mem hil)
      show wb_11_mayMove_6 Q _ _ _ _ _ _ S T
      unfold wb_11_mayMove_6 wb_11_mayMove_43 wb_11_mayMove_47 wb_11_mayMove_52
      rw [hdiv, nI_clamp (by omega), ht.1 _ hr, len_pi hl, if_neg (nI_ge hil (by omega))]
      refine ⟨vp_in_nI hr (by omega), ?_⟩
      rcases (show g = 0 ∨ g = 1 by omega) with e | e
      · rw [e, if_pos (by decide), z_heapAt ht hr hp (by rw [len_pi hl]; exact hil), mrow_at hl hil]
        have step : ∀ z : Int32, z = nI b → (if nI ((lay l).getD i 0 + 2) = 2 * nI n + z then wl_11_mayMove_6 Q (c + 1) (nI (2 * xpi l + p)) (nI n) (nI b) 1 (nI i + 1) S T else wl_11_mayMove_6 Q (c + 1) (nI (2 * xpi l + p)) (nI n) (nI b) 0 (nI i + 1) S T) := by
          intro z hz
          rw [hz, q_2, pk_mul, nI_add, nI_1]
          by_cases hm : (lay l).getD i 0 + 2 = 2 * n + b
          · rw [if_pos (by rw [hm]), q_1]
            exact ih (i + 1) 1 (by omega) (by omega) ⟨fun _ => ⟨i, by omega, by omega⟩, fun _ => rfl⟩
          · rw [if_neg (by rw [nI_eq (by omega) (by omega)]; exact hm), q_0]
            refine ih (i + 1) 0 (by omega) (by omega) ⟨fun q => absurd q (by decide), fun ⟨j, hj, e2⟩ => ?_⟩
            rcases Nat.lt_or_ge j i with q | q
            · exact absurd (hG.mpr ⟨j, q, e2⟩) (by omega)
            · have : j = i := by omega
              rw [this] at e2
              omega
        rcases (show b = 0 ∨ b = 1 by omega) with e2 | e2
        · rw [if_pos (by rw [e2]; rfl)]
          exact step 0 (by rw [e2]; rfl)
        · rw [if_neg (by rw [e2]; decide)]
          exact step 1 (by rw [e2]; rfl)
      · rw [e, if_neg (by decide), nI_1, q_1]
        obtain ⟨j, hj, e2⟩ := hG.mp e
        exact ih (i + 1) 1 (by omega) (by omega) ⟨fun _ => ⟨j, by omega, e2⟩, fun _ => rfl⟩
  exact ⟨len l + 1, key (len l) 0 0 (by omega) (by omega) ⟨fun q => absurd q (by decide), fun ⟨j, hj, _⟩ => absurd hj (Nat.not_lt_zero j)⟩⟩
end MP
