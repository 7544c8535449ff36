/-! ===== the class's solver: explore ===== -/
/-- the steps: of the positions before i all, of i those before j -/
def SP (ρ : Ru) (kn : List Nat) (i j : Nat) (S : hm_S) : Prop := (∀ a, a ≤ i → S 42 a = nI (sx ρ kn a)) ∧ ∀ a b q m, kn[a]? = some q → (mv ρ q)[b]? = some m → (a < i ∨ (a = i ∧ b < j)) → ∃ t, kn[t]? = some (tgt m) ∧ S 44 (sx ρ kn a + b) = nI t
/-- the list of moves that lies there is that of the position that is named -/
def lcX (ρ : Ru) (S : hm_S) : Prop := ∀ q, q < 2430 → S 19 12 = nI q → ml (mv ρ q) S
theorem lcX.mk {ρ : Ru} {S : hm_S} {q : Nat} (hq : q < 2430) (h : S 19 12 = nI q) (hm : ml (mv ρ q) S) : lcX ρ S := by
  intro p hp hh
  rw [h, nI_eq (by omega) (by omega)] at hh
  exact hh ▸ hm
theorem ml.fr {c : List Nat} {L : List Mv} {S S' : hm_S} (h : ml L S) (hf : fr c S S') (hc : ∀ a ∈ [19, 21, 23, 25, 27, 29, 31], a ∉ c) : ml L S' := by
  unfold ml mlA
  rw [hf 19 (hc 19 (by decide)), hf 21 (hc 21 (by decide)), hf 23 (hc 23 (by decide)), hf 25 (hc 25 (by decide)), hf 27 (hc 27 (by decide)), hf 29 (hc 29 (by decide)), hf 31 (hc 31 (by decide))]
  exact h
theorem lcX.fr {c : List Nat} {ρ : Ru} {S S' : hm_S} (h : lcX ρ S) (hf : fr c S S') (hc : ∀ a ∈ [19, 21, 23, 25, 27, 29, 31], a ∉ c) : lcX ρ S' := by
  intro q hq hh
  rw [hf 19 (hc 19 (by decide))] at hh
  exact (h q hq hh).fr hf hc
theorem SP.fr {c kn : List Nat} {ρ : Ru} {i j : Nat} {S S' : hm_S} (h : SP ρ kn i j S) (hf : fr c S S') (hc : ∀ a ∈ [42, 44], a ∉ c) : SP ρ kn i j S' := by
  unfold SP
  rw [hf 42 (hc 42 (by decide)), hf 44 (hc 44 (by decide))]
  exact h
theorem gE_app {l e : List Nat} {t q : Nat} (h : l[t]? = some q) : (l ++ e)[t]? = some q := by
  rw [List.getElem?_append_left (List.getElem?_eq_some_iff.mp h).1]
  exact h
theorem SP.app {kn e : List Nat} {ρ : Ru} {i j : Nat} {S : hm_S} (h : SP ρ kn i j S) (hi : i < kn.length) : SP ρ (kn ++ e) i j S := by
  refine ⟨fun a ha => ?_, fun a b q m h1 h2 h3 => ?_⟩
  · rw [sx_app (by omega)]; exact h.1 a ha
  · have hal : a < kn.length := by omega
    rw [List.getElem?_append_left hal] at h1
    obtain ⟨t, t1, t2⟩ := h.2 a b q m h1 h2 h3
    exact ⟨t, gE_app t1, by rw [sx_app (by omega)]; exact t2⟩
/-- the frame of explore -/
def fxE : List Nat := [19, 21, 23, 25, 27, 29, 31, 33, 35, 36, 38, 40, 42, 44]
section XE
variable {T : hm_T}
/-- all that holds between two steps of explore -/
def XE (ρ : Ru) (kn : List Nat) (i j : Nat) (S : hm_S) : Prop := tabX S ∧ ruX ρ S ∧ lcX ρ S ∧ KN kn S ∧ SP ρ kn i j S
theorem x_expIn {ρ : Ru} {Q : hm_S → hm_T → Prop} {K : Int32 → hm_S → hm_T → Prop} {kn0 : List Nat} {S0 : hm_S} {i q : Nat} (hq : q < 2430) (h : ∀ kn S, (∃ e, kn = kn0 ++ e) → i + 1 ≤ kn.length → (kn = kn0 ∧ S 36 15 = S0 36 15 ∨ S 36 15 = 0) → fr fxE S0 S → XE ρ kn (i + 1) 0 S → K (nI (i + 1)) S T) : ∀ c j kn S, j + c = (mv ρ q).length → (∃ e, kn = kn0 ++ e) → kn[i]? = some q → (kn = kn0 ∧ S 36 15 = S0 36 15 ∨ S 36 15 = 0) → fr fxE S0 S → S 19 12 = nI q → ml (mv ρ q) S → XE ρ kn i j S → wl_8_explore_56 Q K (c + 1) (nI i) (nI (sx ρ kn i + j)) (nI j) S T := by
  have hlen : (mv ρ q).length ≤ 31 := Nat.le_trans mv_len (tq_mvB hq)
  intro c
  induction c with
  | zero =>
    intro j kn S hj he hi hs hf h12 hm ⟨ht, hu, hl, hk, hp⟩
    have hsx := sx_le (ρ := ρ) hk.nd hk.lt (i + 1)
    have hss := sx_s (ρ := ρ) hi
    have hil := (List.getElem?_eq_some_iff.mp hi).1
    have hkl := hk.len
    show wb_8_explore_56 Q K _ _ _ _ S T
    unfold wb_8_explore_56 wb_8_explore_99
    rw [hm.1, if_pos (nI_le (by omega) (by omega)), nI_1, e_set (by omega) (by omega)]
    simp only [Nat.reduceAdd]
    have f1 : fr [42] S (hm_up S 42 (i + 1) (nI (sx ρ kn i + j))) := fr.up S _ _ (by decide)
    refine h kn _ he (by omega) ?_ (hf.tr (f1.mono (by decide))) ⟨ht.fr f1 (by decide), hu.fr f1 (by decide), hl.fr f1 (by decide), hk.fr f1 (by decide) (by rw [f1 36 (by decide)]), fun a ha => ?_, fun a b p m h1 h2 h3 => ?_⟩
    · rw [f1 36 (by decide)]; exact hs
    · rcases Nat.lt_or_ge i a with g | g
      · rw [show a = i + 1 by omega, hm_up_same, hss, show j = (mv ρ q).length by omega]
      · rw [hm_up_col _ _ (by omega)]; exact hp.1 a g
    · rw [f1 44 (by decide)]
      refine hp.2 a b p m h1 h2 ?_
      rcases Nat.lt_or_ge a i with g | g
      · exact Or.inl g
      · have e : a = i := by omega
        rw [e, hi] at h1
        have e2 : q = p := by simpa using h1
        have := (List.getElem?_eq_some_iff.mp h2).1
        rw [← e2] at this
        exact Or.inr ⟨e, by omega⟩
  | succ c ih =>
    intro j kn S hj he hi hs hf h12 hm ⟨ht, hu, hl, hk, hp⟩
    have hjl : j < (mv ρ q).length := by omega
    obtain ⟨m, hm2⟩ : ∃ m, (mv ρ q)[j]? = some m := ⟨_, List.getElem?_eq_getElem hjl⟩
    have htl := tgt_lt hq m (List.mem_of_getElem? hm2)
    have hil := (List.getElem?_eq_some_iff.mp hi).1
    show wb_8_explore_56 Q K _ _ _ _ S T
    unfold wb_8_explore_56 wp_3_targetOf
    rw [hm.1, if_neg (nI_ge hjl (by omega)), e_get (by omega) (by omega)]
    simp only [Nat.reduceAdd]
    rw [(hm.2 j m hm2).2.2.2.2.2]
    refine x_numberFor htl hk (fun kn' t S' hor f1 hk' ht' => ?_)
    have he' : ∃ e, kn' = kn ++ e := by
      rcases hor with ⟨a, -⟩ | ⟨-, a, -⟩
      · exact ⟨[], by rw [a, List.append_nil]⟩
      · exact ⟨_, a⟩
    obtain ⟨e', ee⟩ := he'
    have hi' : kn'[i]? = some q := by rw [ee]; exact gE_app hi
    have hsx := sx_le (ρ := ρ) hk'.nd hk'.lt (i + 1)
    have hss := sx_s (ρ := ρ) hi'
    have hsa : sx ρ kn' i = sx ρ kn i := by rw [ee]; exact sx_app (by omega)
    have hp' : SP ρ kn' i j S' := by rw [ee]; exact (hp.fr f1 (by decide)).app hil
    rw [← hsa, e_set (by omega) (by omega), nI_1, nI_1]
    simp only [Nat.reduceAdd]
    have f2 : fr [44] S' (hm_up S' 44 (sx ρ kn' i + j) (nI t)) := fr.up S' _ _ (by decide)
    have m' : ml (mv ρ q) (hm_up S' 44 (sx ρ kn' i + j) (nI t)) := (hm.fr f1 (by decide)).fr f2 (by decide)
    have g12 : hm_up S' 44 (sx ρ kn' i + j) (nI t) 19 12 = nI q := by rw [f2 19 (by decide), f1 19 (by decide), h12]
    obtain ⟨e0, ee0⟩ := he
    refine ih (j + 1) kn' _ (by omega) ⟨e0 ++ e', by rw [ee, ee0, List.append_assoc]⟩ hi' ?_ ((hf.tr (f1.mono (by decide))).tr (f2.mono (by decide))) g12 m' ⟨(ht.fr f1 (by decide)).fr f2 (by decide), (hu.fr f1 (by decide)).fr f2 (by decide), lcX.mk hq g12 m', hk'.fr f2 (by decide) (by rw [f2 36 (by decide)]), ?_, fun a b p m3 h1 h2 h3 => ?_⟩
    · rw [f2 36 (by decide)]
      rcases hor with ⟨a, b⟩ | ⟨-, -, b⟩
      · rw [a, b]; exact hs
      · exact Or.inr b
    · intro a ha
      rw [f2 42 (by decide)]
      exact hp'.1 a ha
    · by_cases hab : a = i ∧ b = j
      · obtain ⟨ha, hb⟩ := hab
        subst ha
        subst hb
        rw [hi'] at h1
        have e2 : q = p := by simpa using h1
        subst e2
        rw [hm2] at h2
        have e3 : m = m3 := by simpa using h2
        subst e3
        exact ⟨t, ht', hm_up_same _ _ _ _⟩
      · obtain ⟨t2, u1, u2⟩ := hp'.2 a b p m3 h1 h2 (by omega)
        refine ⟨t2, u1, ?_⟩
        rw [hm_up_col _ _ ?_]
        · exact u2
        · -- another place
          rcases Nat.lt_or_ge a i with g | g
          · have hb := (List.getElem?_eq_some_iff.mp h2).1
            have s1 := sx_s (ρ := ρ) h1
            have s2 : sx ρ kn' (a + 1) ≤ sx ρ kn' i := sx_mono (by omega)
            omega
          · have e : a = i := by omega
            rw [e]
            omega
end XE
