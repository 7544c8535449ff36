/-! ===== the class's solver: the steps turned round ===== -/
def pre (E : List (Nat × Nat)) (v : Nat) : List Nat := (E.filter (fun e => e.2 == v)).map (fun e => e.1)
theorem prd_s {E : List (Nat × Nat)} {k : Nat} {e : Nat × Nat} (h : E[k]? = some e) (v : Nat) : pre (E.take (k + 1)) v = pre (E.take k) v ++ (if e.2 = v then [e.1] else []) := by
  unfold pre
  rw [List.take_add_one, h]
  by_cases hv : e.2 = v
  · simp [hv]
  · simp [hv]
theorem prd_all {E : List (Nat × Nat)} {k : Nat} (h : E.length ≤ k) (v : Nat) : pre (E.take k) v = pre E v := by rw [List.take_of_length_le h]
theorem prd_le {E : List (Nat × Nat)} (k v : Nat) : (pre (E.take k) v).length ≤ (pre E v).length := by
  unfold pre
  rw [List.length_map, List.length_map]
  exact ((List.take_sublist k E).filter _).length_le
theorem prd_no {E : List (Nat × Nat)} {v : Nat} (h : ∀ e ∈ E, e.2 ≠ v) : pre E v = [] := by
  unfold pre
  rw [List.map_eq_nil_iff, List.filter_eq_nil_iff]
  intro e he
  simp [h e he]
/-- where the predecessors of v begin -/
def CB (E : List (Nat × Nat)) (v : Nat) : Nat := sumB (fun w => (pre E w).length) v
theorem CB_s (E : List (Nat × Nat)) (v : Nat) : CB E (v + 1) = CB E v + (pre E v).length := rfl
theorem CB_mono {E : List (Nat × Nat)} {a b : Nat} (h : a ≤ b) : CB E a ≤ CB E b := by
  have all : ∀ c, CB E a ≤ CB E (a + c) := by
    intro c
    induction c with
    | zero => exact Nat.le_refl _
    | succ c ih => have := CB_s E (a + c); rw [← Nat.add_assoc]; omega
  have := all (b - a)
  rwa [show a + (b - a) = b by omega] at this
theorem CB_le (n : Nat) : ∀ E : List (Nat × Nat), CB E n ≤ E.length := by
  intro E
  induction E with
  | nil => unfold CB; have := sumB_const 0 n; simp [pre] at this ⊢; omega
  | cons e E ih =>
    have hf : ∀ w, (pre (e :: E) w).length = (pre E w).length + (if e.2 = w then 1 else 0) := by
      intro w
      unfold pre
      by_cases hw : e.2 = w <;> simp [hw]
    rcases Nat.lt_or_ge e.2 n with q | q
    · have := sumB_one (f := fun w => (pre E w).length) (f' := fun w => (pre (e :: E) w).length) (a := e.2) (v := 1) (by simp only [hf]; simp) (fun i hi => by simp only [hf]; simp [Ne.symm hi]) n q
      unfold CB at *
      rw [this, List.length_cons]
      omega
    · have h2 : CB (e :: E) n ≤ CB E n := by
        unfold CB
        exact sumB_le n (fun i hi => by simp only [hf]; rw [if_neg (by omega)]; omega)
      rw [List.length_cons]
      omega
section XT
variable {T : hm_T}
/-- the steps are counted -/
theorem x_trnA {E : List (Nat × Nat)} {n : Nat} (hn : n ≤ 2430) (hN : E.length ≤ 15010) (hE : ∀ e ∈ E, e.2 < n) {Q : hm_S → hm_T → Prop} {S0 : hm_S} (h44 : ∀ k e, E[k]? = some e → S0 44 k = nI e.2) (h : ∀ S, fr [46, 48] S0 S → (∀ v, v < 2431 → S 46 v = nI (pre E v).length) → wb_8_turnStepsRound_48 Q S T) : ∀ c k S, k + c = E.length → fr [46, 48] S0 S → (∀ v, v < 2431 → S 46 v = nI (pre (E.take k) v).length) → wl_8_turnStepsRound_21 Q (c + 1) (nI E.length) (nI k) S T := by
  intro c
  induction c with
  | zero =>
    intro k S hk hf hv
    show wb_8_turnStepsRound_21 Q _ _ _ S T
    unfold wb_8_turnStepsRound_21
    rw [if_pos (nI_le (by omega) (by omega))]
    refine h S hf (fun v hv2 => ?_)
    rw [← prd_all (k := k) (by omega)]
    exact hv v hv2
  | succ c ih =>
    intro k S hk hf hv
    have hkl : k < E.length := by omega
    obtain ⟨e, he⟩ : ∃ e, E[k]? = some e := ⟨_, List.getElem?_eq_getElem hkl⟩
    have hen := hE e (List.mem_of_getElem? he)
    show wb_8_turnStepsRound_21 Q _ _ _ S T
    unfold wb_8_turnStepsRound_21
    rw [if_neg (nI_ge hkl (by omega)), e_get (by omega) (by omega)]
    simp only [Nat.reduceAdd]
    rw [hf 44 (by decide), h44 k e he, e_add (by omega) (by omega), nI_1]
    simp only [Nat.reduceAdd]
    refine ih (k + 1) _ (by omega) (hf.tr (fr.up _ _ _ (by decide))) (fun v hv2 => ?_)
    rw [prd_s he v]
    by_cases hev : e.2 = v
    · rw [← hev, hm_up_same, hv _ (by omega), if_pos rfl, nI_1, List.length_append, List.length_singleton]
    · rw [hm_up_col _ _ (Ne.symm hev), if_neg hev, List.append_nil]
      exact hv v hv2
/-- the counts are summed -/
theorem x_trnB {E : List (Nat × Nat)} {n : Nat} (hn : n ≤ 2430) {Q : hm_S → hm_T → Prop} {S0 : hm_S} (h13 : S0 36 13 = nI n) (h : ∀ S, fr [46, 48] S0 S → (∀ v, v ≤ n → S 46 v = nI (CB E (v + 1))) → wb_8_turnStepsRound_82 Q S T) : ∀ c x S, x + c = n + 1 → 1 ≤ x → fr [46, 48] S0 S → (∀ v, v ≤ n → S 46 v = nI (if v < x then CB E (v + 1) else (pre E v).length)) → wl_8_turnStepsRound_50 Q (c + 1) (nI x) S T := by
  intro c
  induction c with
  | zero =>
    intro x S hx h1 hf hv
    show wb_8_turnStepsRound_50 Q _ _ S T
    unfold wb_8_turnStepsRound_50
    rw [hf 36 (by decide), h13, if_pos (nI_lt (by omega) (by omega))]
    refine h S hf (fun v hv2 => ?_)
    rw [hv v hv2, if_pos (by omega)]
  | succ c ih =>
    intro x S hx h1 hf hv
    show wb_8_turnStepsRound_50 Q _ _ S T
    unfold wb_8_turnStepsRound_50
    rw [hf 36 (by decide), h13, if_neg (nI_nlt (by omega) (by omega))]
    obtain ⟨y, rfl⟩ : ∃ y, x = y + 1 := ⟨x - 1, by omega⟩
    rw [nI_pred, e_get (by omega) (by omega)]
    simp only [Nat.reduceAdd]
    rw [hv y (by omega), if_pos (by omega), e_add (by omega) (by omega), nI_1]
    simp only [Nat.reduceAdd]
    refine ih (y + 1 + 1) _ (by omega) (by omega) (hf.tr (fr.up _ _ _ (by decide))) (fun v hv2 => ?_)
    by_cases hvy : v = y + 1
    · rw [hvy, hm_up_same, hv (y + 1) (by omega), if_neg (by omega), if_pos (by omega), nI_add, CB_s E (y + 1), Nat.add_comm]
    · rw [hm_up_col _ _ hvy, hv v hv2]
      by_cases hlt : v < y + 1
      · rw [if_pos hlt, if_pos (by omega)]
      · rw [if_neg hlt, if_neg (by omega)]
/-- what stands after k steps were laid -/
def BK (E : List (Nat × Nat)) (n k : Nat) (S : hm_S) : Prop := (∀ v, v ≤ n → S 46 v = nI (CB E (v + 1) - (pre (E.take k) v).length)) ∧ ∀ v i u, v < n → (pre (E.take k) v)[i]? = some u → S 48 (CB E (v + 1) - 1 - i) = nI u
theorem x_trnC {E : List (Nat × Nat)} {n u : Nat} (hn : n ≤ 2430) (hN : E.length ≤ 15010) (hE : ∀ e ∈ E, e.2 < n) {Q : hm_S → hm_T → Prop} {K : Int32 → hm_S → hm_T → Prop} {S0 : hm_S} (h44 : ∀ k e, E[k]? = some e → S0 44 k = nI e.2) {z : Nat} (hz : z ≤ E.length) (h : ∀ S, fr [46, 48] S0 S → BK E n z S → K (nI (u + 1)) S T) : ∀ c k S, k + c = z → (∀ j e, k ≤ j → j < z → E[j]? = some e → e.1 = u) → fr [46, 48] S0 S → BK E n k S → wl_8_turnStepsRound_113 Q K (c + 1) (nI u) (nI z) (nI k) S T := by
  intro c
  induction c with
  | zero =>
    intro k S hk hu hf hb
    show wb_8_turnStepsRound_113 Q K _ _ _ _ S T
    unfold wb_8_turnStepsRound_113 wb_8_turnStepsRound_163
    rw [if_pos (nI_le (by omega) (by omega)), nI_1]
    exact h S hf (by rwa [show z = k by omega])
  | succ c ih =>
    intro k S hk hu hf hb
    have hkl : k < E.length := by omega
    obtain ⟨e, he⟩ : ∃ e, E[k]? = some e := ⟨_, List.getElem?_eq_getElem hkl⟩
    have hen := hE e (List.mem_of_getElem? he)
    have heu := hu k e (Nat.le_refl _) (by omega) he
    have hps := prd_s he e.2
    rw [if_pos rfl] at hps
    have hle := prd_le (E := E) (k + 1) e.2
    rw [hps, List.length_append, List.length_singleton] at hle
    have hcs := CB_s E e.2
    have hcm : CB E (e.2 + 1) ≤ CB E n := CB_mono (by omega)
    have hcl := CB_le n E
    show wb_8_turnStepsRound_113 Q K _ _ _ _ S T
    unfold wb_8_turnStepsRound_113
    rw [if_neg (nI_ge (by omega) (by omega)), e_get (by omega) (by omega)]
    simp only [Nat.reduceAdd]
    rw [hf 44 (by decide), h44 k e he, e_add (by omega) (by omega)]
    simp only [Nat.reduceAdd]
    obtain ⟨y, hy⟩ : ∃ y, CB E (e.2 + 1) - (pre (E.take k) e.2).length = y + 1 := ⟨CB E (e.2 + 1) - (pre (E.take k) e.2).length - 1, by omega⟩
    rw [hb.1 e.2 (by omega), hy, pk_m1, e_get (by omega) (by omega)]
    simp only [Nat.reduceAdd]
    rw [hm_up_same, e_set (by omega) (by omega), nI_1]
    simp only [Nat.reduceAdd]
    refine ih (k + 1) _ (by omega) (fun j e' h1 h2 h3 => hu j e' (by omega) h2 h3) ((hf.tr (fr.up _ _ _ (by decide))).tr (fr.up _ _ _ (by decide))) ⟨fun v hv => ?_, fun v i w hv hw => ?_⟩
    · rw [hm_up_row _ _ _ (by decide), prd_s he v]
      by_cases hev : e.2 = v
      · subst hev
        rw [hm_up_same, if_pos rfl, List.length_append, List.length_singleton]
        congr 1
        omega
      · rw [hm_up_col _ _ (Ne.symm hev), if_neg hev, List.append_nil]
        exact hb.1 v hv
    · rw [prd_s he v] at hw
      have hlv := prd_le (E := E) k v
      have hcv := CB_s E v
      by_cases hev : e.2 = v
      · subst hev
        rw [if_pos rfl] at hw
        rcases Nat.lt_or_ge i (pre (E.take k) e.2).length with g | g
        · rw [List.getElem?_append_left g] at hw
          rw [hm_up_col _ _ (by omega), hm_up_row _ _ _ (by decide)]
          exact hb.2 e.2 i w hv hw
        · rw [List.getElem?_append_right g] at hw
          have hi2 : i - (pre (E.take k) e.2).length = 0 := by
            rcases Nat.eq_zero_or_pos (i - (pre (E.take k) e.2).length) with q | q
            · exact q
            · rw [List.getElem?_eq_none (by rw [List.length_singleton]; omega)] at hw
              exact absurd hw (by simp)
          rw [hi2] at hw
          have e3 : e.1 = w := by simpa using hw
          rw [show CB E (e.2 + 1) - 1 - i = y by omega, hm_up_same, ← e3, heu]
      · rw [if_neg hev, List.append_nil] at hw
        have hi := (List.getElem?_eq_some_iff.mp hw).1
        rw [hm_up_col _ _ ?_, hm_up_row _ _ _ (by decide)]
        · exact hb.2 v i w hv hw
        · -- the ranges of two positions do not meet
          rcases Nat.lt_or_gt_of_ne hev with g | g
          · have : CB E (e.2 + 1) ≤ CB E v := CB_mono (by omega)
            omega
          · have : CB E (v + 1) ≤ CB E e.2 := CB_mono (by omega)
            omega
end XT
