/-! ===== what the queue of the class's solver means ===== -/
noncomputable def oN (ρ : Ru) (kn : List Nat) (i : Nat) : Nat := oF ρ (ndA kn i)
noncomputable def dN (ρ : Ru) (kn : List Nat) (i : Nat) : Nat := dF ρ (ndA kn i)
def vN (ρ : Ru) (kn : List Nat) (d i : Nat) : Nat := vO ρ d (ndA kn i)
/-- closed, without the machine -/
def clo (ρ : Ru) (kn : List Nat) : Prop := ∀ q ∈ kn, ∀ t ∈ suc ρ q, t ∈ kn
theorem ad_mem {ρ : Ru} {kn : List Nat} (hc : clo ρ kn) {i : Nat} (hi : i < kn.length) {t : Nat} (ht : t ∈ suc ρ (ndA kn i)) : kn.idxOf t ∈ ad ρ kn i ∧ kn.idxOf t < kn.length ∧ ndA kn (kn.idxOf t) = t := by
  have hm := hc _ (List.mem_of_getElem? (nd_at hi)) t ht
  obtain ⟨h1, h2⟩ := ix_at hm
  exact ⟨List.mem_map.mpr ⟨t, ht, rfl⟩, h1, nd_eq h2⟩
theorem ad_inv {ρ : Ru} {kn : List Nat} (hc : clo ρ kn) {i : Nat} (hi : i < kn.length) {t : Nat} (ht : t ∈ ad ρ kn i) : t < kn.length ∧ ndA kn t ∈ suc ρ (ndA kn i) := by
  obtain ⟨q, h1, rfl⟩ := List.mem_map.mp ht
  obtain ⟨-, h2, h3⟩ := ad_mem hc hi h1
  exact ⟨h2, by rw [h3]; exact h1⟩
/-- if all that is queued below level D is done, then all that is decided within D is queued -/
theorem q_low {ρ : Ru} (hr : rok ρ) {kn : List Nat} (hc : clo ρ kn) {pr qu : List Nat} {D : Nat} (hun : ∀ u, u < kn.length → u ∉ qu → (∃ t ∈ ad ρ kn u, ¬ (t ∈ pr ∧ oN ρ kn t = 1)) ∧ ∀ t ∈ ad ρ kn u, t ∈ pr → oN ρ kn t ≠ 0) (hlow : ∀ w ∈ qu, dN ρ kn w < D → w ∈ pr) : ∀ e, e ≤ D → ∀ w, w < kn.length → vN ρ kn e w < 2 → w ∈ qu := by
  intro e
  induction e with
  | zero =>
    intro _ w hw hv
    refine Classical.byContradiction fun hq => ?_
    obtain ⟨⟨t, ht, -⟩, -⟩ := hun w hw hq
    have hl : (mv ρ (ndA kn w)).length = 0 := by
      refine Classical.byContradiction fun g => ?_
      unfold vN at hv
      simp only [vO] at hv
      rw [if_neg g] at hv
      omega
    have : (ad ρ kn w).length = 0 := by rw [ad_len]; exact hl
    rw [List.eq_nil_of_length_eq_zero this] at ht
    exact absurd ht (by simp)
  | succ e ih =>
    intro he w hw hv
    by_cases h1 : vN ρ kn e w < 2
    · exact ih (by omega) w hw h1
    · refine Classical.byContradiction fun hq => ?_
      obtain ⟨hu1, hu2⟩ := hun w hw hq
      -- a target that is decided within e is queued, and done
      have tgt1 : ∀ t, t < kn.length → vN ρ kn e t < 2 → t ∈ pr ∧ oN ρ kn t = vN ρ kn e t := by
        intro t ht hvt
        have hd := dF_spec hvt
        exact ⟨hlow t (ih (by omega) t ht hvt) (by have := hd.2.2.1; unfold dN; omega), (oF_dec hvt).1⟩
      unfold vN at hv h1
      rw [vO_s, if_neg h1] at hv
      by_cases h2 : (suc ρ (ndA kn w)).any (fun t => vO ρ e t == 0) = true
      · obtain ⟨t, ht, ht0⟩ := List.any_eq_true.mp h2
        have ht0 : vO ρ e t = 0 := by simpa using ht0
        obtain ⟨g1, g2, g3⟩ := ad_mem hc hw ht
        have hv0 : vN ρ kn e (kn.idxOf t) = 0 := by unfold vN; rw [g3]; exact ht0
        obtain ⟨k1, k2⟩ := tgt1 _ g2 (by omega)
        exact hu2 _ g1 k1 (by omega)
      · rw [if_neg h2] at hv
        by_cases h3 : (suc ρ (ndA kn w)).all (fun t => vO ρ e t == 1) = true
        · obtain ⟨t, ht, hnt⟩ := hu1
          obtain ⟨g1, g2⟩ := ad_inv hc hw ht
          have ht1 : vO ρ e (ndA kn t) = 1 := by simpa using List.all_eq_true.mp h3 _ g2
          obtain ⟨k1, k2⟩ := tgt1 t g1 (by unfold vN; omega)
          exact hnt ⟨k1, by rw [k2]; exact ht1⟩
        · rw [if_neg h3] at hv
          omega
theorem vN_first {ρ : Ru} {kn : List Nat} {D u : Nat} (hu : ¬ vN ρ kn D u < 2) (h : vN ρ kn (D + 1) u < 2) : dN ρ kn u = D + 1 ∧ oN ρ kn u = vN ρ kn (D + 1) u ∧ vN ρ kn (dN ρ kn u) u < 2 := by
  have hd : dN ρ kn u = D + 1 := dF_eq h (fun e he hv => hu (by
    have := vO_mono hv (show e ≤ D by omega)
    unfold vN
    rw [this]
    exact hv))
  exact ⟨hd, (oF_dec h).1, by rw [hd]; exact h⟩
/-- a step to a lost position wins -/
theorem q_win {ρ : Ru} {kn : List Nat} (hc : clo ρ kn) {u v : Nat} (hu : u < kn.length) (hv : v ∈ ad ρ kn u) (hdec : vN ρ kn (dN ρ kn v) v < 2) (ho : oN ρ kn v = 0) (hund : ¬ vN ρ kn (dN ρ kn v) u < 2) : dN ρ kn u = dN ρ kn v + 1 ∧ oN ρ kn u = 1 ∧ vN ρ kn (dN ρ kn u) u < 2 := by
  obtain ⟨g1, g2⟩ := ad_inv hc hu hv
  have e0 : vN ρ kn (dN ρ kn v) v = 0 := (oF_dec hdec).1.symm.trans ho
  have h1 : vN ρ kn (dN ρ kn v + 1) u = 1 := by
    show vO ρ (dN ρ kn v + 1) (ndA kn u) = 1
    rw [vO_s, if_neg (show ¬ vO ρ (dN ρ kn v) (ndA kn u) < 2 from hund), if_pos]
    exact List.any_eq_true.mpr ⟨_, g2, by simpa [vN] using e0⟩
  obtain ⟨a, b, c⟩ := vN_first hund (by omega)
  exact ⟨a, b.trans h1, c⟩
/-- all steps lead to won positions: lost -/
theorem q_lose {ρ : Ru} {kn : List Nat} (hc : clo ρ kn) {u D : Nat} (hu : u < kn.length) (hall : ∀ t ∈ ad ρ kn u, vN ρ kn D t = 1) (hund : ¬ vN ρ kn D u < 2) : dN ρ kn u = D + 1 ∧ oN ρ kn u = 0 ∧ vN ρ kn (dN ρ kn u) u < 2 := by
  have hs : ∀ t ∈ suc ρ (ndA kn u), vO ρ D t = 1 := by
    intro t ht
    obtain ⟨g1, g2, g3⟩ := ad_mem hc hu ht
    have := hall _ g1
    unfold vN at this
    rwa [g3] at this
  have h1 : vN ρ kn (D + 1) u = 0 := by
    show vO ρ (D + 1) (ndA kn u) = 0
    rw [vO_s, if_neg (show ¬ vO ρ D (ndA kn u) < 2 from hund), if_neg, if_pos]
    · exact List.all_eq_true.mpr (fun t ht => by simpa using hs t ht)
    · intro h
      obtain ⟨t, ht, h0⟩ := List.any_eq_true.mp h
      have h0 : vO ρ D t = 0 := by simpa using h0
      have := hs t ht
      omega
  obtain ⟨a, b, c⟩ := vN_first hund (by omega)
  exact ⟨a, b.trans h1, c⟩
/-- how often u stands before v -/
theorem pre_app (E F : List (Nat × Nat)) (v : Nat) : pre (E ++ F) v = pre E v ++ pre F v := by unfold pre; rw [List.filter_append, List.map_append]
theorem pre_one {i v : Nat} : ∀ l : List Nat, pre (l.map (fun t => (i, t))) v = List.replicate (l.count v) i := by
  intro l
  induction l with
  | nil => rfl
  | cons a l ih =>
    unfold pre at ih ⊢
    by_cases h : a = v
    · subst h
      simp [ih, List.replicate_succ]
    · simp [h, ih, List.count_cons]
theorem pre_cnt {ρ : Ru} {kn : List Nat} (u v : Nat) : ∀ i, (pre (EL ρ kn i) v).count u = if u < i then (ad ρ kn u).count v else 0 := by
  intro i
  induction i with
  | zero => simp [EL, pre]
  | succ i ih =>
    simp only [EL]
    rw [pre_app, List.count_append, ih, pre_one, List.count_replicate]
    rcases Nat.lt_trichotomy u i with h | h | h
    · have h1 : u < i + 1 := by omega
      have h2 : ¬ i = u := by omega
      simp [h, h1, h2]
    · subst h
      simp
    · have h0 : ¬ u < i := by omega
      have h1 : ¬ u < i + 1 := by omega
      have h2 : ¬ i = u := by omega
      simp [h0, h1, h2]
theorem pre_lt {ρ : Ru} {kn : List Nat} {u v : Nat} (h : u ∈ pre (EL ρ kn kn.length) v) : u < kn.length ∧ v ∈ ad ρ kn u := by
  have hc := pre_cnt (ρ := ρ) (kn := kn) u v kn.length
  have hp := List.count_pos_iff.mpr h
  by_cases hu : u < kn.length
  · rw [if_pos hu] at hc
    exact ⟨hu, List.count_pos_iff.mp (by omega)⟩
  · rw [if_neg hu] at hc
    omega
/-- the steps of u that are done and lead to won positions -/
noncomputable def dn (ρ : Ru) (kn pr : List Nat) (u : Nat) : Nat := (ad ρ kn u).countP (fun t => decide (t ∈ pr ∧ oN ρ kn t = 1))
theorem dn_le (ρ : Ru) (kn pr : List Nat) (u : Nat) : dn ρ kn pr u ≤ (ad ρ kn u).length := List.countP_le_length
theorem cnt_or {p : Nat → Bool} {v : Nat} (hp : p v = false) : ∀ l : List Nat, l.countP (fun t => p t || t == v) = l.countP p + l.count v := by
  intro l
  induction l with
  | nil => rfl
  | cons a l ih =>
    rw [List.countP_cons, List.countP_cons, List.count_cons, ih]
    by_cases h : a = v
    · subst h; simp [hp]; omega
    · by_cases h2 : p a = true <;> simp [h, h2] <;> omega
theorem dn_all {ρ : Ru} {kn pr : List Nat} {u v : Nat} (hv : v ∉ pr) (h : (ad ρ kn u).length ≤ dn ρ kn pr u + (ad ρ kn u).count v) : ∀ t ∈ ad ρ kn u, (t ∈ pr ∧ oN ρ kn t = 1) ∨ t = v := by
  have hc := cnt_or (p := fun t => decide (t ∈ pr ∧ oN ρ kn t = 1)) (v := v) (by simp [hv]) (ad ρ kn u)
  have hle := List.countP_le_length (l := ad ρ kn u) (p := fun t => decide (t ∈ pr ∧ oN ρ kn t = 1) || t == v)
  unfold dn at h
  have he := List.countP_eq_length.mp (show (ad ρ kn u).countP (fun t => decide (t ∈ pr ∧ oN ρ kn t = 1) || t == v) = (ad ρ kn u).length by omega)
  intro t ht
  have := he t ht
  simpa using this
theorem dn_app {ρ : Ru} {kn pr : List Nat} {u v : Nat} (hv : v ∉ pr) : dn ρ kn (pr ++ [v]) u = dn ρ kn pr u + (if oN ρ kn v = 1 then (ad ρ kn u).count v else 0) := by
  unfold dn
  by_cases ho : oN ρ kn v = 1
  · rw [if_pos ho, ← cnt_or (p := fun t => decide (t ∈ pr ∧ oN ρ kn t = 1)) (v := v) (by simp [hv])]
    refine List.countP_congr (fun t _ => ?_)
    by_cases h : t = v
    · subst h; simp [ho]
    · simp [h]
  · rw [if_neg ho, Nat.add_zero]
    refine List.countP_congr (fun t _ => ?_)
    by_cases h : t = v
    · subst h; simp [ho]
    · simp [h]
