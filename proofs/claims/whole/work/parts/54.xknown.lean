/-! ===== what the class's solver knows: positions in the order in which they were found ===== -/
theorem sumB_one {f f' : Nat → Nat} {a v : Nat} (hv : f' a = f a + v) (hne : ∀ i, i ≠ a → f' i = f i) : ∀ n, a < n → sumB f' n = sumB f n + v := by
  have same : ∀ n, n ≤ a → sumB f' n = sumB f n := by
    intro n
    induction n with
    | zero => intro _; rfl
    | succ n ih => intro h; simp only [sumB]; rw [ih (by omega), hne n (by omega)]
  intro n
  induction n with
  | zero => intro h; exact absurd h (Nat.not_lt_zero _)
  | succ n ih =>
    intro h
    simp only [sumB]
    rcases Nat.lt_or_ge a n with q | q
    · rw [ih q, hne n (by omega)]; omega
    · have e : a = n := by omega
      rw [same n (by omega), ← e, hv]
      omega
theorem sumB_list {g : Nat → Nat} {n : Nat} : ∀ l : List Nat, l.Nodup → (∀ q ∈ l, q < n) → (l.map g).sum = sumB (fun q => if q ∈ l then g q else 0) n := by
  intro l
  induction l with
  | nil => intro _ _; have := sumB_const 0 n; simp at this; simp [this]
  | cons a l ih =>
    intro hn hl
    obtain ⟨ha, hn'⟩ := List.nodup_cons.mp hn
    rw [List.map_cons, List.sum_cons, ih hn' (fun q hq => hl q (List.mem_cons_of_mem _ hq))]
    rw [sumB_one (f := fun q => if q ∈ l then g q else 0) (f' := fun q => if q ∈ a :: l then g q else 0) (a := a) (v := g a) (by simp [ha]) (fun i hi => by simp [hi]) n (hl a List.mem_cons_self)]
    omega
theorem sumB_nd {g : Nat → Nat} {n : Nat} {l : List Nat} (hn : l.Nodup) (hl : ∀ q ∈ l, q < n) : (l.map g).sum ≤ sumB g n := by
  rw [sumB_list l hn hl]
  refine sumB_le n (fun i _ => ?_)
  by_cases h : i ∈ l <;> simp [h]
theorem nd_len {n : Nat} {l : List Nat} (hn : l.Nodup) (hl : ∀ q ∈ l, q < n) : l.length ≤ n := by
  have h := sumB_nd (g := fun _ => 1) hn hl
  rw [sumB_const, Nat.mul_one] at h
  have e : ∀ l : List Nat, (l.map (fun _ => 1)).sum = l.length := by
    intro l
    induction l with
    | nil => rfl
    | cons a l ih => simp [ih]; omega
  rw [e] at h
  exact h
/-- how many steps lie before those of the i-th known position -/
def sx (ρ : Ru) (kn : List Nat) (i : Nat) : Nat := ((kn.take i).map (fun q => (mv ρ q).length)).sum
theorem sxk_0 (ρ : Ru) (kn : List Nat) : sx ρ kn 0 = 0 := rfl
theorem sx_s {ρ : Ru} {kn : List Nat} {i q : Nat} (h : kn[i]? = some q) : sx ρ kn (i + 1) = sx ρ kn i + (mv ρ q).length := by
  unfold sx
  rw [List.take_add_one, h]
  simp
theorem sx_app {ρ : Ru} {kn e : List Nat} {i : Nat} (h : i ≤ kn.length) : sx ρ (kn ++ e) i = sx ρ kn i := by
  unfold sx
  rw [List.take_append_of_le_length h]
theorem sx_mono {ρ : Ru} {kn : List Nat} {a b : Nat} (h : a ≤ b) : sx ρ kn a ≤ sx ρ kn b := by
  have one : ∀ i, sx ρ kn i ≤ sx ρ kn (i + 1) := by
    intro i
    rcases Nat.lt_or_ge i kn.length with q | q
    · rw [sx_s (List.getElem?_eq_getElem q)]; omega
    · unfold sx; rw [List.take_of_length_le q, List.take_of_length_le (by omega)]; exact Nat.le_refl _
  have all : ∀ c, sx ρ kn a ≤ sx ρ kn (a + c) := by
    intro c
    induction c with
    | zero => exact Nat.le_refl _
    | succ c ih => have := one (a + c); rw [Nat.add_assoc] at this; omega
  have := all (b - a)
  rwa [show a + (b - a) = b by omega] at this
theorem sum_mono {f g : Nat → Nat} (h : ∀ q, f q ≤ g q) : ∀ l : List Nat, (l.map f).sum ≤ (l.map g).sum := by
  intro l
  induction l with
  | nil => exact Nat.le_refl _
  | cons a l ih => simp only [List.map_cons, List.sum_cons]; have := h a; omega
theorem sx_le {ρ : Ru} {kn : List Nat} (hn : kn.Nodup) (hl : ∀ q ∈ kn, q < 2430) (i : Nat) : sx ρ kn i ≤ 15010 := by
  have h1 : sx ρ kn i ≤ ((kn.take i).map mvB).sum := sum_mono (fun q => mv_len) _
  have h2 : ((kn.take i).map mvB).sum ≤ sumB mvB 2430 := sumB_nd (hn.sublist (List.take_sublist i kn)) (fun q hq => hl q (List.mem_of_mem_take hq))
  rw [k_sumB] at h2
  omega
/-- the rows of the known positions -/
def KN (kn : List Nat) (S : hm_S) : Prop := kn.Nodup ∧ (∀ q ∈ kn, q < 2430) ∧ S 36 13 = nI kn.length ∧ (∀ i q, kn[i]? = some q → S 40 i = nI q ∧ S 38 q = nI (i + 1)) ∧ ∀ q, q < 2430 → q ∉ kn → S 38 q = 0
theorem KN.nd {kn : List Nat} {S : hm_S} (h : KN kn S) : kn.Nodup := h.1
theorem KN.lt {kn : List Nat} {S : hm_S} (h : KN kn S) : ∀ q ∈ kn, q < 2430 := h.2.1
theorem KN.fnd {kn : List Nat} {S : hm_S} (h : KN kn S) : S 36 13 = nI kn.length := h.2.2.1
theorem KN.at' {kn : List Nat} {S : hm_S} (h : KN kn S) : ∀ i q, kn[i]? = some q → S 40 i = nI q ∧ S 38 q = nI (i + 1) := h.2.2.2.1
theorem KN.no {kn : List Nat} {S : hm_S} (h : KN kn S) : ∀ q, q < 2430 → q ∉ kn → S 38 q = 0 := h.2.2.2.2
theorem KN.len {kn : List Nat} {S : hm_S} (h : KN kn S) : kn.length ≤ 2430 := nd_len h.nd h.lt
theorem KN.fr {c kn : List Nat} {S S' : hm_S} (h : KN kn S) (hf : fr c S S') (hc : ∀ a ∈ [38, 40], a ∉ c) (h13 : S' 36 13 = S 36 13) : KN kn S' := by
  refine ⟨h.nd, h.lt, h13.trans h.fnd, ?_, ?_⟩
  · rw [hf 40 (hc 40 (by decide)), hf 38 (hc 38 (by decide))]; exact h.at'
  · rw [hf 38 (hc 38 (by decide))]; exact h.no
section XK
variable {T : hm_T}
theorem x_numberFor {kn : List Nat} {q : Nat} (hq : q < 2430) {S : hm_S} (hk : KN kn S) {Q : Int32 → hm_S → hm_T → Prop} (h : ∀ kn' t S', (kn' = kn ∧ S' = S) ∨ (q ∉ kn ∧ kn' = kn ++ [q] ∧ S' 36 15 = 0) → fr [36, 38, 40] S S' → KN kn' S' → kn'[t]? = some q → Q (nI t) S' T) : wp_8_numberFor (nI q) S T Q := by
  unfold wp_8_numberFor
  rw [e_get hq (by omega)]
  simp only [Nat.reduceAdd]
  by_cases hm : q ∈ kn
  · obtain ⟨t, ht⟩ := List.mem_iff_getElem?.mp hm
    have htl : t < kn.length := (List.getElem?_eq_some_iff.mp ht).1
    have := hk.len
    rw [(hk.at' t q ht).2, nI_pred, if_neg (show ¬ nI t < (0 : Int32) from nI_nlt (a := t) (b := 0) (by omega) (by omega))]
    exact h kn t S (Or.inl ⟨rfl, rfl⟩) (fr.rf _ S) hk ht
  · have hn2 : (kn ++ [q]).Nodup := by
      rw [List.nodup_append]
      refine ⟨hk.nd, by simp, fun a ha b hb => ?_⟩
      have e : b = q := by simpa using hb
      rw [e]
      exact fun e2 => hm (e2 ▸ ha)
    have hl2 : ∀ a ∈ kn ++ [q], a < 2430 := by
      intro a ha
      rcases List.mem_append.mp ha with h1 | h1
      · exact hk.lt a h1
      · have e : a = q := by simpa using h1
        omega
    have hlen : kn.length < 2430 := by
      have := nd_len hn2 hl2
      rw [List.length_append, List.length_singleton] at this
      omega
    have a1 : hm_up S 36 15 0 36 13 = nI kn.length := by rw [hm_up_col S _ (by decide), hk.fnd]
    rw [hk.no q hq hm, if_pos (by decide), a1, e_set hlen (by omega)]
    simp only [Nat.reduceAdd]
    have a2 : hm_up (hm_up S 36 15 0) 40 kn.length (nI q) 36 13 = nI kn.length := by rw [hm_up_row _ _ _ (by decide), a1]
    rw [a2, nI_1, hm_up_same, e_set hq (by omega)]
    simp only [Nat.reduceAdd]
    have a3 : hm_up (hm_up (hm_up (hm_up S 36 15 0) 40 kn.length (nI q)) 36 13 (nI (kn.length + 1))) 38 q (nI (kn.length + 1)) 36 13 = nI (kn.length + 1) := by rw [hm_up_row _ _ _ (by decide), hm_up_same]
    rw [a3, nI_pred]
    refine h (kn ++ [q]) kn.length _ (Or.inr ⟨hm, rfl, ?_⟩) ?_ ⟨hn2, hl2, ?_, ?_, ?_⟩ (by simp)
    · rw [hm_up_row _ _ _ (by decide), hm_up_col _ _ (by decide), hm_up_row _ _ _ (by decide), hm_up_same]
    · exact (((fr.up (c := [36, 38, 40]) S 15 0 (by decide)).tr (fr.up _ _ _ (by decide))).tr (fr.up _ _ _ (by decide))).tr (fr.up _ _ _ (by decide))
    · rw [a3, List.length_append, List.length_singleton]
    · intro i p hp
      rcases Nat.lt_or_ge i kn.length with hi | hi
      · rw [List.getElem?_append_left hi] at hp
        obtain ⟨b1, b2⟩ := hk.at' i p hp
        have hpq : p ≠ q := fun e => hm (e ▸ List.mem_of_getElem? hp)
        refine ⟨?_, ?_⟩
        · rw [hm_up_row _ _ _ (by decide), hm_up_row _ _ _ (by decide), hm_up_col _ _ (by omega), hm_up_row _ _ _ (by decide), b1]
        · rw [hm_up_col _ _ hpq, hm_up_row _ _ _ (by decide), hm_up_row _ _ _ (by decide), hm_up_row _ _ _ (by decide), b2]
      · rw [List.getElem?_append_right hi] at hp
        have hi2 : i - kn.length = 0 := by
          rcases Nat.eq_zero_or_pos (i - kn.length) with e | e
          · exact e
          · rw [List.getElem?_eq_none (by rw [List.length_singleton]; omega)] at hp
            exact absurd hp (by simp)
        rw [hi2] at hp
        have e : q = p := by simpa using hp
        have e2 : i = kn.length := by omega
        subst e
        rw [e2]
        refine ⟨?_, hm_up_same _ _ _ _⟩
        rw [hm_up_row _ _ _ (by decide), hm_up_row _ _ _ (by decide), hm_up_same]
    · intro p hp hpn
      have hpq : p ≠ q := fun e => hpn (by rw [e]; simp)
      have hpk : p ∉ kn := fun e => hpn (List.mem_append_left _ e)
      rw [hm_up_col _ _ hpq, hm_up_row _ _ _ (by decide), hm_up_row _ _ _ (by decide), hm_up_row _ _ _ (by decide)]
      exact hk.no p hp hpk
end XK
