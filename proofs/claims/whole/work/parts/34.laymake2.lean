theorem hm_ifc {α : Type} {b c : Prop} [Decidable b] [Decidable c] {x y : α} (h : b ↔ c) : (if b then x else y) = (if c then x else y) := by
  by_cases hb : b
  · rw [if_pos hb, if_pos (h.mp hb)]
  · rw [if_neg hb, if_neg (fun q => hb (h.mpr q))]
theorem e_join {a k : Nat} (ha : a < 1215) (hk : k < 20) {S : hm_S} {T : hm_T} {Q : Int32 → hm_S → hm_T → Prop} : wp_2_join (nI a) (nI k) S T Q ↔ Q (S 18 (a * 20 + k)) S T := by
  unfold wp_2_join
  simp only [n_lit]
  rw [pk_mul, nI_add, e_get (by omega) (by omega)]
def J2 (l kk : Nat) : Nat → Int32 := fun x => if x / 20 < 1215 ∧ szk (x % 20) ≤ 10 - cnt (x / 20) ∧ (lastk (x / 20) ≤ x % 20 ∨ x / 20 < l ∨ (x / 20 = l ∧ x % 20 < kk)) then nI (jt (x / 20) (x % 20)) else 0
theorem J2_0 : J1 1215 = J2 1 0 := by
  funext x
  unfold J1 J2
  by_cases ha : x / 20 < 1215
  · have hk : x % 20 < 20 := Nat.mod_lt _ (by decide)
    have hc := (tq_cnt ha).1
    by_cases hl : lastk (x / 20) ≤ x % 20
    · by_cases hz : szk (x % 20) ≤ 10 - cnt (x / 20)
      · have hn : x % 20 - lastk (x / 20) < nch (x / 20) := by unfold nch; unfold szk at hz; omega
        have hm : fc (x / 20) + (x % 20 - lastk (x / 20)) < 1215 := by
          have h1 := (tq_fc ha).2.1
          have h2 := tq_fcle (l := x / 20 + 1) (by omega)
          omega
        rw [if_pos ⟨ha, hl, hn, hm⟩, if_pos ⟨ha, hz, Or.inl hl⟩, (tq_jt ha hk hz).2.2.1 hl]
      · rw [if_neg (fun q => hz (by unfold szk; have := q.2.2.1; unfold nch at this; omega)), if_neg (fun q => hz q.2.1)]
    · rw [if_neg (fun q => hl q.2.1), if_neg (fun q => ?_)]
      rcases q.2.2 with h | h | h
      · exact hl h
      · have h0 : x / 20 = 0 := by omega
        rw [h0, k_fc0.2.2.2] at hl
        exact hl (Nat.zero_le _)
      · omega
  · rw [if_neg (fun q => ha q.1), if_neg (fun q => ha q.1)]
theorem J2_at {l kk a k : Nat} (ha : a < 1215) (hk : k < 20) (hz : szk k ≤ 10 - cnt a) (h : lastk a ≤ k ∨ a < l ∨ (a = l ∧ k < kk)) : J2 l kk (a * 20 + k) = nI (jt a k) := by
  have h1 : (a * 20 + k) / 20 = a := by omega
  have h2 : (a * 20 + k) % 20 = k := by omega
  unfold J2
  rw [h1, h2, if_pos ⟨ha, hz, h⟩]
theorem J2_s {l kk : Nat} (hl : l < 1215) (hk : kk < 20) (hz : szk kk ≤ 10 - cnt l) : upd (J2 l kk) (l * 20 + kk) (nI (jt l kk)) = J2 l (kk + 1) := by
  funext x
  unfold upd J2
  by_cases hx : x = l * 20 + kk
  · have h1 : x / 20 = l := by omega
    have h2 : x % 20 = kk := by omega
    rw [if_pos hx, h1, h2, if_pos ⟨hl, hz, Or.inr (Or.inr ⟨rfl, by omega⟩)⟩]
  · rw [if_neg hx]
    have hiff : (lastk (x / 20) ≤ x % 20 ∨ x / 20 < l ∨ (x / 20 = l ∧ x % 20 < kk)) ↔ (lastk (x / 20) ≤ x % 20 ∨ x / 20 < l ∨ (x / 20 = l ∧ x % 20 < kk + 1)) := by omega
    exact hm_ifc (and_congr Iff.rfl (and_congr Iff.rfl hiff))
theorem J2_e {l kk : Nat} (h : kk = lastk l ∨ (10 - cnt l < szk kk ∧ kk ≤ lastk l)) : J2 l kk = J2 (l + 1) 0 := by
  funext x
  unfold J2
  have hiff : (x / 20 < 1215 ∧ szk (x % 20) ≤ 10 - cnt (x / 20) ∧ (lastk (x / 20) ≤ x % 20 ∨ x / 20 < l ∨ (x / 20 = l ∧ x % 20 < kk))) ↔ (x / 20 < 1215 ∧ szk (x % 20) ≤ 10 - cnt (x / 20) ∧ (lastk (x / 20) ≤ x % 20 ∨ x / 20 < l + 1 ∨ (x / 20 = l + 1 ∧ x % 20 < 0))) := by
    constructor
    · rintro ⟨a, b, c⟩
      exact ⟨a, b, by omega⟩
    · rintro ⟨a, b, c⟩
      refine ⟨a, b, ?_⟩
      rcases c with c | c | c
      · exact Or.inl c
      · rcases Nat.lt_or_ge (x / 20) l with q | q
        · exact Or.inr (Or.inl q)
        · have e : x / 20 = l := by omega
          rw [e] at b ⊢
          unfold szk at b h
          rcases h with h | h
          · rcases Nat.lt_or_ge (x % 20) (lastk l) with q | q
            · exact Or.inr (Or.inr ⟨rfl, by omega⟩)
            · exact Or.inl q
          · exact Or.inr (Or.inr ⟨rfl, by omega⟩)
      · omega
  exact hm_ifc hiff
def L2 (l kk : Nat) : hm_S := LB (nI 1215) (tabf 1215 stem) (tabf 1215 lastk) (tabf 1215 len) (tabf 1215 cnt) (tabf 1215 bnd) (fun _ => 0) (J2 l kk)
theorem z_jlk_step {l kk : Nat} (hl : l < 1215) (hk : kk < lastk l) (hz : szk kk ≤ 10 - cnt l) {T : hm_T} {Q : hm_S → hm_T → Prop} {K : Int32 → Int32 → Int32 → Int32 → hm_S → hm_T → Prop} (h : K (nI l) (nI (10 - cnt l)) (nI (lastk l)) (nI (kk + 1)) (L2 l (kk + 1)) T) : wb_2_joinLesserKinds_24 Q K (nI l) (nI (10 - cnt l)) (nI (lastk l)) (nI kk) (L2 l kk) T := by
  have hla := tq_lastlt hl
  have h0 : l ≠ 0 := by
    intro e
    rw [e, k_fc0.2.2.2] at hk
    omega
  obtain ⟨s1, -, -, -⟩ := tq_lay hl h0
  obtain ⟨j1, -, -, j4⟩ := tq_jt hl (by omega) hz
  obtain ⟨q1, q2, q3, q4⟩ := j4 (by omega)
  have hs : stem l < 1215 := by omega
  obtain ⟨p1, -, -, -⟩ := tq_jt hs (k := kk) (by omega) q3
  unfold wb_2_joinLesserKinds_24
  rw [if_neg (nI_ge hk (by omega)), e_sizeOfKind (by omega), if_neg (nI_nlt (by unfold szk at hz; exact hz) (by omega)), e_get hl (by omega)]
  rw [show L2 l kk (5 + 1) l = nI (stem l) from tabf_at stem hl]
  rw [e_join hs (by omega), show L2 l kk 18 (stem l * 20 + kk) = nI (jt (stem l) kk) from J2_at hs (by omega) q3 (Or.inr (Or.inl s1))]
  rw [e_join p1 hla, show L2 l kk 18 (jt (stem l) kk * 20 + lastk l) = nI (jt (jt (stem l) kk) (lastk l)) from J2_at p1 hla q4 (Or.inl q2)]
  simp only [n_lit]
  rw [pk_mul, nI_add, e_set (by omega) (by omega), ← q1]
  unfold L2
  rw [LB_J, J2_s hl (by omega) hz, ← n_lit 1, nI_1]
  exact h
theorem z_jlk_loop {l : Nat} (hl : l < 1215) {T : hm_T} {Q : hm_S → hm_T → Prop} (h : Q (L2 (l + 1) 0) T) : ∀ n kk, kk + n = lastk l → ∃ f, wl_2_joinLesserKinds_24 Q f (nI l) (nI (10 - cnt l)) (nI (lastk l)) (nI kk) (L2 l kk) T := by
  have hla := tq_lastlt hl
  intro n
  induction n with
  | zero =>
    intro kk hk
    refine ⟨1, ?_⟩
    show wb_2_joinLesserKinds_24 Q _ _ _ _ _ _ T
    unfold wb_2_joinLesserKinds_24
    rw [if_pos (nI_le (by omega) (by omega))]
    unfold L2
    rw [J2_e (Or.inl (by omega))]
    exact h
  | succ n ih =>
    intro kk hk
    by_cases hz : szk kk ≤ 10 - cnt l
    · obtain ⟨f, hf⟩ := ih (kk + 1) (by omega)
      exact ⟨f + 1, z_jlk_step hl (by omega) hz hf⟩
    · refine ⟨1, ?_⟩
      show wb_2_joinLesserKinds_24 Q _ _ _ _ _ _ T
      unfold wb_2_joinLesserKinds_24
      rw [if_neg (nI_ge (by omega) (by omega)), e_sizeOfKind (by omega), if_pos (nI_lt (by unfold szk at hz; omega) (by omega))]
      unfold L2
      rw [J2_e (Or.inr ⟨by omega, by omega⟩)]
      exact h
theorem z_joinLesserKinds {l : Nat} (hl : l < 1215) {T : hm_T} {Q : hm_S → hm_T → Prop} (h : Q (L2 (l + 1) 0) T) : wp_2_joinLesserKinds (nI l) (L2 l 0) T Q := by
  unfold wp_2_joinLesserKinds
  have hc10 := (tq_cnt hl).1
  rw [e_get hl (by omega), e_get hl (by omega)]
  rw [show L2 l 0 (11 + 1) l = nI (cnt l) from tabf_at cnt hl, show L2 l 0 (7 + 1) l = nI (lastk l) from tabf_at lastk hl]
  rw [n_lit 10, pk_sub hc10]
  exact z_jlk_loop hl h (lastk l) 0 (by omega)
theorem z_lay2 {T : hm_T} {Q : hm_S → hm_T → Prop} (h : wb_2_init_155 Q (L2 1215 0) T) : ∀ n l, l + n = 1215 → ∃ f, wl_2_init_137 Q f (nI l) (L2 l 0) T := by
  intro n
  induction n with
  | zero =>
    intro l hl
    refine ⟨1, ?_⟩
    show wb_2_init_137 Q _ _ _ T
    unfold wb_2_init_137
    have e : l = 1215 := by omega
    rw [e, if_pos (by rw [n_lit]; exact nI_le (Nat.le_refl _) (by omega))]
    exact h
  | succ n ih =>
    intro l hl
    obtain ⟨f, hf⟩ := ih (l + 1) (by omega)
    refine ⟨f + 1, ?_⟩
    show wb_2_init_137 Q _ _ _ T
    unfold wb_2_init_137
    rw [if_neg (by rw [n_lit]; exact nI_ge (by omega) (by omega)), nI_1]
    exact z_joinLesserKinds (by omega) hf
def L3 (l : Nat) : hm_S := LB (nI 1215) (tabf 1215 stem) (tabf 1215 lastk) (tabf 1215 len) (tabf 1215 cnt) (tabf 1215 bnd) (tabf l frd) (J2 1215 0)
theorem z_lay3 {T : hm_T} {Q : hm_S → hm_T → Prop} (h : Q (L3 1215) T) : ∀ n l, l + n = 1215 → 1 ≤ l → ∃ f, wl_2_init_157 Q f (nI l) (L3 l) T := by
  intro n
  induction n with
  | zero =>
    intro l hl h1
    refine ⟨1, ?_⟩
    show wb_2_init_157 Q _ _ _ T
    unfold wb_2_init_157
    have e : l = 1215 := by omega
    rw [e, if_pos (by rw [n_lit]; exact nI_le (Nat.le_refl _) (by omega))]
    exact h
  | succ n ih =>
    intro l hl h1
    obtain ⟨f, hf⟩ := ih (l + 1) (by omega) (by omega)
    refine ⟨f + 1, ?_⟩
    show wb_2_init_157 Q _ _ _ T
    have hl1 : l < 1215 := by omega
    have hla := tq_lastlt hl1
    obtain ⟨s1, -, -, -⟩ := tq_lay hl1 (by omega)
    obtain ⟨-, -, fr⟩ := tq_frd hl1
    obtain ⟨f1, f2⟩ := fr (by omega)
    have hs : stem l < 1215 := by omega
    have hfs := (tq_frd hs).1
    have hev : lastk l / 2 * 2 < 20 := by omega
    unfold wb_2_init_157
    rw [if_neg (by rw [n_lit]; exact nI_ge hl1 (by omega)), e_get hl1 (by omega)]
    rw [show L3 l (7 + 1) l = nI (lastk l) from tabf_at lastk hl1, e_sizeOfKind (by omega)]
    simp only [n_lit 0]
    rw [e_kindOfHeap (by omega), e_get hl1 (by omega), show L3 l (5 + 1) l = nI (stem l) from tabf_at stem hl1, e_get hs (by omega), show L3 l (15 + 1) (stem l) = nI (frd (stem l)) from tabf_at frd s1]
    rw [show 2 * (lastk l / 2 + 1 - 1) + 0 = lastk l / 2 * 2 by omega, e_join hfs hev, show L3 l 18 (frd (stem l) * 20 + lastk l / 2 * 2) = nI (jt (frd (stem l)) (lastk l / 2 * 2)) from J2_at hfs hev f2 (Or.inr (Or.inl hfs)), ← f1]
    rw [e_set hl1 (by omega), nI_1]
    unfold L3
    rw [LB_F, tabf_s]
    exact hf
theorem z_layinit {T : hm_T} {Q : hm_S → hm_T → Prop} (hT : ∀ a k, T a k = 0) (h : Q (L3 1215) T) : wp_2_init (fun _ _ => 0) T Q := by
  unfold wp_2_init
  simp only [wp_5_init, hT, implies_true, true_and]
  have e0 : hm_up (fun _ _ => (0 : Int32)) 4 7 1 = L1 (fc 0) := by
    funext q j
    have hJ : ∀ x, J1 1 x = 0 := by
      intro x
      unfold J1
      by_cases hc : x / 20 < 1215 ∧ lastk (x / 20) ≤ x % 20 ∧ x % 20 - lastk (x / 20) < nch (x / 20) ∧ fc (x / 20) + (x % 20 - lastk (x / 20)) < 1
      · have := (tq_fc hc.1).1
        omega
      · rw [if_neg hc]
    have hT0 : ∀ (f : Nat → Nat), f 0 = 0 → ∀ i, tabf 1 f i = 0 := by
      intro f hf i
      unfold tabf
      by_cases hi : i < 1
      · rw [if_pos hi, show i = 0 by omega, hf]; rfl
      · rw [if_neg hi]
    rw [k_fc0.1]
    obtain ⟨z1, z2, z3, z4, z5, z6⟩ := tq_0
    unfold L1 LB hm_up
    by_cases h4 : q = 4
    · by_cases hj : j = 7 <;> simp [h4, hj, n_lit]
    · simp only [h4, if_false]
      by_cases h6 : q = 6
      · simp [h6, hT0 stem z4]
      · by_cases h8 : q = 8
        · simp [h8, hT0 lastk z5]
        · by_cases h10 : q = 10
          · simp [h10, hT0 len z1]
          · by_cases h12 : q = 12
            · simp [h12, hT0 cnt z2]
            · by_cases h14 : q = 14
              · simp [h14, hT0 bnd z3]
              · by_cases h18 : q = 18
                · simp [h18, hJ]
                · simp [h6, h8, h10, h12, h14, h18]
  rw [e0]
  refine z_lay1 ?_ 1215 0 (by omega)
  unfold wb_2_init_135
  have e1 : L1 1215 = L2 1 0 := by unfold L1 L2; rw [J2_0]
  rw [e1]
  refine z_lay2 ?_ 1214 1 (by omega)
  unfold wb_2_init_155
  have e2 : L2 1215 0 = L3 1 := by
    unfold L2 L3
    congr 1
    funext i
    unfold tabf
    by_cases hi : i < 1
    · rw [if_pos hi, show i = 0 by omega, tq_0.2.2.2.2.2]; rfl
    · rw [if_neg hi]
  rw [e2]
  exact z_lay3 h 1214 1 (by omega) (by omega)
