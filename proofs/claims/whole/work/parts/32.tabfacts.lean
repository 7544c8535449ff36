/-! ===== what the kernel said, as plain facts ===== -/
theorem tq_lay {l : Nat} (h : l < 1215) (h0 : l ≠ 0) : stem l < l ∧ lay l = lay (stem l) ++ [lastk l] ∧ lastk (stem l) ≤ lastk l ∧ lastk l < 20 := by
  have := allB_spec k_lay l h
  simp only [Bool.or_eq_true, Bool.and_eq_true, beq_iff_eq, decide_eq_true_eq] at this
  rcases this with q | ⟨⟨⟨a, b⟩, c⟩, d⟩
  · exact absurd q h0
  · exact ⟨a, b, c, d⟩
theorem tq_cnt {l : Nat} (h : l < 1215) : cnt l ≤ 10 ∧ (lay l).length ≤ 10 := by
  have := allB_spec k_cnt l h
  simpa only [Bool.and_eq_true, decide_eq_true_eq] using this
theorem tq_fc {l : Nat} (h : l < 1215) : l < fc l ∧ fc (l + 1) = fc l + nch l ∧ fc l ≤ 1215 ∧ ∀ j, j < nch l → stem (fc l + j) = l ∧ lastk (fc l + j) = lastk l + j := by
  have := allB_spec k_fc l h
  simp only [Bool.and_eq_true, decide_eq_true_eq] at this
  obtain ⟨⟨⟨a, b⟩, c⟩, d⟩ := this
  refine ⟨a, b, c, fun j hj => ?_⟩
  have := allB_spec d j hj
  simpa only [Bool.and_eq_true, decide_eq_true_eq] using this
theorem tq_fcle : ∀ {l : Nat}, l ≤ 1215 → fc l ≤ 1215 := by
  intro l h
  rcases Nat.lt_or_eq_of_le h with q | q
  · exact (tq_fc q).2.2.1
  · rw [q, k_fc0.2.1]; exact Nat.le_refl _
theorem tq_jt {l k : Nat} (h : l < 1215) (hk : k < 20) (hz : szk k ≤ 10 - cnt l) : jt l k < 1215 ∧ lay (jt l k) = insL k (lay l) ∧ (lastk l ≤ k → jt l k = fc l + (k - lastk l)) ∧ (¬ lastk l ≤ k → jt l k = jt (jt (stem l) k) (lastk l) ∧ lastk (jt (stem l) k) ≤ lastk l ∧ szk k ≤ 10 - cnt (stem l) ∧ szk (lastk l) ≤ 10 - cnt (jt (stem l) k)) := by
  have := allB_spec (allB_spec k_jt l h) k hk
  simp only [Bool.or_eq_true, Bool.and_eq_true, beq_iff_eq, decide_eq_true_eq, Bool.not_eq_true', decide_eq_false_iff_not] at this
  rcases this with q | ⟨⟨a, b⟩, c⟩
  · exact absurd hz q
  · refine ⟨a, b, fun hl => ?_, fun hl => ?_⟩
    · rw [if_pos hl] at c; simpa using c
    · rw [if_neg hl] at c; simp only [Bool.and_eq_true, beq_iff_eq, decide_eq_true_eq] at c; exact ⟨c.1.1.1, c.1.1.2, c.1.2, c.2⟩
theorem tq_frd {l : Nat} (h : l < 1215) : frd l < 1215 ∧ lay (frd l) = (lay l).map (fun k => k / 2 * 2) ∧ (l ≠ 0 → frd l = jt (frd (stem l)) (lastk l / 2 * 2) ∧ szk (lastk l / 2 * 2) ≤ 10 - cnt (frd (stem l))) := by
  have := allB_spec k_frd l h
  simp only [Bool.or_eq_true, Bool.and_eq_true, beq_iff_eq, decide_eq_true_eq] at this
  obtain ⟨⟨a, b⟩, c⟩ := this
  exact ⟨a, b, fun h0 => c.resolve_left h0⟩
theorem tq_pi {l : Nat} (h : l < 1215) : xpi l < 1215 ∧ xpv (xpi l) = l ∧ xpv l < 1215 ∧ xpi (xpv l) = l := by
  have := allB_spec k_pi l h
  simp only [Bool.and_eq_true, decide_eq_true_eq] at this
  exact ⟨this.1.1.1, this.1.1.2, this.1.2, this.2⟩
theorem cntL_app (a b : List Nat) : cntL (a ++ b) = cntL a + cntL b := by
  induction a with
  | nil => simp [cntL]
  | cons x l ih => simp only [List.cons_append, cntL, ih]; omega
theorem bndL_app (a b : List Nat) : bndL (a ++ b) = bndL a + bndL b := by
  induction a with
  | nil => simp [bndL]
  | cons x l ih => simp only [List.cons_append, bndL, ih]; omega
theorem bndL_le (a : List Nat) : bndL a ≤ a.length := by
  induction a with
  | nil => simp [bndL]
  | cons x l ih => simp only [bndL, List.length_cons]; omega
def len (l : Nat) : Nat := (lay l).length
theorem tq_rec {l : Nat} (h : l < 1215) (h0 : l ≠ 0) : len l = len (stem l) + 1 ∧ cnt l = cnt (stem l) + szk (lastk l) ∧ bnd l = bnd (stem l) + lastk l % 2 := by
  obtain ⟨-, e, -, -⟩ := tq_lay h h0
  refine ⟨?_, ?_, ?_⟩
  · unfold len; rw [e, List.length_append]; rfl
  · unfold cnt; rw [e, cntL_app]; simp [cntL]
  · unfold bnd; rw [e, bndL_app]; simp [bndL]
theorem tq_lastlt {l : Nat} (h : l < 1215) : lastk l < 20 := by
  by_cases h0 : l = 0
  · rw [h0, k_fc0.2.2.2]; decide
  · exact (tq_lay h h0).2.2.2
theorem tq_len {l : Nat} (h : l < 1215) : len l ≤ 10 := (tq_cnt h).2
theorem tq_bnd {l : Nat} (h : l < 1215) : bnd l ≤ 10 := Nat.le_trans (bndL_le _) (tq_cnt h).2
theorem tq_0 : len 0 = 0 ∧ cnt 0 = 0 ∧ bnd 0 = 0 ∧ stem 0 = 0 ∧ lastk 0 = 0 ∧ frd 0 = 0 := by decide +kernel
/-! ===== the state while the layouts are made ===== -/
def LB (mk : Int32) (a b c d e F J : Nat → Int32) : hm_S := fun q => if q = 4 then (fun k => if k = 7 then mk else 0) else if q = 6 then a else if q = 8 then b else if q = 10 then c else if q = 12 then d else if q = 14 then e else if q = 16 then F else if q = 18 then J else fun _ => 0
section LBS
variable (mk : Int32) (a b c d e F J : Nat → Int32) (i : Nat) (v : Int32)
theorem LB_mk : hm_up (LB mk a b c d e F J) 4 7 v = LB v a b c d e F J := by
  funext q j
  by_cases h : q = 4
  · by_cases hj : j = 7 <;> simp [hm_up, LB, h, hj]
  · simp [hm_up, LB, h]
theorem LB_a : hm_up (LB mk a b c d e F J) 6 i v = LB mk (upd a i v) b c d e F J := by
  funext q j
  by_cases h : q = 6
  · subst h; simp [hm_up, LB, upd]
  · by_cases h4 : q = 4 <;> simp [hm_up, LB, h, h4]
theorem LB_b : hm_up (LB mk a b c d e F J) 8 i v = LB mk a (upd b i v) c d e F J := by
  funext q j
  by_cases h : q = 8
  · subst h; simp [hm_up, LB, upd]
  · simp [hm_up, LB, h]
theorem LB_c : hm_up (LB mk a b c d e F J) 10 i v = LB mk a b (upd c i v) d e F J := by
  funext q j
  by_cases h : q = 10
  · subst h; simp [hm_up, LB, upd]
  · simp [hm_up, LB, h]
theorem LB_d : hm_up (LB mk a b c d e F J) 12 i v = LB mk a b c (upd d i v) e F J := by
  funext q j
  by_cases h : q = 12
  · subst h; simp [hm_up, LB, upd]
  · simp [hm_up, LB, h]
theorem LB_e : hm_up (LB mk a b c d e F J) 14 i v = LB mk a b c d (upd e i v) F J := by
  funext q j
  by_cases h : q = 14
  · subst h; simp [hm_up, LB, upd]
  · simp [hm_up, LB, h]
theorem LB_F : hm_up (LB mk a b c d e F J) 16 i v = LB mk a b c d e (upd F i v) J := by
  funext q j
  by_cases h : q = 16
  · subst h; simp [hm_up, LB, upd]
  · simp [hm_up, LB, h]
theorem LB_J : hm_up (LB mk a b c d e F J) 18 i v = LB mk a b c d e F (upd J i v) := by
  funext q j
  by_cases h : q = 18
  · subst h; simp [hm_up, LB, upd]
  · simp [hm_up, LB, h]
end LBS
def tabf (m : Nat) (f : Nat → Nat) : Nat → Int32 := fun i => if i < m then nI (f i) else 0
theorem tabf_s (m : Nat) (f : Nat → Nat) : upd (tabf m f) m (nI (f m)) = tabf (m + 1) f := by
  funext i
  unfold upd tabf
  by_cases h : i = m
  · simp [h]
  · by_cases h2 : i < m
    · simp [h, h2, show i < m + 1 by omega]
    · simp [h, h2, show ¬ i < m + 1 by omega]
theorem tabf_at {m i : Nat} (f : Nat → Nat) (h : i < m) : tabf m f i = nI (f i) := by simp [tabf, h]
def J1 (m : Nat) : Nat → Int32 := fun x => if x / 20 < 1215 ∧ lastk (x / 20) ≤ x % 20 ∧ x % 20 - lastk (x / 20) < nch (x / 20) ∧ fc (x / 20) + (x % 20 - lastk (x / 20)) < m then nI (fc (x / 20) + (x % 20 - lastk (x / 20))) else 0
theorem J1_s {l j : Nat} (hl : l < 1215) (hj : j < nch l) (hk : lastk l + j < 20) : upd (J1 (fc l + j)) (l * 20 + (lastk l + j)) (nI (fc l + j)) = J1 (fc l + j + 1) := by
  funext x
  unfold upd J1
  by_cases hx : x = l * 20 + (lastk l + j)
  · have h1 : x / 20 = l := by omega
    have h2 : x % 20 = lastk l + j := by omega
    rw [if_pos hx, h1, h2, if_pos ⟨hl, by omega, by omega, by omega⟩]
    congr 1; omega
  · rw [if_neg hx]
    by_cases hc : x / 20 < 1215 ∧ lastk (x / 20) ≤ x % 20 ∧ x % 20 - lastk (x / 20) < nch (x / 20)
    · by_cases hm : fc (x / 20) + (x % 20 - lastk (x / 20)) < fc l + j
      · rw [if_pos ⟨hc.1, hc.2.1, hc.2.2, hm⟩, if_pos ⟨hc.1, hc.2.1, hc.2.2, by omega⟩]
      · have hne : fc (x / 20) + (x % 20 - lastk (x / 20)) ≠ fc l + j := by
          intro e
          have s1 := ((tq_fc hc.1).2.2.2 _ hc.2.2)
          have s2 := ((tq_fc hl).2.2.2 j hj)
          rw [e] at s1
          have e1 : x / 20 = l := s1.1.symm.trans s2.1
          rw [e1] at e hc
          omega
        rw [if_neg (fun q => hm q.2.2.2), if_neg (fun q => by omega)]
    · rw [if_neg (fun q => hc ⟨q.1, q.2.1, q.2.2.1⟩), if_neg (fun q => hc ⟨q.1, q.2.1, q.2.2.1⟩)]
def L1 (m : Nat) : hm_S := LB (nI m) (tabf m stem) (tabf m lastk) (tabf m len) (tabf m cnt) (tabf m bnd) (fun _ => 0) (J1 m)
