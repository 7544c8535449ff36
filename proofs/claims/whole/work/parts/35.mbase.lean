theorem q_0 : (0 : Int32) = nI 0 := rfl
theorem q_1 : (1 : Int32) = nI 1 := rfl
theorem q_2 : (2 : Int32) = nI 2 := rfl
theorem q_3 : (3 : Int32) = nI 3 := rfl
theorem q_4 : (4 : Int32) = nI 4 := rfl
theorem q_5 : (5 : Int32) = nI 5 := rfl
theorem q_6 : (6 : Int32) = nI 6 := rfl
theorem q_7 : (7 : Int32) = nI 7 := rfl
theorem q_8 : (8 : Int32) = nI 8 := rfl
theorem q_9 : (9 : Int32) = nI 9 := rfl
theorem q_10 : (10 : Int32) = nI 10 := rfl
theorem q_11 : (11 : Int32) = nI 11 := rfl
theorem q_12 : (12 : Int32) = nI 12 := rfl
theorem q_13 : (13 : Int32) = nI 13 := rfl
theorem q_20 : (20 : Int32) = nI 20 := rfl
theorem q_30 : (30 : Int32) = nI 30 := rfl
theorem q_31 : (31 : Int32) = nI 31 := rfl
theorem q_32 : (32 : Int32) = nI 32 := rfl
theorem q_39 : (39 : Int32) = nI 39 := rfl
theorem q_40 : (40 : Int32) = nI 40 := rfl
theorem q_48 : (48 : Int32) = nI 48 := rfl
theorem q_55 : (55 : Int32) = nI 55 := rfl
theorem q_57 : (57 : Int32) = nI 57 := rfl
theorem q_60 : (60 : Int32) = nI 60 := rfl
theorem q_61 : (61 : Int32) = nI 61 := rfl
theorem q_97 : (97 : Int32) = nI 97 := rfl
theorem q_122 : (122 : Int32) = nI 122 := rfl
theorem q_126 : (126 : Int32) = nI 126 := rfl
theorem q_127 : (127 : Int32) = nI 127 := rfl
theorem q_128 : (128 : Int32) = nI 128 := rfl
theorem q_512 : (512 : Int32) = nI 512 := rfl
theorem q_1022 : (1022 : Int32) = nI 1022 := rfl
theorem q_1214 : (1214 : Int32) = nI 1214 := rfl
theorem q_1215 : (1215 : Int32) = nI 1215 := rfl
theorem q_2046 : (2046 : Int32) = nI 2046 := rfl
theorem q_2430 : (2430 : Int32) = nI 2430 := rfl
/-! ===== the reference: heaps that are made, names, rows ===== -/
theorem n_i64 {n : Nat} (h : n < 2 ^ 31) : Int32.toInt64 (nI n) = lN n := nI_l h
theorem l_lit (n : Nat) : (@OfNat.ofNat Int64 n _) = lN (@OfNat.ofNat Nat n _) := rfl
theorem n_div2 {n : Nat} (h : n < 2 ^ 31) : nI n / nI 2 = nI (n / 2) := pk_div h (by omega) (by omega)
theorem n_rem2 {n : Nat} (h : n < 2 ^ 31) : nI n - nI n / nI 2 * nI 2 = nI (n % 2) := pk_rem h (by omega) (by omega)
def md (S : hm_S) (l : List Nat) : Prop := S 0 11 = nI l.length ∧ ∀ i, i < l.length → S 6 i = nI (l.getD i 0)
/-- only the scratch of heaps has changed -/
def mw (S S' : hm_S) : Prop := (∀ a, a ≠ 0 → a ≠ 6 → S' a = S a) ∧ ∀ k, k ≠ 11 → S' 0 k = S 0 k
theorem mw.rf (S : hm_S) : mw S S := ⟨fun _ _ _ => rfl, fun _ _ => rfl⟩
theorem mw.tr {S S' S'' : hm_S} (h : mw S S') (h' : mw S' S'') : mw S S'' := ⟨fun a h0 h6 => (h'.1 a h0 h6).trans (h.1 a h0 h6), fun k hk => (h'.2 k hk).trans (h.2 k hk)⟩
theorem mw.up6 (S : hm_S) (i : Nat) (v : Int32) : mw S (hm_up S 6 i v) := ⟨fun a _ h6 => hm_up_row S _ _ h6, fun k _ => by rw [hm_up_row S _ _ (by decide)]⟩
theorem mw.up0 (S : hm_S) (v : Int32) : mw S (hm_up S 0 11 v) := ⟨fun a h0 _ => hm_up_row S _ _ h0, fun k hk => hm_up_col S v hk⟩
def cntM : List Nat → Nat
  | [] => 0
  | x :: l => x / 2 + cntM l
theorem cntM_app (a b : List Nat) : cntM (a ++ b) = cntM a + cntM b := by
  induction a with
  | nil => simp [cntM]
  | cons x l ih => simp only [List.cons_append, cntM, ih]; omega
theorem take_s {l : List Nat} {i : Nat} (h : i < l.length) : l.take (i + 1) = l.take i ++ [l.getD i 0] := by
  rw [List.take_add_one]
  congr 1
  rw [List.getElem?_eq_getElem h, List.getD_eq_getElem?_getD, List.getElem?_eq_getElem h]
  rfl
theorem cntM_take {l : List Nat} {i : Nat} (h : i < l.length) : cntM (l.take (i + 1)) = cntM (l.take i) + l.getD i 0 / 2 := by
  rw [take_s h, cntM_app]
  simp [cntM]
theorem cntM_map (l : List Nat) : cntM (l.map (· + 2)) = cntL l := by
  induction l with
  | nil => rfl
  | cons x l ih => simp only [List.map_cons, cntM, cntL, szk, ih]; omega
theorem getD_mem {l : List Nat} {i : Nat} (h : i < l.length) : l.getD i 0 ∈ l := by
  rw [List.getD_eq_getElem?_getD, List.getElem?_eq_getElem h]
  exact List.getElem_mem h
theorem z_counters {S : hm_S} {T : hm_T} {l : List Nat} (hm : md S l) (hl : l.length ≤ 11) (hx : ∀ x ∈ l, x < 100) {Q : Int32 → hm_S → hm_T → Prop} (h : Q (nI (cntM l)) S T) : wp_11_counters S T Q := by
  have key : ∀ n i, i + n = l.length → ∃ f, wl_11_counters_4 Q f (nI (cntM (l.take i))) (nI i) S T := by
    intro n
    induction n with
    | zero =>
      intro i hi
      refine ⟨1, ?_⟩
      show wb_11_counters_4 Q _ _ _ S T
      unfold wb_11_counters_4
      rw [hm.1, if_pos (nI_le (by omega) (by omega)), show i = l.length by omega, List.take_length]
      exact h
    | succ n ih =>
      intro i hi
      obtain ⟨f, hf⟩ := ih (i + 1) (by omega)
      refine ⟨f + 1, ?_⟩
      show wb_11_counters_4 Q _ _ _ S T
      unfold wb_11_counters_4
      have hil : i < l.length := by omega
      have hv := hx _ (getD_mem hil)
      rw [hm.1, if_neg (nI_ge hil (by omega)), nI_clamp (by omega), hm.2 i hil, q_2, n_div2 (by omega), nI_add, nI_1, ← cntM_take hil]
      exact ⟨vp_in_nI (by omega) (by omega), hf⟩
  exact key l.length 0 (by omega)
/-- the name of heaps, ten digits -/
def nmK (l : List Nat) : Nat → Nat
  | 0 => 0
  | k + 1 => 22 * nmK l k + l.getD k 0
def nmL (l : List Nat) : Nat := nmK l 10
theorem nmK_lt {l : List Nat} (hx : ∀ x ∈ l, x < 22) : ∀ k, nmK l k < 22 ^ k := by
  intro k
  induction k with
  | zero => simp [nmK]
  | succ k ih =>
    have hv : l.getD k 0 < 22 := by
      rcases Nat.lt_or_ge k l.length with q | q
      · exact hx _ (getD_mem q)
      · rw [List.getD_eq_getElem?_getD, List.getElem?_eq_none q]; decide
    have e : nmK l (k + 1) = 22 * nmK l k + l.getD k 0 := rfl
    rw [e, Nat.pow_succ]
    omega
theorem z_nameOf {S : hm_S} {T : hm_T} {l : List Nat} (hm : md S l) (hl : l.length ≤ 11) (hx : ∀ x ∈ l, x < 22) {Q : Int64 → hm_S → hm_T → Prop} (h : Q (lN (nmL l)) S T) : wp_11_nameOf S T Q := by
  have key : ∀ n i, i + n = 10 → ∃ f, wl_11_nameOf_4 Q f (lN (nmK l i)) (nI i) S T := by
    intro n
    induction n with
    | zero =>
      intro i hi
      refine ⟨1, ?_⟩
      show wb_11_nameOf_4 Q _ _ _ S T
      unfold wb_11_nameOf_4
      rw [q_10, if_pos (nI_le (by omega) (by omega)), show i = 10 by omega]
      exact h
    | succ n ih =>
      intro i hi
      obtain ⟨f, hf⟩ := ih (i + 1) (by omega)
      refine ⟨f + 1, ?_⟩
      show wb_11_nameOf_4 Q _ _ _ S T
      unfold wb_11_nameOf_4 wb_11_nameOf_33
      rw [q_10, if_neg (nI_ge (by omega) (by omega)), hm.1, l_lit 22, lN_mul]
      by_cases hil : i < l.length
      · have hv := hx _ (getD_mem hil)
        rw [if_neg (nI_ge hil (by omega)), nI_clamp (by omega), hm.2 i hil, n_i64 (by omega), lN_add, nI_1]
        exact ⟨vp_in_nI (by omega) (by omega), hf⟩
      · have e : l.getD i 0 = 0 := by rw [List.getD_eq_getElem?_getD, List.getElem?_eq_none (by omega)]; rfl
        have hf' : wl_11_nameOf_4 Q f (lN (22 * nmK l i + 0)) (nI (i + 1)) S T := by
          have : nmK l (i + 1) = 22 * nmK l i + 0 := by show 22 * nmK l i + l.getD i 0 = _; rw [e]
          rw [← this]; exact hf
        rw [if_pos (nI_le (by omega) (by omega)), q_0, n_i64 (by omega), lN_add, nI_1]
        exact hf'
  exact key 10 0 (by omega)
/-! ===== the reference's rows ===== -/
def mrow (r : Nat) : List Nat := (lay (xpv r)).map (· + 2)
def nmT (r : Nat) : Nat := nmL (mrow r)
theorem k_names : allB (fun r => decide (nmT r < nmT (r + 1))) 1214 = true := by decide +kernel
theorem k_small : allB (fun r => (lay r).all (fun k => decide (k < 20))) 1215 = true := by decide +kernel
theorem tq_small {l k : Nat} (h : l < 1215) (hk : k ∈ lay l) : k < 20 := by
  have := allB_spec k_small l h
  exact of_decide_eq_true (List.all_eq_true.mp this k hk)
theorem mrow_small {r x : Nat} (h : r < 1215) (hx : x ∈ mrow r) : x < 22 := by
  obtain ⟨k, hk, rfl⟩ := List.mem_map.mp hx
  have := tq_small (tq_pi h).2.2.1 hk
  omega
theorem mrow_len {r : Nat} : (mrow r).length = len (xpv r) := by unfold mrow len; rw [List.length_map]
theorem nmT_mono : ∀ {j i : Nat}, i < j → j < 1215 → nmT i < nmT j := by
  intro j
  induction j with
  | zero => intro i h; exact absurd h (Nat.not_lt_zero i)
  | succ j ih =>
    intro i h hj
    have h1 := of_decide_eq_true (allB_spec k_names j (by omega))
    rcases Nat.lt_or_ge i j with q | q
    · exact Nat.lt_trans (ih q (by omega)) h1
    · rw [show i = j by omega]; exact h1
theorem nmT_lt {r : Nat} (h : r < 1215) : nmT r < 2 ^ 62 := Nat.lt_trans (nmK_lt (fun x hx => mrow_small h hx) 10) (by decide)
def tabM (S : hm_S) (T : hm_T) : Prop := (∀ r, r < 1215 → S 1 r = nI (len (xpv r))) ∧ (∀ r k, r < 1215 → k < len (xpv r) → S 2 (10 * r + k) = nI ((mrow r).getD k 0)) ∧ ∀ r, r < 1215 → T 3 r = lN (nmT r)
theorem z_rowOf {S : hm_S} {T : hm_T} (hT : ∀ r, r < 1215 → T 3 r = lN (nmT r)) {r0 : Nat} (h0 : r0 < 1215) {Q : Int32 → hm_S → hm_T → Prop} (h : Q (nI r0) S T) : wp_11_rowOf (lN (nmT r0)) S T Q := by
  have hn0 := nmT_lt h0
  have key : ∀ n lo hi, hi - lo ≤ n → lo ≤ r0 → r0 ≤ hi → hi < 1215 → ∃ f, wl_11_rowOf_7 Q f (lN (nmT r0)) (nI lo) (nI hi) S T := by
    intro n
    induction n with
    | zero =>
      intro lo hi hn h1 h2 h3
      refine ⟨1, ?_⟩
      show wb_11_rowOf_7 Q _ _ _ _ S T
      unfold wb_11_rowOf_7
      rw [if_pos (nI_le (by omega) (by omega)), show lo = r0 by omega]
      exact h
    | succ n ih =>
      intro lo hi hn h1 h2 h3
      rcases Nat.lt_or_ge lo hi with hlt | hge
      · have hm : (lo + hi) / 2 < 1215 := by omega
        have hnm := nmT_lt hm
        rcases Nat.lt_or_ge ((lo + hi) / 2) r0 with hq | hq
        · obtain ⟨f, hf⟩ := ih ((lo + hi) / 2 + 1) hi (by omega) (by omega) (by omega) (by omega)
          refine ⟨f + 1, ?_⟩
          show wb_11_rowOf_7 Q _ _ _ _ S T
          unfold wb_11_rowOf_7 wb_11_rowOf_41 wb_11_rowOf_61
          have hc : ¬ 0 ≤ lg_cmp (lN (nmT ((lo + hi) / 2))) (lN (nmT r0)) := by
            rw [lg_cmp_ge, pk_lLE (by omega) (by omega)]
            have := nmT_mono hq h0
            omega
          rw [if_neg (nI_ge hlt (by omega)), nI_add, q_2, n_div2 (by omega), nI_clamp (by omega), hT _ hm, if_neg hc, if_neg hc, nI_1]
          exact ⟨vp_in_nI (by omega) (by omega), vp_in_nI (by omega) (by omega), hf⟩
        · obtain ⟨f, hf⟩ := ih lo ((lo + hi) / 2) (by omega) h1 hq (by omega)
          refine ⟨f + 1, ?_⟩
          show wb_11_rowOf_7 Q _ _ _ _ S T
          unfold wb_11_rowOf_7 wb_11_rowOf_41 wb_11_rowOf_61
          have hc : 0 ≤ lg_cmp (lN (nmT ((lo + hi) / 2))) (lN (nmT r0)) := by
            rw [lg_cmp_ge, pk_lLE (by omega) (by omega)]
            rcases Nat.lt_or_ge r0 ((lo + hi) / 2) with q | q
            · exact Nat.le_of_lt (nmT_mono q hm)
            · rw [show r0 = (lo + hi) / 2 by omega]; exact Nat.le_refl _
          rw [if_neg (nI_ge hlt (by omega)), nI_add, q_2, n_div2 (by omega), nI_clamp (by omega), hT _ hm, if_pos hc, if_pos hc]
          exact ⟨vp_in_nI (by omega) (by omega), vp_in_nI (by omega) (by omega), hf⟩
      · refine ⟨1, ?_⟩
        show wb_11_rowOf_7 Q _ _ _ _ S T
        unfold wb_11_rowOf_7
        rw [if_pos (nI_le hge (by omega)), show lo = r0 by omega]
        exact h
  exact key 1214 0 1214 (by omega) (by omega) (by omega) (by omega)
