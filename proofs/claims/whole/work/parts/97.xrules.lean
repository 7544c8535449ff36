/-! ===== a text read as rules: what it says, and the class ===== -/
def wdF (tx : List Nat) : Nat → Nat → Nat
  | 0, p => p
  | f + 1, p => if 97 ≤ ca tx p ∧ ca tx p ≤ 122 then wdF tx f (p + 1) else p
def wd (tx : List Nat) (p : Nat) : Nat := wdF tx (tx.length - p) p
theorem wd_y {tx : List Nat} {p : Nat} (h : 97 ≤ ca tx p ∧ ca tx p ≤ 122) : wd tx p = wd tx (p + 1) := by
  have hp := ca_lt (tx := tx) (i := p) (by omega)
  unfold wd
  rw [show tx.length - p = (tx.length - (p + 1)) + 1 by omega]
  simp only [wdF, if_pos h]
theorem wd_n {tx : List Nat} {p : Nat} (h : ¬ (97 ≤ ca tx p ∧ ca tx p ≤ 122)) : wd tx p = p := by
  unfold wd
  cases tx.length - p with
  | zero => rfl
  | succ f => simp only [wdF, if_neg h]
theorem wd_le {tx : List Nat} : ∀ f p, p + f = tx.length → p ≤ wd tx p ∧ wd tx p ≤ tx.length := by
  intro f
  induction f with
  | zero => intro p hp; rw [wd_n (by rw [ca_out (by omega)]; omega)]; omega
  | succ f ih =>
    intro p hp
    by_cases h : 97 ≤ ca tx p ∧ ca tx p ≤ 122
    · rw [wd_y h]
      have := ih (p + 1) (by omega)
      omega
    · rw [wd_n h]; omega
theorem wd_b {tx : List Nat} {p : Nat} (h : p ≤ tx.length) : p ≤ wd tx p ∧ wd tx p ≤ tx.length := wd_le (tx.length - p) p (by omega)
/-- the letters from p up to e -/
def slc (tx : List Nat) (p e : Nat) : List Nat := (tx.drop p).take (e - p)
theorem slc_len {tx : List Nat} {p e : Nat} (hp : p ≤ e) (he : e ≤ tx.length) : (slc tx p e).length = e - p := by
  unfold slc
  rw [List.length_take, List.length_drop]
  omega
theorem slc_at {tx : List Nat} (hx : ∀ c ∈ tx, c < 128) {p e k : Nat} (hk : p + k < e) (he : e ≤ tx.length) : (slc tx p e)[k]? = some (ca tx (p + k)) := by
  unfold slc
  rw [List.getElem?_take_of_lt (by omega), List.getElem?_drop]
  exact (ca_in hx (by omega)).2
def nmW (j : Nat) : List Nat := if j = 0 then [110, 105, 109] else if j = 2 then [107, 97, 121, 108, 101, 115] else if j = 4 then [100, 97, 119, 115, 111, 110] else [103, 117, 105, 108, 101, 115]
def dgJ (j : Nat) : List Nat := if j = 1 then [3, 3, 3, 3, 3, 3, 3, 3, 3, 3] else if j = 3 then [7, 7] else if j = 5 then [1, 3, 7] else if j = 7 then [1, 5] else []
def nmJ (w : List Nat) : Nat := if w = nmW 0 then 1 else if w = nmW 2 then 3 else if w = nmW 4 then 5 else if w = nmW 6 then 7 else 8
theorem nmW_len {j : Nat} (h : j = 0 ∨ j = 2 ∨ j = 4 ∨ j = 6) : lenJ j = (nmW j).length := by rcases h with e | e | e | e <;> subst e <;> rfl
theorem nmW_ch {j : Nat} (h : j = 0 ∨ j = 2 ∨ j = 4 ∨ j = 6) : ∀ i, i < lenJ j → chJ j i = nI ((nmW j).getD i 0) ∧ (nmW j).getD i 0 < 128 := by rcases h with e | e | e | e <;> subst e <;> decide
theorem dgJ_len {j : Nat} (h : j = 1 ∨ j = 3 ∨ j = 5 ∨ j = 7 ∨ j = 8) : lenJ j = (dgJ j).length := by rcases h with e | e | e | e | e <;> subst e <;> rfl
theorem dgJ_ch {j : Nat} (h : j = 1 ∨ j = 3 ∨ j = 5 ∨ j = 7 ∨ j = 8) : ∀ i, i < lenJ j → chJ j i - 48 = nI ((dgJ j).getD i 0) := by rcases h with e | e | e | e | e <;> subst e <;> decide
theorem dgJ_lt {j : Nat} : ∀ d ∈ dgJ j, d < 8 := by
  unfold dgJ
  by_cases h1 : j = 1
  · rw [if_pos h1]; decide
  · rw [if_neg h1]
    by_cases h2 : j = 3
    · rw [if_pos h2]; decide
    · rw [if_neg h2]
      by_cases h3 : j = 5
      · rw [if_pos h3]; decide
      · rw [if_neg h3]
        by_cases h4 : j = 7
        · rw [if_pos h4]; decide
        · rw [if_neg h4]; decide
theorem nmJ_c (w : List Nat) : nmJ w = 1 ∨ nmJ w = 3 ∨ nmJ w = 5 ∨ nmJ w = 7 ∨ nmJ w = 8 := by
  unfold nmJ
  by_cases h1 : w = nmW 0
  · rw [if_pos h1]; omega
  · rw [if_neg h1]
    by_cases h2 : w = nmW 2
    · rw [if_pos h2]; omega
    · rw [if_neg h2]
      by_cases h3 : w = nmW 4
      · rw [if_pos h3]; omega
      · rw [if_neg h3]
        by_cases h4 : w = nmW 6
        · rw [if_pos h4]; omega
        · rw [if_neg h4]; omega
/-- the digits as they are written -/
def dgF (l : List Nat) (k : Nat) : Nat := if k = 0 then 0 else l.getD (k - 1) 0
theorem dgF_app (l : List Nat) (d k : Nat) : dgF (l ++ [d]) k = if k = l.length + 1 then d else dgF l k := by
  unfold dgF
  by_cases h0 : k = 0
  · rw [if_pos h0, if_neg (by omega), if_pos h0]
  · rw [if_neg h0, if_neg h0]
    by_cases h1 : k = l.length + 1
    · rw [if_pos h1, h1, List.getD_eq_getElem?_getD, show l.length + 1 - 1 = l.length by omega, List.getElem?_append_right (by omega), Nat.sub_self]
      rfl
    · rw [if_neg h1, List.getD_eq_getElem?_getD, List.getD_eq_getElem?_getD]
      rcases Nat.lt_or_ge (k - 1) l.length with w | w
      · rw [List.getElem?_append_left w]
      · rw [List.getElem?_eq_none (by rw [List.length_append, List.length_singleton]; omega), List.getElem?_eq_none w]
theorem dgF_lt {l : List Nat} (h : ∀ d ∈ l, d < 8) (k : Nat) : dgF l k < 8 := by
  unfold dgF
  by_cases h0 : k = 0
  · rw [if_pos h0]; omega
  · rw [if_neg h0]
    rcases Nat.lt_or_ge (k - 1) l.length with w | w
    · exact h _ (getD_mem w)
    · rw [List.getD_eq_getElem?_getD, List.getElem?_eq_none w]; decide
def ocF (tx : List Nat) : Nat → Nat → List Nat
  | 0, _ => []
  | f + 1, p => if 48 ≤ ca tx p ∧ ca tx p ≤ 55 then (ca tx p - 48) :: ocF tx f (p + 1) else []
theorem ocF_lt {tx : List Nat} : ∀ f p, ∀ d ∈ ocF tx f p, d < 8 := by
  intro f
  induction f with
  | zero => intro p d hd; exact absurd hd (by simp [ocF])
  | succ f ih =>
    intro p d hd
    simp only [ocF] at hd
    by_cases h : 48 ≤ ca tx p ∧ ca tx p ≤ 55
    · rw [if_pos h] at hd
      rcases List.mem_cons.mp hd with e | e
      · omega
      · exact ih (p + 1) d e
    · rw [if_neg h] at hd; exact absurd hd (by simp)
/-- the fault, -1 for none, and the digits -/
def rdR (tx : List Nat) : Int32 × List Nat :=
  if 97 ≤ ca tx (sk tx 0) ∧ ca tx (sk tx 0) ≤ 122 then
    (if nmJ (slc tx (sk tx 0) (wd tx (sk tx 0))) = 8 then (nI (sk tx 0), []) else (rst tx (wd tx (sk tx 0)), dgJ (nmJ (slc tx (sk tx 0) (wd tx (sk tx 0))))))
  else if ca tx (sk tx 0) = 46 then
    (if ocF tx 10 (sk tx 0 + 1) = [] then (nI (sk tx 0 + 1), []) else (rst tx (sk tx 0 + 1 + (ocF tx 10 (sk tx 0 + 1)).length), ocF tx 10 (sk tx 0 + 1)))
  else (nI (sk tx 0), [])
theorem rdR_lt (tx : List Nat) : ∀ d ∈ (rdR tx).2, d < 8 := by
  unfold rdR
  by_cases h1 : 97 ≤ ca tx (sk tx 0) ∧ ca tx (sk tx 0) ≤ 122
  · rw [if_pos h1]
    by_cases h2 : nmJ (slc tx (sk tx 0) (wd tx (sk tx 0))) = 8
    · rw [if_pos h2]; exact fun d hd => absurd hd (by simp)
    · rw [if_neg h2]; exact dgJ_lt
  · rw [if_neg h1]
    by_cases h2 : ca tx (sk tx 0) = 46
    · rw [if_pos h2]
      by_cases h3 : ocF tx 10 (sk tx 0 + 1) = []
      · rw [if_pos h3]; exact fun d hd => absurd hd (by simp)
      · rw [if_neg h3]; exact ocF_lt 10 _
    · rw [if_neg h2]; exact fun d hd => absurd hd (by simp)
def DX (l : List Nat) (S : hm_S) : Prop := ∀ k, 1 ≤ k → k ≤ 10 → S 69 k = nI (dgF l k)
theorem DX.app {l : List Nat} {S : hm_S} (h : DX l S) (d : Nat) : DX (l ++ [d]) (hm_up S 69 (l.length + 1) (nI d)) := by
  intro k h1 h2
  rw [dgF_app]
  by_cases e : k = l.length + 1
  · rw [if_pos e, e, hm_up_same]
  · rw [if_neg e, hm_up_col _ _ e]; exact h k h1 h2
theorem CX.fr {c tx : List Nat} {p : Nat} {S S' : hm_S} (h : CX tx p S) (hf : fr c S S') (hc : ∀ a ∈ [64, 66], a ∉ c) : CX tx p S' := ⟨h.1.fr hf hc, by rw [hf 64 (hc 64 (by decide))]; exact h.2.1, h.2.2⟩
theorem DX.fr {c l : List Nat} {S S' : hm_S} (h : DX l S) (hf : fr c S S') (hc : 69 ∉ c) : DX l S' := by
  unfold DX
  rw [hf 69 hc]
  exact h
section RR
variable {T : hm_T}
theorem x_spells {tx : List Nat} (hx : ∀ c ∈ tx, c < 128) {p e : Nat} (hpe : p ≤ e) {S : hm_S} (hc : CX tx e S) {j : Nat} (hj : j = 0 ∨ j = 2 ∨ j = 4 ∨ j = 6) {Q : Int32 → hm_S → hm_T → Prop} (h : Q (if slc tx p e = nmW j then 1 else 0) S T) : wp_9_spells (nI p) j S T Q := by
  have hl := hc.1.2.1
  have he := hc.2.2
  have hlj := nmW_len hj
  have hsm := lenJ_small (show j < 9 by omega)
  have hlen := slc_len hpe he
  unfold wp_9_spells
  rw [hc.2.1, pk_sub hpe]
  refine ⟨by omega, ?_⟩
  by_cases hq : e - p = lenJ j
  · rw [if_pos (by rw [hq]), q_0]
    have key : ∀ c i, i + c = lenJ j → (∀ k, k < i → ca tx (p + k) = (nmW j).getD k 0) → wl_9_spells_17 Q (c + 1) (nI p) j (nI i) S T := by
      intro c
      induction c with
      | zero =>
        intro i hi hk
        show wb_9_spells_17 Q _ _ _ _ S T
        unfold wb_9_spells_17
        refine ⟨by omega, ?_⟩
        rw [if_pos (nI_le (by omega) (by omega))]
        have ew : slc tx p e = nmW j := by
          apply List.ext_getElem?
          intro k
          rcases Nat.lt_or_ge k (lenJ j) with w | w
          · rw [slc_at hx (by omega) he, hk k (by omega), List.getD_eq_getElem?_getD, List.getElem?_eq_getElem (by omega)]
            rfl
          · rw [List.getElem?_eq_none (by omega), List.getElem?_eq_none (by omega)]
        rw [if_pos ew] at h
        exact h
      | succ c ih =>
        intro i hi hk
        obtain ⟨c1, c2⟩ := nmW_ch hj i (by omega)
        show wb_9_spells_17 Q _ _ _ _ S T
        unfold wb_9_spells_17
        refine ⟨by omega, ?_⟩
        rw [if_neg (nI_ge (by omega) (by omega)), nI_add, x_letterAt hx hc.1 (by omega), nI_clamp (by omega), c1, nI_1]
        refine ⟨by omega, vp_in_nI (by omega) (by omega), ?_⟩
        by_cases w : ca tx (p + i) = (nmW j).getD i 0
        · rw [if_pos ((cI_eq (ca_le hx _) c2).mpr w)]
          refine ih (i + 1) (by omega) (fun k hk' => ?_)
          rcases Nat.lt_or_ge k i with r | r
          · exact hk k r
          · rw [show k = i by omega]; exact w
        · rw [if_neg (fun r => w ((cI_eq (ca_le hx _) c2).mp r))]
          have ew : slc tx p e ≠ nmW j := by
            intro r
            have h1 := slc_at hx (p := p) (e := e) (k := i) (by omega) he
            rw [r] at h1
            apply w
            rw [List.getD_eq_getElem?_getD, h1]
            rfl
          rw [if_neg ew] at h
          exact h
    exact ⟨_, key (lenJ j) 0 (by omega) (fun k hk => absurd hk (Nat.not_lt_zero k))⟩
  · rw [if_neg (by rw [nI_eq (by omega) (by omega)]; exact hq)]
    rw [if_neg (fun r => hq (by rw [← hlen, r, hlj]))] at h
    exact h
theorem x_digitsOfName {tx : List Nat} (hx : ∀ c ∈ tx, c < 128) {p e : Nat} (hpe : p ≤ e) {S : hm_S} (hc : CX tx e S) {Q : Nat → hm_S → hm_T → Prop} (h : Q (nmJ (slc tx p e)) S T) : wp_7_digitsOfName (nI p) S T Q := by
  unfold wp_7_digitsOfName
  unfold nmJ at h
  refine x_spells hx hpe hc (by omega) ?_
  by_cases h0 : slc tx p e = nmW 0
  · rw [if_pos h0] at h ⊢
    rw [if_neg (by decide)]; exact h
  · rw [if_neg h0] at h ⊢
    rw [if_pos rfl]
    refine x_spells hx hpe hc (by omega) ?_
    by_cases h2 : slc tx p e = nmW 2
    · rw [if_pos h2] at h ⊢
      rw [if_neg (by decide)]; exact h
    · rw [if_neg h2] at h ⊢
      rw [if_pos rfl]
      refine x_spells hx hpe hc (by omega) ?_
      by_cases h4 : slc tx p e = nmW 4
      · rw [if_pos h4] at h ⊢
        rw [if_neg (by decide)]; exact h
      · rw [if_neg h4] at h ⊢
        rw [if_pos rfl]
        refine x_spells hx hpe hc (by omega) ?_
        by_cases h6 : slc tx p e = nmW 6
        · rw [if_pos h6] at h ⊢
          rw [if_neg (by decide)]; exact h
        · rw [if_neg h6] at h ⊢
          rw [if_pos rfl]; exact h
theorem x_nameDigits {j : Nat} (hj : j = 1 ∨ j = 3 ∨ j = 5 ∨ j = 7 ∨ j = 8) {x : Int32} {S0 : hm_S} {Q : Int32 → hm_S → hm_T → Prop} (h : ∀ S, fr [69] S0 S → DX (dgJ j) S → Q (if j = 8 then x else -1) S T) : ∀ c i S, i + c = lenJ j → fr [69] S0 S → DX ((dgJ j).take i) S → wl_7_readName_45 Q (c + 1) x j (nI i) S T := by
  have hlj := dgJ_len hj
  have hsm : lenJ j ≤ 10 := by rcases hj with e | e | e | e | e <;> subst e <;> decide
  intro c
  induction c with
  | zero =>
    intro i S hi hf hd
    show wb_7_readName_45 Q _ _ _ _ S T
    unfold wb_7_readName_45 wb_7_readName_80
    refine ⟨by omega, ?_⟩
    rw [if_pos (nI_le (by omega) (by omega))]
    refine ⟨by omega, ?_⟩
    rw [List.take_of_length_le (by omega)] at hd
    have r := h S hf hd
    rcases hj with e | e | e | e | e
    · subst e; rw [if_pos (by decide)]; exact r
    · subst e; rw [if_pos (by decide)]; exact r
    · subst e; rw [if_pos (by decide)]; exact r
    · subst e; rw [if_pos (by decide)]; exact r
    · subst e; rw [if_neg (by decide)]; exact r
  | succ c ih =>
    intro i S hi hf hd
    show wb_7_readName_45 Q _ _ _ _ S T
    unfold wb_7_readName_45
    refine ⟨by omega, ?_⟩
    rw [if_neg (nI_ge (by omega) (by omega)), nI_clamp (show i < 2 ^ 31 by omega), dgJ_ch hj i (by omega), nI_1]
    refine ⟨by omega, vp_in_nI (by omega) (by omega), ?_⟩
    rw [e_set (by omega) (by omega)]
    simp only [Nat.reduceAdd]
    refine ih (i + 1) _ (by omega) (hf.tr (fr.up _ _ _ (by decide))) ?_
    have ht : ((dgJ j).take i).length = i := by rw [List.length_take]; omega
    have := hd.app ((dgJ j).getD i 0)
    rw [ht] at this
    rw [take_s (by omega)]
    exact this
theorem x_readName {tx : List Nat} (hx : ∀ c ∈ tx, c < 128) {p : Nat} {S : hm_S} (hc : CX tx p S) (hd : DX [] S) {Q : Int32 → hm_S → hm_T → Prop} (h : ∀ S', fr [64, 69] S S' → CX tx (wd tx p) S' → DX (dgJ (nmJ (slc tx p (wd tx p)))) S' → Q (if nmJ (slc tx p (wd tx p)) = 8 then nI p else -1) S' T) : wp_7_readName S T Q := by
  have hp := hc.2.2
  have hl := hc.1.2.1
  have fin : ∀ S1, ft S S1 → CX tx (wd tx p) S1 → wb_7_readName_36 Q (nI p) S1 T := by
    intro S1 f1 c1
    unfold wb_7_readName_36
    refine x_digitsOfName hx (wd_b hp).1 c1 ?_
    rw [q_0]
    refine ⟨_, x_nameDigits (nmJ_c _) (fun S2 f2 d2 => ?_) (lenJ (nmJ (slc tx p (wd tx p)))) 0 S1 (by omega) (fr.rf _ S1) (by rw [List.take_zero]; exact hd.fr f1.1 (by decide))⟩
    exact h S2 ((f1.1.mono (by decide)).tr (f2.mono (by decide))) (c1.fr f2 (by decide)) d2
  have key : ∀ f r S1, r + f = tx.length → wd tx r = wd tx p → ft S S1 → CX tx r S1 → wl_7_readName_5 Q (f + 1) (nI p) S1 T := by
    intro f
    induction f with
    | zero =>
      intro r S1 hr hw f1 c1
      show wb_7_readName_5 Q _ _ S1 T
      unfold wb_7_readName_5
      rw [c1.1.1, c1.2.1, if_pos (nI_le (by omega) (by omega))]
      rw [wd_n (by rw [ca_out (by omega)]; omega)] at hw
      rw [hw] at c1
      exact fin S1 f1 c1
    | succ f ih =>
      intro r S1 hr hw f1 c1
      show wb_7_readName_5 Q _ _ S1 T
      unfold wb_7_readName_5
      rw [c1.1.1, c1.2.1, if_neg (nI_ge (by omega) (by omega)), x_small hx c1]
      by_cases e : 97 ≤ ca tx r ∧ ca tx r ≤ 122
      · rw [if_pos e, if_neg (by decide), c1.2.1, nI_1]
        rw [wd_y e] at hw
        exact ih (r + 1) _ (by omega) hw (f1.tr (ft.up S1 _)) (CX.up c1.1 (by omega))
      · rw [if_neg e, if_pos rfl]
        rw [wd_n e] at hw
        rw [hw] at c1
        exact fin S1 f1 c1
  unfold wp_7_readName
  rw [hc.2.1]
  exact ⟨_, key (tx.length - p) p S (by omega) rfl (ft.rf S) hc⟩
theorem x_readOctals {tx : List Nat} (hx : ∀ c ∈ tx, c < 128) {p : Nat} {S : hm_S} (hc : CX tx p S) (hd : DX [] S) {Q : Int32 → hm_S → hm_T → Prop} (hno : ca tx p ≠ 46 → Q (nI p) S T) (h : ca tx p = 46 → ∀ S', fr [64, 69] S S' → CX tx (p + 1 + (ocF tx 10 (p + 1)).length) S' → DX (ocF tx 10 (p + 1)) S' → Q (if ocF tx 10 (p + 1) = [] then nI (p + 1) else -1) S' T) : wp_7_readOctals S T Q := by
  have hp := hc.2.2
  have hl := hc.1.2.1
  unfold wp_7_readOctals
  rw [x_next hx hc]
  by_cases e : ca tx p = 46
  · have hpl := ca_lt (tx := tx) (i := p) (by omega)
    rw [if_pos (show cI (ca tx p) = 46 from (cI_eq (c := 46) (ca_le hx p) (by omega)).mpr e), hc.2.1, nI_1, hm_up_same, q_1]
    have fin : ∀ l S1, l = ocF tx 10 (p + 1) → fr [64, 69] S S1 → CX tx (p + 1 + l.length) S1 → DX l S1 → wb_7_readOctals_85 Q (nI (p + 1)) S1 T := by
      intro l S1 hl' f1 c1 d1
      rw [hl'] at c1 d1
      have r := h e S1 f1 c1 d1
      have hb := c1.2.2
      unfold wb_7_readOctals_85
      rw [c1.2.1]
      by_cases w : ocF tx 10 (p + 1) = []
      · rw [if_pos w] at r
        rw [if_pos (by rw [w]; rfl)]; exact r
      · rw [if_neg w] at r
        have : (ocF tx 10 (p + 1)).length ≠ 0 := fun q => w (List.length_eq_zero_iff.mp q)
        rw [if_neg (by rw [nI_eq (by omega) (by omega)]; omega)]; exact r
    have key : ∀ c l S1, l.length + c = 10 → l ++ ocF tx c (p + 1 + l.length) = ocF tx 10 (p + 1) → fr [64, 69] S S1 → CX tx (p + 1 + l.length) S1 → DX l S1 → wl_7_readOctals_31 Q (c + 1) (nI (p + 1)) (nI (l.length + 1)) S1 T := by
      intro c
      induction c with
      | zero =>
        intro l S1 hc1 he f1 c1 d1
        show wb_7_readOctals_31 Q _ _ _ S1 T
        unfold wb_7_readOctals_31
        rw [q_10, if_pos (nI_lt (by omega) (by omega))]
        simp only [ocF, List.append_nil] at he
        exact fin l S1 he f1 c1 d1
      | succ c ih =>
        intro l S1 hc1 he f1 c1 d1
        show wb_7_readOctals_31 Q _ _ _ S1 T
        unfold wb_7_readOctals_31 wb_7_readOctals_56
        rw [q_10, if_neg (nI_nlt (by omega) (by omega)), x_nextDigit hx c1]
        have ho : ocF tx (c + 1) (p + 1 + l.length) = if 48 ≤ ca tx (p + 1 + l.length) ∧ ca tx (p + 1 + l.length) ≤ 55 then (ca tx (p + 1 + l.length) - 48) :: ocF tx c (p + 1 + l.length + 1) else [] := rfl
        rw [ho] at he
        unfold dgA
        by_cases w : 48 ≤ ca tx (p + 1 + l.length) ∧ ca tx (p + 1 + l.length) ≤ 55
        · have hlt := ca_lt (tx := tx) (i := p + 1 + l.length) (by omega)
          rw [if_pos w] at he
          rw [if_pos (show 48 ≤ ca tx (p + 1 + l.length) ∧ ca tx (p + 1 + l.length) ≤ 57 by omega), if_neg (nI_ne1 (by omega)), q_7, if_pos (nI_le (by omega) (by omega)), e_set (by omega) (by omega)]
          simp only [Nat.reduceAdd]
          rw [hm_up_row _ _ _ (by decide), c1.2.1, nI_1, nI_1]
          have d2 := d1.app (ca tx (p + 1 + l.length) - 48)
          have f2 : fr [69] S1 (hm_up S1 69 (l.length + 1) (nI (ca tx (p + 1 + l.length) - 48))) := fr.up _ _ _ (by decide)
          have el : (l ++ [ca tx (p + 1 + l.length) - 48]).length = l.length + 1 := by simp
          have t2 : TX tx (hm_up S1 69 (l.length + 1) (nI (ca tx (p + 1 + l.length) - 48))) := c1.1.fr f2 (by decide)
          have nx := ih (l ++ [ca tx (p + 1 + l.length) - 48]) (hm_up (hm_up S1 69 (l.length + 1) (nI (ca tx (p + 1 + l.length) - 48))) 64 2 (nI (p + 1 + l.length + 1))) (by rw [el]; omega) (by rw [el, List.append_assoc]; exact he) ((f1.tr (f2.mono (by decide))).tr (fr.up _ _ _ (by decide))) (by rw [el]; exact CX.up t2 (by omega)) (d2.fr (fr.up (c := [64]) _ _ _ (by decide)) (by decide))
          rw [el] at nx
          exact nx
        · rw [if_neg w, List.append_nil] at he
          have r := fin l S1 he f1 c1 d1
          by_cases w2 : 48 ≤ ca tx (p + 1 + l.length) ∧ ca tx (p + 1 + l.length) ≤ 57
          · rw [if_pos w2, if_neg (nI_ne1 (by omega)), q_7, if_neg (nI_ge (by omega) (by omega))]; exact r
          · rw [if_neg w2, if_pos rfl]; exact r
    exact ⟨_, key 10 [] (hm_up S 64 2 (nI (p + 1))) rfl rfl (fr.up _ _ _ (by decide)) (CX.up hc.1 hpl) (hd.fr (fr.up (c := [64]) _ _ _ (by decide)) (by decide))⟩
  · rw [if_neg (show ¬ cI (ca tx p) = 46 from fun q => e ((cI_eq (c := 46) (ca_le hx p) (by omega)).mp q)), hc.2.1]
    exact hno e
theorem x_rdR {tx : List Nat} (hx : ∀ c ∈ tx, c < 128) {S : hm_S} (ht : TX tx S) {Q : Int32 → hm_S → hm_T → Prop} (h : ∀ S', fr [64, 69] S S' → TX tx S' → ((rdR tx).1 = -1 → DX (rdR tx).2 S') → Q (rdR tx).1 S' T) : wp_7_faultOf S T Q := by
  unfold wp_7_faultOf
  refine z_clear (by omega) ?_
  simp only [Nat.reduceAdd]
  have f0 : fr [69] S (hm_fill S 69 11 0) := fr.fill _ _ _ (by decide)
  have hl := ht.2.1
  refine x_startReading hx (ht.fr f0 (by decide)) (fun S1 f1 c1 => ?_)
  have d1 : DX [] S1 := by
    intro k h1 h2
    rw [f1.1 69 (by decide)]
    simp only [hm_fill, if_true, if_pos (show k < 11 by omega)]
    unfold dgF
    rw [if_neg (by omega)]
    rfl
  have fA : fr [64, 69] S S1 := (f0.mono (by decide)).tr (f1.1.mono (by decide))
  have hs0 := (sk_b (tx := tx) (p := 0) (by omega)).2
  rw [x_small hx c1]
  unfold rdR at h
  by_cases e1 : 97 ≤ ca tx (sk tx 0) ∧ ca tx (sk tx 0) ≤ 122
  · rw [if_pos e1] at h ⊢
    rw [if_neg (by decide)]
    refine x_readName hx c1 d1 (fun S2 f2 c2 d2 => ?_)
    unfold wb_7_faultOf_31
    by_cases e2 : nmJ (slc tx (sk tx 0) (wd tx (sk tx 0))) = 8
    · rw [if_pos e2] at h ⊢
      rw [if_neg (nI_ne1 (by omega))]
      exact h S2 (fA.tr f2) c2.1 (fun q => absurd q (nI_ne1 (by omega)))
    · rw [if_neg e2] at h ⊢
      rw [if_pos rfl]
      exact x_faultOfRest hx c2 (fun S3 f3 c3 => h S3 ((fA.tr f2).tr (f3.1.mono (by decide))) c3.1 (fun _ => d2.fr f3.1 (by decide)))
  · rw [if_neg e1] at h ⊢
    rw [if_pos rfl]
    refine x_readOctals hx c1 d1 (fun e2 => ?_) (fun e2 S2 f2 c2 d2 => ?_)
    · rw [if_neg e2] at h
      unfold wb_7_faultOf_31
      rw [if_neg (nI_ne1 (by omega))]
      exact h S1 fA c1.1 (fun q => absurd q (nI_ne1 (by omega)))
    · rw [if_pos e2] at h
      unfold wb_7_faultOf_31
      have hb := c2.2.2
      by_cases e3 : ocF tx 10 (sk tx 0 + 1) = []
      · rw [if_pos e3] at h ⊢
        rw [if_neg (nI_ne1 (by omega))]
        exact h S2 (fA.tr f2) c2.1 (fun q => absurd q (nI_ne1 (by omega)))
      · rw [if_neg e3] at h ⊢
        rw [if_pos rfl]
        exact x_faultOfRest hx c2 (fun S3 f3 c3 => h S3 ((fA.tr f2).tr (f3.1.mono (by decide))) c3.1 (fun _ => d2.fr f3.1 (by decide)))
end RR
