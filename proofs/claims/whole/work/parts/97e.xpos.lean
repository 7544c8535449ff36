/-! ===== a text read as a position: what it says, and the class ===== -/
theorem q_33 : (33 : Int32) = nI 33 := rfl
theorem q_43 : (43 : Int32) = nI 43 := rfl
theorem q_112 : (112 : Int32) = nI 112 := rfl
abbrev isD (n : Nat) : Prop := 48 ≤ n ∧ n ≤ 57
def hdE (tx : List Nat) (p : Nat) : Nat := if isD (ca tx (p + 1)) then p + 2 else p + 1
def hdV (tx : List Nat) (p : Nat) : Nat := if isD (ca tx (p + 1)) then 10 * (ca tx p - 48) + (ca tx (p + 1) - 48) else ca tx p - 48
abbrev hOK (tx : List Nat) (p l : Nat) : Prop := isD (ca tx p) ∧ 1 ≤ hdV tx p ∧ hdV tx p ≤ 10 - cnt l
def hdB (tx : List Nat) (p : Nat) : Nat := if ca tx (sk tx (hdE tx p)) = 33 then 1 else 0
def hdN (tx : List Nat) (p : Nat) : Nat := if ca tx (sk tx (hdE tx p)) = 33 then sk tx (sk tx (hdE tx p) + 1) else sk tx (hdE tx p)
def hdL (tx : List Nat) (p l : Nat) : Nat := jt l (2 * (hdV tx p - 1) + hdB tx p)
def hpF (tx : List Nat) : Nat → Nat → Nat → Int32 × Nat × Nat
  | 0, p, l => (nI p, p, l)
  | f + 1, p, l => if hOK tx p l then (if ca tx (hdN tx p) = 43 then hpF tx f (sk tx (hdN tx p + 1)) (hdL tx p l) else (-1, hdN tx p, hdL tx p l)) else (nI p, p, l)
def fnP (tx : List Nat) (p l : Nat) : Int32 × Nat × Nat := if ca tx p = 112 then (rst tx (sk tx (p + 1)), l, 1) else (rst tx p, l, 0)
/-- the fault, -1 for none; the layout; the pass -/
def rdP (tx : List Nat) : Int32 × Nat × Nat :=
  if isD (ca tx (sk tx 0)) then
    (if (hpF tx 11 (sk tx 0) 0).1 = -1 then fnP tx (hpF tx 11 (sk tx 0) 0).2.1 (hpF tx 11 (sk tx 0) 0).2.2 else ((hpF tx 11 (sk tx 0) 0).1, 0, 0))
  else fnP tx (sk tx 0) 0
theorem hdB_lt (tx : List Nat) (p : Nat) : hdB tx p < 2 := by unfold hdB; by_cases h : ca tx (sk tx (hdE tx p)) = 33 <;> simp [h]
theorem hdL_ok {tx : List Nat} {p l : Nat} (hl : l < 1215) (h : hOK tx p l) : 2 * (hdV tx p - 1) + hdB tx p < 20 ∧ szk (2 * (hdV tx p - 1) + hdB tx p) ≤ 10 - cnt l ∧ hdL tx p l < 1215 ∧ cnt (hdL tx p l) = cnt l + hdV tx p ∧ lay (hdL tx p l) = insL (2 * (hdV tx p - 1) + hdB tx p) (lay l) := by
  have hc := (tq_cnt hl).1
  exact jt_put hl h.2.1 (hdB_lt tx p) (by have := h.2.2; omega)
theorem hdE_le {tx : List Nat} {p : Nat} (h : isD (ca tx p)) : p < tx.length ∧ hdE tx p ≤ tx.length ∧ p < hdE tx p := by
  have h1 := ca_lt (tx := tx) (i := p) (by have := h.2; omega)
  unfold hdE
  by_cases w : isD (ca tx (p + 1))
  · have h2 := ca_lt (tx := tx) (i := p + 1) (by have := w.2; omega)
    rw [if_pos w]; omega
  · rw [if_neg w]; omega
theorem hdN_le {tx : List Nat} {p : Nat} (h : isD (ca tx p)) : hdN tx p ≤ tx.length ∧ sk tx (hdN tx p) = hdN tx p := by
  have h1 := (hdE_le h).2.1
  have h2 := (sk_b h1).2
  unfold hdN
  by_cases w : ca tx (sk tx (hdE tx p)) = 33
  · have h3 := ca_lt (tx := tx) (i := sk tx (hdE tx p)) (by omega)
    rw [if_pos w]
    exact ⟨(sk_b (p := sk tx (hdE tx p) + 1) h3).2, sk_sk h3⟩
  · rw [if_neg w]; exact ⟨h2, sk_sk h1⟩
theorem hpF_ok {tx : List Nat} (h40 : tx.length ≤ 40) : ∀ f p l, l < 1215 → 11 ≤ cnt l + f → p ≤ tx.length → (hpF tx f p l).2.2 < 1215 ∧ ((hpF tx f p l).1 = -1 → (hpF tx f p l).2.1 ≤ tx.length ∧ sk tx (hpF tx f p l).2.1 = (hpF tx f p l).2.1) ∧ ((hpF tx f p l).1 ≠ -1 → ∃ e, e ≤ tx.length ∧ (hpF tx f p l).1 = nI e) := by
  intro f
  induction f with
  | zero => intro p l hl hc hp; have := (tq_cnt hl).1; omega
  | succ f ih =>
    intro p l hl hc hp
    simp only [hpF]
    by_cases h : hOK tx p l
    · obtain ⟨a, b, c, d, e⟩ := hdL_ok hl h
      obtain ⟨n1, n2⟩ := hdN_le h.1
      rw [if_pos h]
      by_cases w : ca tx (hdN tx p) = 43
      · have h3 := ca_lt (tx := tx) (i := hdN tx p) (by omega)
        rw [if_pos w]
        exact ih _ _ c (by have := h.2.1; omega) (sk_b (p := hdN tx p + 1) h3).2
      · rw [if_neg w]
        exact ⟨c, fun _ => ⟨n1, n2⟩, fun q => absurd rfl q⟩
    · rw [if_neg h]
      exact ⟨hl, fun q => absurd q (nI_ne1 (by omega)), fun _ => ⟨p, hp, rfl⟩⟩
theorem cnt_00 : cnt 0 = 0 := tq_0.2.1
theorem rdP_ok {tx : List Nat} (h40 : tx.length ≤ 40) : (rdP tx).2.1 < 1215 ∧ (rdP tx).2.2 < 2 := by
  have hf : ∀ p l, l < 1215 → (fnP tx p l).2.1 < 1215 ∧ (fnP tx p l).2.2 < 2 := by
    intro p l hl
    unfold fnP
    by_cases w : ca tx p = 112
    · rw [if_pos w]; exact ⟨hl, by show 1 < 2; omega⟩
    · rw [if_neg w]; exact ⟨hl, by show 0 < 2; omega⟩
  unfold rdP
  by_cases h : isD (ca tx (sk tx 0))
  · rw [if_pos h]
    have r := hpF_ok h40 11 (sk tx 0) 0 (by omega) (by omega) (sk_b (by omega)).2
    by_cases w : (hpF tx 11 (sk tx 0) 0).1 = -1
    · rw [if_pos w]; exact hf _ _ r.1
    · rw [if_neg w]; exact ⟨by show 0 < 1215; omega, by show 0 < 2; omega⟩
  · rw [if_neg h]; exact hf _ _ (by omega)
section XPO
variable {T : hm_T}
theorem dgA_d {n : Nat} (h : isD n) : dgA n = nI (n - 48) := by unfold dgA; rw [if_pos h]
theorem dgA_n {n : Nat} (h : ¬ isD n) : dgA n = -1 := by unfold dgA; rw [if_neg h]
theorem x_heap55 {tx : List Nat} (hx : ∀ c ∈ tx, c < 128) {p l : Nat} (hl : l < 1215) (hd : isD (ca tx p)) {S0 S : hm_S} (ht : tabX S) (hc : CX tx (hdE tx p) S) (h70 : S 70 1 = nI l) (hf : ft S0 S) (hv : hdV tx p < 100) {Q : Int32 → hm_S → hm_T → Prop} (hno : ¬ hOK tx p l → ∀ S', ft S0 S' → TX tx S' → Q (nI p) S' T) (h : hOK tx p l → ∀ S', fr [64, 70] S0 S' → CX tx (hdN tx p) S' → S' 70 1 = nI (hdL tx p l) → Q (-1) S' T) : wb_4_readHeap_55 Q (nI p) (nI (hdV tx p)) S T := by
  have hcn := (tq_cnt hl).1
  unfold wb_4_readHeap_55
  by_cases v0 : hdV tx p = 0
  · rw [if_pos (by rw [v0]; rfl)]
    exact hno (fun q => by have := q.2.1; omega) S hf hc.1
  · rw [if_neg (by rw [q_0, nI_eq (by omega) (by omega)]; exact v0), h70, x_countersOf ht hl, q_10, pk_sub hcn]
    by_cases v1 : hdV tx p ≤ 10 - cnt l
    · have hok : hOK tx p l := ⟨hd, by omega, v1⟩
      obtain ⟨a, b, c, d, e⟩ := hdL_ok hl hok
      rw [if_pos (nI_le v1 (by omega))]
      refine x_skipBlanks hx hc (fun S1 f1 c1 => ?_)
      have put : ∀ b' S2, b' = hdB tx p → ft S1 S2 → CX tx (hdN tx p) S2 → wb_4_readHeap_97 Q (nI (hdV tx p)) (nI b') S2 T := by
        intro b' S2 eb f2 c2
        have fA : fr [64] S S2 := f1.1.tr f2.1
        unfold wb_4_readHeap_97
        rw [e_kindOfHeap (by omega), eb, fA 70 (by decide), h70, x_join (ht.fr fA (by decide)) hl a b]
        have f3 : fr [70] S2 (hm_up S2 70 1 (nI (hdL tx p l))) := fr.up _ _ _ (by decide)
        exact h hok _ (((hf.1.mono (by decide)).tr (fA.mono (by decide))).tr (f3.mono (by decide))) (c2.fr f3 (by decide)) (hm_up_same _ _ _ _)
      rw [q_33]
      refine x_takeSign hx c1 (by omega) (fun w => ?_) (fun w S2 f2 c2 => ?_)
      · rw [if_pos rfl, q_0]
        exact put 0 S1 (by unfold hdB; rw [if_neg w]) (ft.rf S1) (by unfold hdN; rw [if_neg w]; exact c1)
      · rw [if_neg (by decide), q_1]
        exact put 1 S2 (by unfold hdB; rw [if_pos w]) f2 (by unfold hdN; rw [if_pos w]; exact c2)
    · rw [if_neg (nI_ge (by omega) (by omega))]
      exact hno (fun q => v1 q.2.2) S hf hc.1
theorem x_readHeap {tx : List Nat} (hx : ∀ c ∈ tx, c < 128) {p l : Nat} (hl : l < 1215) {S : hm_S} (ht : tabX S) (hc : CX tx p S) (h70 : S 70 1 = nI l) {Q : Int32 → hm_S → hm_T → Prop} (hno : ¬ hOK tx p l → ∀ S', ft S S' → TX tx S' → Q (nI p) S' T) (h : hOK tx p l → ∀ S', fr [64, 70] S S' → CX tx (hdN tx p) S' → S' 70 1 = nI (hdL tx p l) → Q (-1) S' T) : wp_4_readHeap S T Q := by
  have hl40 := hc.1.2.1
  have hpl := hc.2.2
  unfold wp_4_readHeap
  rw [x_nextDigit hx hc]
  by_cases d1 : isD (ca tx p)
  · have hp := ca_lt (tx := tx) (i := p) (by have := d1.2; omega)
    have b1 : 48 ≤ ca tx p ∧ ca tx p ≤ 57 := d1
    rw [dgA_d d1, if_neg (nI_ne1 (by omega)), hc.2.1, nI_1]
    have f1 := ft.up S (nI (p + 1))
    have c1 : CX tx (p + 1) (hm_up S 64 2 (nI (p + 1))) := CX.up hc.1 hp
    rw [x_nextDigit hx c1]
    by_cases d2 : isD (ca tx (p + 1))
    · have hp2 := ca_lt (tx := tx) (i := p + 1) (by have := d2.2; omega)
      have b2 : 48 ≤ ca tx (p + 1) ∧ ca tx (p + 1) ≤ 57 := d2
      have ev : hdV tx p = 10 * (ca tx p - 48) + (ca tx (p + 1) - 48) := by unfold hdV; rw [if_pos d2]
      have ee : hdE tx p = p + 2 := by unfold hdE; rw [if_pos d2]
      rw [dgA_d d2, if_neg (nI_ne1 (by omega)), x_nextDigit hx c1, dgA_d d2, c1.2.1, nI_1, q_10, pk_mul, nI_add, ← ev]
      have c2 : CX tx (hdE tx p) (hm_up (hm_up S 64 2 (nI (p + 1))) 64 2 (nI (p + 1 + 1))) := by rw [ee]; exact CX.up c1.1 (by omega)
      exact x_heap55 hx hl d1 (ht.fr (f1.tr (ft.up _ _)).1 (by decide)) c2 (by rw [(f1.tr (ft.up _ _)).1 70 (by decide)]; exact h70) (f1.tr (ft.up _ _)) (by omega) hno h
    · have ev : hdV tx p = ca tx p - 48 := by unfold hdV; rw [if_neg d2]
      have ee : hdE tx p = p + 1 := by unfold hdE; rw [if_neg d2]
      rw [dgA_n d2, if_pos rfl, ← ev]
      exact x_heap55 hx hl d1 (ht.fr f1.1 (by decide)) (by rw [ee]; exact c1) (by rw [f1.1 70 (by decide)]; exact h70) f1 (by omega) hno h
  · rw [dgA_n d1, if_pos rfl, hc.2.1]
    exact hno (fun q => d1 q.1) S (ft.rf S) hc.1
theorem x_readHeaps {tx : List Nat} (hx : ∀ c ∈ tx, c < 128) {S0 : hm_S} (ht0 : tabX S0) {R : Int32 × Nat × Nat} {Q : Int32 → hm_S → hm_T → Prop} (hno : R.1 ≠ -1 → ∀ S, fr [64, 70] S0 S → TX tx S → Q R.1 S T) (h : R.1 = -1 → ∀ S, fr [64, 70] S0 S → CX tx R.2.1 S → S 70 1 = nI R.2.2 → Q (-1) S T) : ∀ f m p l S, m + f = 11 → l < 1215 → 11 ≤ cnt l + f → hpF tx f p l = R → fr [64, 70] S0 S → CX tx p S → S 70 1 = nI l → ∀ C : Int32 → hm_S → hm_T → Prop, (∀ r S1, wl_4_readHeaps_8 Q f r (nI m) S1 T → C r S1 T) → wp_4_readHeap S T C := by
  intro f
  induction f with
  | zero => intro m p l S hm hl hcf hR hf hc h70 C hC; have := (tq_cnt hl).1; omega
  | succ f ih =>
    intro m p l S hm hl hcf hR hf hc h70 C hC
    have hpl := hc.2.2
    have hl40 := hc.1.2.1
    simp only [hpF] at hR
    refine x_readHeap hx hl (ht0.fr hf (by decide)) hc h70 (fun w S1 f1 t1 => ?_) (fun w S1 f1 c1 e1 => ?_)
    · rw [if_neg w] at hR
      refine hC _ _ ?_
      show wb_4_readHeaps_8 Q _ _ _ S1 T
      unfold wb_4_readHeaps_8
      have ne : nI p ≠ -1 := nI_ne1 (by omega)
      rw [q_40, if_neg (nI_ge (by omega) (by omega)), if_neg ne]
      have r := hno (by rw [← hR]; exact ne) S1 (hf.tr (f1.1.mono (by decide))) t1
      rw [← hR] at r
      exact r
    · rw [if_pos w] at hR
      obtain ⟨a, b, c, d, e⟩ := hdL_ok hl w
      by_cases g : ca tx (hdN tx p) = 43
      · rw [if_pos g] at hR
        have h3 := ca_lt (tx := tx) (i := hdN tx p) (by omega)
        refine hC _ _ ?_
        show wb_4_readHeaps_8 Q _ _ _ S1 T
        unfold wb_4_readHeaps_8
        rw [q_40, if_neg (nI_ge (by omega) (by omega)), if_pos rfl, q_43]
        refine x_takeSign hx c1 (by omega) (fun q => absurd g q) (fun _ S2 f2 c2 => ?_)
        rw [if_neg (by decide), nI_1]
        exact ih (m + 1) _ _ S2 (by omega) c (by have := w.2.1; omega) hR ((hf.tr f1).tr (f2.1.mono (by decide))) c2 (by rw [f2.1 70 (by decide)]; exact e1) _ (fun _ _ q => q)
      · rw [if_neg g] at hR
        refine hC _ _ ?_
        show wb_4_readHeaps_8 Q _ _ _ S1 T
        unfold wb_4_readHeaps_8
        rw [q_40, if_neg (nI_ge (by omega) (by omega)), if_pos rfl, q_43]
        refine x_takeSign hx c1 (by omega) (fun _ => ?_) (fun q => absurd q g)
        rw [if_pos rfl]
        rw [← hR] at h
        exact h rfl S1 (hf.tr f1) c1 e1
theorem x_rdP {tx : List Nat} (hx : ∀ c ∈ tx, c < 128) {S : hm_S} (hX : tabX S) (ht : TX tx S) {Q : Int32 → hm_S → hm_T → Prop} (h : ∀ S', fr [64, 70] S S' → TX tx S' → ((rdP tx).1 = -1 → S' 70 1 = nI (rdP tx).2.1 ∧ S' 70 2 = nI (rdP tx).2.2) → Q (rdP tx).1 S' T) : wp_4_faultOf S T Q := by
  have hl := ht.2.1
  have hs0 := (sk_b (tx := tx) (p := 0) (by omega)).2
  -- the end, from p on, with the layout l
  have fin : ∀ p l S1, fr [64, 70] S S1 → CX tx p S1 → S1 70 1 = nI l → rdP tx = fnP tx p l → wb_4_faultOf_26 Q (-1) S1 T := by
    intro p l S1 f1 c1 e1 er
    unfold wb_4_faultOf_26 wb_4_faultOf_49
    rw [er] at h
    unfold fnP at h
    rw [if_pos rfl, q_112]
    refine x_takeSign hx c1 (by omega) (fun w => ?_) (fun w S2 f2 c2 => ?_)
    · rw [if_neg w] at h
      rw [if_pos rfl, q_0]
      have f3 : fr [70] S1 (hm_up S1 70 2 (nI 0)) := fr.up _ _ _ (by decide)
      refine x_faultOfRest hx (c1.fr f3 (by decide)) (fun S4 f4 c4 => ?_)
      exact h S4 ((f1.tr (f3.mono (by decide))).tr (f4.1.mono (by decide))) c4.1 (fun _ => ⟨by rw [f4.1 70 (by decide), hm_up_col _ _ (by decide)]; exact e1, by rw [f4.1 70 (by decide), hm_up_same]⟩)
    · rw [if_pos w] at h
      rw [if_neg (by decide), q_1]
      have f3 : fr [70] S2 (hm_up S2 70 2 (nI 1)) := fr.up _ _ _ (by decide)
      refine x_faultOfRest hx (c2.fr f3 (by decide)) (fun S4 f4 c4 => ?_)
      exact h S4 (((f1.tr (f2.1.mono (by decide))).tr (f3.mono (by decide))).tr (f4.1.mono (by decide))) c4.1 (fun _ => ⟨by rw [f4.1 70 (by decide), hm_up_col _ _ (by decide), f2.1 70 (by decide)]; exact e1, by rw [f4.1 70 (by decide), hm_up_same]⟩)
  unfold wp_4_faultOf
  have f0 : fr [70] S (hm_up S 70 1 0) := fr.up _ _ _ (by decide)
  refine x_startReading hx (ht.fr f0 (by decide)) (fun S1 f1 c1 => ?_)
  have fA : fr [64, 70] S S1 := (f0.mono (by decide)).tr (f1.1.mono (by decide))
  have e1 : S1 70 1 = nI 0 := by rw [f1.1 70 (by decide), hm_up_same]; rfl
  rw [x_nextDigit hx c1]
  by_cases d : isD (ca tx (sk tx 0))
  · have bd : 48 ≤ ca tx (sk tx 0) ∧ ca tx (sk tx 0) ≤ 57 := d
    rw [dgA_d d, if_neg (nI_ne1 (by omega))]
    unfold wp_4_readHeaps
    have er : rdP tx = if (hpF tx 11 (sk tx 0) 0).1 = -1 then fnP tx (hpF tx 11 (sk tx 0) 0).2.1 (hpF tx 11 (sk tx 0) 0).2.2 else ((hpF tx 11 (sk tx 0) 0).1, 0, 0) := by unfold rdP; rw [if_pos d]
    rw [q_0]
    exact x_readHeaps (T := T) hx (S0 := S1) (hX.fr fA (by decide)) (R := hpF tx 11 (sk tx 0) 0) (Q := fun r5 S5 T5 => wb_4_faultOf_26 Q r5 S5 T5) (fun ne S2 f2 t2 => by
        show wb_4_faultOf_26 Q _ S2 T
        unfold wb_4_faultOf_26
        rw [if_neg ne] at er ⊢
        rw [er] at h
        exact h S2 (fA.tr f2) t2 (fun q => absurd q ne)) (fun eq S2 f2 c2 e2 => by
        rw [if_pos eq] at er
        exact fin _ _ S2 (fA.tr f2) c2 e2 er) 11 0 (sk tx 0) 0 S1 (by omega) (by omega) (by omega) rfl (fr.rf _ S1) c1 e1 _ (fun r S2 q => ⟨_, q⟩)
  · rw [dgA_n d, if_pos rfl]
    exact fin (sk tx 0) 0 S1 fA c1 e1 (by unfold rdP; rw [if_neg d])
end XPO
