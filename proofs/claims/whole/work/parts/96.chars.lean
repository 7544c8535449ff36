/-! ===== the text as numbers; 128 stands behind its end ===== -/
def ca (tx : List Nat) (i : Nat) : Nat := tx.getD i 128
def cI (n : Nat) : Int32 := if n = 128 then -1 else nI n
theorem ca_in {tx : List Nat} (hx : ∀ c ∈ tx, c < 128) {i : Nat} (h : i < tx.length) : ca tx i < 128 ∧ tx[i]? = some (ca tx i) := by
  have e : ca tx i = tx[i] := by unfold ca; rw [List.getD_eq_getElem?_getD, List.getElem?_eq_getElem h]; rfl
  rw [e]
  exact ⟨hx _ (List.getElem_mem h), List.getElem?_eq_getElem h⟩
theorem ca_out {tx : List Nat} {i : Nat} (h : tx.length ≤ i) : ca tx i = 128 := by unfold ca; rw [List.getD_eq_getElem?_getD, List.getElem?_eq_none h]; rfl
theorem ca_le {tx : List Nat} (hx : ∀ c ∈ tx, c < 128) (i : Nat) : ca tx i ≤ 128 := by
  rcases Nat.lt_or_ge i tx.length with h | h
  · exact Nat.le_of_lt (ca_in hx h).1
  · rw [ca_out h]; omega
theorem ca_lt {tx : List Nat} {i : Nat} (h : ca tx i ≠ 128) : i < tx.length := by
  rcases Nat.lt_or_ge i tx.length with q | q
  · exact q
  · exact absurd (ca_out q) h
theorem cI_s {n : Nat} (h : n < 128) : cI n = nI n := by unfold cI; rw [if_neg (by omega)]
theorem cI_e : cI 128 = -1 := rfl
theorem cI_eq {n c : Nat} (hn : n ≤ 128) (hc : c < 128) : cI n = nI c ↔ n = c := by
  rcases Nat.lt_or_eq_of_le hn with h | h
  · rw [cI_s h, nI_eq (by omega) (by omega)]
  · rw [h, cI_e]
    exact ⟨fun e => absurd e.symm (nI_ne1 (by omega)), fun e => by omega⟩
/-- where the blanks end -/
def skF (tx : List Nat) : Nat → Nat → Nat
  | 0, p => p
  | f + 1, p => if ca tx p = 32 then skF tx f (p + 1) else p
def sk (tx : List Nat) (p : Nat) : Nat := skF tx (tx.length - p) p
theorem sk_y {tx : List Nat} {p : Nat} (h : ca tx p = 32) : sk tx p = sk tx (p + 1) := by
  have hp := ca_lt (tx := tx) (i := p) (by omega)
  unfold sk
  rw [show tx.length - p = (tx.length - (p + 1)) + 1 by omega]
  simp only [skF, if_pos h]
theorem sk_n {tx : List Nat} {p : Nat} (h : ca tx p ≠ 32) : sk tx p = p := by
  unfold sk
  cases tx.length - p with
  | zero => rfl
  | succ f => simp only [skF, if_neg h]
theorem sk_le {tx : List Nat} : ∀ f p, p + f = tx.length → p ≤ sk tx p ∧ sk tx p ≤ tx.length := by
  intro f
  induction f with
  | zero => intro p hp; rw [sk_n (by rw [ca_out (by omega)]; omega)]; omega
  | succ f ih =>
    intro p hp
    by_cases h : ca tx p = 32
    · rw [sk_y h]
      have := ih (p + 1) (by omega)
      omega
    · rw [sk_n h]; omega
theorem sk_b {tx : List Nat} {p : Nat} (h : p ≤ tx.length) : p ≤ sk tx p ∧ sk tx p ≤ tx.length := sk_le (tx.length - p) p (by omega)
theorem sk_idem {tx : List Nat} : ∀ f p, p + f = tx.length → ca tx (sk tx p) ≠ 32 := by
  intro f
  induction f with
  | zero => intro p hp; rw [sk_n (by rw [ca_out (by omega)]; omega), ca_out (by omega)]; omega
  | succ f ih =>
    intro p hp
    by_cases h : ca tx p = 32
    · rw [sk_y h]; exact ih (p + 1) (by omega)
    · rw [sk_n h]; exact h
theorem sk_sk {tx : List Nat} {p : Nat} (h : p ≤ tx.length) : sk tx (sk tx p) = sk tx p := sk_n (sk_idem (tx.length - p) p (by omega))
/-- only the cursor has changed -/
def ft (S S' : hm_S) : Prop := fr [64] S S' ∧ ∀ k, k ≠ 2 → S' 64 k = S 64 k
theorem ft.rf (S : hm_S) : ft S S := ⟨fr.rf _ S, fun _ _ => rfl⟩
theorem ft.tr {S S' S'' : hm_S} (h : ft S S') (h' : ft S' S'') : ft S S'' := ⟨h.1.tr h'.1, fun k hk => (h'.2 k hk).trans (h.2 k hk)⟩
theorem ft.up (S : hm_S) (v : Int32) : ft S (hm_up S 64 2 v) := ⟨fr.up _ _ _ (by decide), fun _ hk => hm_up_col _ _ hk⟩
theorem TX.ft {tx : List Nat} {S S' : hm_S} (h : TX tx S) (hf : ft S S') : TX tx S' := by
  unfold TX
  rw [hf.2 1 (by decide), hf.1 66 (by decide)]
  exact h
def CX (tx : List Nat) (p : Nat) (S : hm_S) : Prop := TX tx S ∧ S 64 2 = nI p ∧ p ≤ tx.length
theorem CX.up {tx : List Nat} {p : Nat} {S : hm_S} (h : TX tx S) (hp : p ≤ tx.length) : CX tx p (hm_up S 64 2 (nI p)) := ⟨h.ft (ft.up S _), hm_up_same _ _ _ _, hp⟩
section TB
variable {T : hm_T}
theorem x_letterAt {tx : List Nat} (hx : ∀ c ∈ tx, c < 128) {S : hm_S} (ht : TX tx S) {i : Nat} (hi : i < 2 ^ 30) {Q : Int32 → hm_S → hm_T → Prop} : wp_9_letterAt (nI i) S T Q ↔ Q (cI (ca tx i)) S T := by
  have hl := ht.2.1
  unfold wp_9_letterAt
  rw [ht.1]
  rcases Nat.lt_or_ge i tx.length with h | h
  · obtain ⟨h1, h2⟩ := ca_in hx h
    rw [if_neg (nI_ge h (by omega)), e_get (by omega) (by omega)]
    simp only [Nat.reduceAdd]
    rw [ht.2.2 i _ h2, cI_s h1]
  · rw [if_pos (nI_le h (by omega)), ca_out h, cI_e]
theorem x_next {tx : List Nat} (hx : ∀ c ∈ tx, c < 128) {p : Nat} {S : hm_S} (hc : CX tx p S) {Q : Int32 → hm_S → hm_T → Prop} : wp_9_next S T Q ↔ Q (cI (ca tx p)) S T := by
  have hl := hc.1.2.1
  have hp := hc.2.2
  unfold wp_9_next
  rw [hc.2.1, x_letterAt hx hc.1 (by omega)]
def dgA (n : Nat) : Int32 := if 48 ≤ n ∧ n ≤ 57 then nI (n - 48) else -1
theorem x_nextDigit {tx : List Nat} (hx : ∀ c ∈ tx, c < 128) {p : Nat} {S : hm_S} (hc : CX tx p S) {Q : Int32 → hm_S → hm_T → Prop} : wp_9_nextDigit S T Q ↔ Q (dgA (ca tx p)) S T := by
  have hn := ca_le hx p
  unfold wp_9_nextDigit
  rw [x_next hx hc]
  unfold dgA
  generalize ca tx p = n at hn ⊢
  rcases Nat.lt_or_eq_of_le hn with h | h
  · rw [cI_s h, q_48]
    by_cases h1 : n < 48
    · rw [if_pos (pk_sneg (by omega) h1), if_neg (by omega)]
    · rw [pk_sub (by omega), if_neg (nI_pos (by omega)), q_9]
      by_cases h2 : n ≤ 57
      · rw [if_neg (nI_nlt (by omega) (by omega)), if_pos (by omega)]
      · rw [if_pos (nI_lt (by omega) (by omega)), if_neg (by omega)]
  · rw [h, cI_e, if_pos (by decide), if_neg (by omega)]
theorem x_small {tx : List Nat} (hx : ∀ c ∈ tx, c < 128) {p : Nat} {S : hm_S} (hc : CX tx p S) {Q : Int32 → hm_S → hm_T → Prop} : wp_9_isNextSmallLetter S T Q ↔ (if 97 ≤ ca tx p ∧ ca tx p ≤ 122 then Q 1 S T else Q 0 S T) := by
  have hn := ca_le hx p
  unfold wp_9_isNextSmallLetter
  rw [x_next hx hc, x_next hx hc]
  generalize ca tx p = n at hn ⊢
  rcases Nat.lt_or_eq_of_le hn with h | h
  · rw [cI_s h, q_97, q_122]
    by_cases h1 : n < 97
    · rw [if_pos (nI_lt h1 (by omega)), if_neg (by omega)]
    · rw [if_neg (nI_nlt (by omega) (by omega))]
      by_cases h2 : n ≤ 122
      · rw [if_neg (nI_nlt h2 (by omega)), if_pos (by omega)]
      · rw [if_pos (nI_lt (by omega) (by omega)), if_neg (by omega)]
  · rw [h, cI_e, if_pos (by decide), if_neg (by omega)]
theorem x_skip {tx : List Nat} (hx : ∀ c ∈ tx, c < 128) {S0 : hm_S} {Q : hm_S → hm_T → Prop} {E : Nat} (h : ∀ S, ft S0 S → CX tx E S → Q S T) : ∀ f p S, p + f = tx.length → sk tx p = E → ft S0 S → CX tx p S → wl_9_skipBlanks_0 Q (f + 1) S T := by
  intro f
  induction f with
  | zero =>
    intro p S hp hE hf hc
    have hl := hc.1.2.1
    show wb_9_skipBlanks_0 Q _ S T
    unfold wb_9_skipBlanks_0
    rw [hc.1.1, hc.2.1, if_pos (nI_le (by omega) (by omega))]
    rw [sk_n (by rw [ca_out (by omega)]; omega)] at hE
    rw [← hE] at h
    exact h S hf hc
  | succ f ih =>
    intro p S hp hE hf hc
    have hl := hc.1.2.1
    obtain ⟨h1, h2⟩ := ca_in hx (show p < tx.length by omega)
    show wb_9_skipBlanks_0 Q _ S T
    unfold wb_9_skipBlanks_0
    rw [hc.1.1, hc.2.1, if_neg (nI_ge (by omega) (by omega)), e_get (by omega) (by omega)]
    simp only [Nat.reduceAdd]
    rw [hc.1.2.2 p _ h2, hc.2.1, nI_1, q_32]
    by_cases e : ca tx p = 32
    · rw [sk_y e] at hE
      rw [if_pos (by rw [e])]
      exact ih (p + 1) _ (by omega) hE (hf.tr (ft.up S _)) (CX.up hc.1 (by omega))
    · rw [sk_n e] at hE
      rw [if_neg (by rw [nI_eq (by omega) (by omega)]; exact e)]
      rw [← hE] at h
      exact h S hf hc
theorem x_skipBlanks {tx : List Nat} (hx : ∀ c ∈ tx, c < 128) {p : Nat} {S : hm_S} (hc : CX tx p S) {Q : hm_S → hm_T → Prop} (h : ∀ S', ft S S' → CX tx (sk tx p) S' → Q S' T) : wp_9_skipBlanks S T Q := ⟨_, x_skip hx h (tx.length - p) p S (by have := hc.2.2; omega) rfl (ft.rf S) hc⟩
theorem x_startReading {tx : List Nat} (hx : ∀ c ∈ tx, c < 128) {S : hm_S} (ht : TX tx S) {Q : hm_S → hm_T → Prop} (h : ∀ S', ft S S' → CX tx (sk tx 0) S' → Q S' T) : wp_9_startReading S T Q := by
  unfold wp_9_startReading
  rw [q_0]
  exact x_skipBlanks hx (CX.up ht (by omega)) (fun S' f' c' => h S' ((ft.up S _).tr f') c')
theorem x_takeSign {tx : List Nat} (hx : ∀ c ∈ tx, c < 128) {p : Nat} {S : hm_S} (hc : CX tx p S) {c : Nat} (hcc : c < 128) {Q : Int32 → hm_S → hm_T → Prop} (hno : ca tx p ≠ c → Q 0 S T) (h : ca tx p = c → ∀ S', ft S S' → CX tx (sk tx (p + 1)) S' → Q 1 S' T) : wp_9_takeSign (nI c) S T Q := by
  have hn := ca_le hx p
  unfold wp_9_takeSign
  rw [x_next hx hc]
  by_cases e : ca tx p = c
  · have hp := ca_lt (tx := tx) (i := p) (by omega)
    rw [if_pos ((cI_eq hn hcc).mpr e), hc.2.1, nI_1]
    exact x_skipBlanks hx (CX.up hc.1 hp) (fun S' f' c' => h e S' ((ft.up S _).tr f') c')
  · rw [if_neg (fun q => e ((cI_eq hn hcc).mp q))]
    exact hno e
/-- what a text that should have ended at p is at fault with -/
def rst (tx : List Nat) (p : Nat) : Int32 := if tx.length ≤ sk tx p then -1 else nI (sk tx p)
theorem x_faultOfRest {tx : List Nat} (hx : ∀ c ∈ tx, c < 128) {p : Nat} {S : hm_S} (hc : CX tx p S) {Q : Int32 → hm_S → hm_T → Prop} (h : ∀ S', ft S S' → CX tx (sk tx p) S' → Q (rst tx p) S' T) : wp_9_faultOfRest S T Q := by
  unfold wp_9_faultOfRest
  refine x_skipBlanks hx hc (fun S' f' c' => ?_)
  have r := h S' f' c'
  have hl := c'.1.2.1
  have hs := c'.2.2
  rw [c'.1.1, c'.2.1]
  unfold rst at r
  by_cases e : tx.length ≤ sk tx p
  · rw [if_pos e] at r
    rw [if_pos (nI_le e (by omega))]; exact r
  · rw [if_neg e] at r
    rw [if_neg (nI_ge (by omega) (by omega))]; exact r
end TB
/-! ===== the reference's text ===== -/
def fz (S S' : hm_S) : Prop := fr [0] S S' ∧ ∀ k, k ≠ 26 → S' 0 k = S 0 k
theorem fz.rf (S : hm_S) : fz S S := ⟨fr.rf _ S, fun _ _ => rfl⟩
theorem fz.tr {S S' S'' : hm_S} (h : fz S S') (h' : fz S' S'') : fz S S'' := ⟨h.1.tr h'.1, fun k hk => (h'.2 k hk).trans (h.2 k hk)⟩
theorem fz.up (S : hm_S) (v : Int32) : fz S (hm_up S 0 26 v) := ⟨fr.up _ _ _ (by decide), fun _ hk => hm_up_col _ _ hk⟩
def CZ (tx : List Nat) (p : Nat) (S : hm_S) : Prop := TM tx S ∧ S 0 26 = nI p ∧ p ≤ tx.length
theorem CZ.up {tx : List Nat} {p : Nat} {S : hm_S} (h : TM tx S) (hp : p ≤ tx.length) : CZ tx p (hm_up S 0 26 (nI p)) := ⟨h.fr0 (fr.up (c := [0]) _ _ _ (by decide)) (by decide) (hm_up_col _ _ (by decide)), hm_up_same _ _ _ _, hp⟩
section TC
variable {T : hm_T}
theorem z_byteAt {tx : List Nat} (hx : ∀ c ∈ tx, c < 128) {S : hm_S} (ht : TM tx S) {i : Nat} (hi : i < 2 ^ 30) {Q : Int32 → hm_S → hm_T → Prop} : wp_11_byteAt (nI i) S T Q ↔ Q (cI (ca tx i)) S T := by
  have hl := ht.2.1
  unfold wp_11_byteAt
  rw [ht.1]
  rcases Nat.lt_or_ge i tx.length with h | h
  · obtain ⟨h1, h2⟩ := ca_in hx h
    rw [if_neg (nI_ge h (by omega)), nI_clamp (by omega), ht.2.2 i _ h2, cI_s h1]
    exact ⟨fun q => q.2, fun q => ⟨vp_in_nI (by omega) (by omega), q⟩⟩
  · rw [if_pos (nI_le h (by omega)), ca_out h, cI_e]
theorem z_byte {tx : List Nat} (hx : ∀ c ∈ tx, c < 128) {p : Nat} {S : hm_S} (hc : CZ tx p S) {Q : Int32 → hm_S → hm_T → Prop} : wp_11_byteAt (S 0 26) S T Q ↔ Q (cI (ca tx p)) S T := by
  have hl := hc.1.2.1
  have hp := hc.2.2
  rw [hc.2.1, z_byteAt hx hc.1 (by omega)]
theorem z_inC {n a b : Nat} (hn : n ≤ 128) (hb : b < 128) (ha : a ≤ b) {S : hm_S} {Q : Int32 → hm_S → hm_T → Prop} : wp_11_in (cI n) (nI a) (nI b) S T Q ↔ (if a ≤ n ∧ n ≤ b then Q 1 S T else Q 0 S T) := by
  unfold wp_11_in
  rcases Nat.lt_or_eq_of_le hn with h | h
  · rw [cI_s h]
    by_cases h1 : n < a
    · rw [if_pos (nI_lt h1 (by omega)), if_neg (by omega)]
    · rw [if_neg (nI_nlt (by omega) (by omega))]
      by_cases h2 : n ≤ b
      · rw [if_neg (nI_nlt h2 (by omega)), if_pos (by omega)]
      · rw [if_pos (nI_lt (by omega) (by omega)), if_neg (by omega)]
  · rw [h, cI_e, if_pos (Int32.lt_of_lt_of_le (show (-1 : Int32) < nI 0 by decide) (nI_le (by omega) (by omega))), if_neg (by omega)]
theorem z_skip {tx : List Nat} (hx : ∀ c ∈ tx, c < 128) {S0 : hm_S} {Q : hm_S → hm_T → Prop} {E : Nat} (h : ∀ S, fz S0 S → CZ tx E S → Q S T) : ∀ f p S, p + f = tx.length → sk tx p = E → fz S0 S → CZ tx p S → wl_11_skips_0 Q (f + 1) S T := by
  intro f
  induction f with
  | zero =>
    intro p S hp hE hf hc
    show wb_11_skips_0 Q _ S T
    unfold wb_11_skips_0
    have e : ca tx p ≠ 32 := by rw [ca_out (by omega)]; omega
    rw [z_byte hx hc, q_32, if_neg (fun q => e ((cI_eq (ca_le hx p) (by omega)).mp q))]
    rw [sk_n e] at hE
    rw [← hE] at h
    exact h S hf hc
  | succ f ih =>
    intro p S hp hE hf hc
    show wb_11_skips_0 Q _ S T
    unfold wb_11_skips_0
    rw [z_byte hx hc, q_32]
    by_cases e : ca tx p = 32
    · rw [sk_y e] at hE
      rw [if_pos ((cI_eq (ca_le hx p) (by omega)).mpr e), hc.2.1, nI_1]
      exact ih (p + 1) _ (by omega) hE (hf.tr (fz.up S _)) (CZ.up hc.1 (by omega))
    · rw [sk_n e] at hE
      rw [if_neg (fun q => e ((cI_eq (ca_le hx p) (by omega)).mp q))]
      rw [← hE] at h
      exact h S hf hc
theorem z_skips {tx : List Nat} (hx : ∀ c ∈ tx, c < 128) {p : Nat} {S : hm_S} (hc : CZ tx p S) {Q : hm_S → hm_T → Prop} (h : ∀ S', fz S S' → CZ tx (sk tx p) S' → Q S' T) : wp_11_skips S T Q := ⟨_, z_skip hx h (tx.length - p) p S (by have := hc.2.2; omega) rfl (fz.rf S) hc⟩
/-- fails: the first fault stays -/
theorem z_fails {S : hm_S} {x : Int32} {Q : hm_S → hm_T → Prop} (h : ∀ S', fr [0] S S' → (∀ k, k ≠ 27 → S' 0 k = S 0 k) → (S 0 27 = -1 → S' 0 27 = x) → (S 0 27 ≠ -1 → S' 0 27 = S 0 27) → Q S' T) : wp_11_fails x S T Q := by
  unfold wp_11_fails wb_11_fails_17
  by_cases e : S 0 27 = -1
  · rw [if_pos e]
    exact h _ (fr.up _ _ _ (by decide)) (fun k hk => hm_up_col _ _ hk) (fun _ => hm_up_same _ _ _ _) (fun q => absurd e q)
  · rw [if_neg e]
    exact h _ (fr.up _ _ _ (by decide)) (fun k hk => hm_up_col _ _ hk) (fun q => absurd q e) (fun _ => hm_up_same _ _ _ _)
end TC
