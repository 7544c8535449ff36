/-! ===== the reference lists the moves of the spec ===== -/
def ruM (ρ : Ru) (S : hm_S) : Prop := (∀ k, 1 ≤ k → k ≤ 10 → S 4 k = nI (ρ.1 k)) ∧ S 0 4 = nI ρ.2.1 ∧ S 0 5 = nI ρ.2.2.1 ∧ S 0 6 = nI ρ.2.2.2
def fb (S S' : hm_S) : Prop := fr [0, 6, 7, 8, 9, 10, 11, 12] S S' ∧ ∀ k, k ≠ 11 → k ≠ 18 → S' 0 k = S 0 k
theorem fb.rf (S : hm_S) : fb S S := ⟨fr.rf _ S, fun _ _ _ => rfl⟩
theorem fb.tr {S S' S'' : hm_S} (h : fb S S') (h' : fb S' S'') : fb S S'' := ⟨h.1.tr h'.1, fun k h1 h2 => (h'.2 k h1 h2).trans (h.2 k h1 h2)⟩
theorem mw.fb {S S' : hm_S} (h : mw S S') : fb S S' := ⟨fun a ha => h.1 a (fun e => ha (by rw [e]; decide)) (fun e => ha (by rw [e]; decide)), fun k h1 _ => h.2 k h1⟩
theorem fb.up {S : hm_S} {a : Nat} (k : Nat) (v : Int32) (ha : a ∈ [7, 8, 9, 10, 11, 12]) : fb S (hm_up S a k v) := ⟨fr.up S k v (List.mem_cons_of_mem _ (List.mem_cons_of_mem _ ha)), fun j _ _ => by rw [hm_up_row S _ _ (by rintro rfl; exact absurd ha (by decide))]⟩
theorem fb.up0 {S : hm_S} (v : Int32) : fb S (hm_up S 0 18 v) := ⟨fr.up S 18 v (by decide), fun j _ hj => hm_up_col S v hj⟩
theorem fb.tab {S S' : hm_S} {T : hm_T} (h : fb S S') (ht : tabM S T) : tabM S' T := by
  unfold tabM
  rw [h.1 1 (by decide), h.1 2 (by decide)]
  exact ht
theorem fb.ru {ρ : Ru} {S S' : hm_S} (h : fb S S') (hu : ruM ρ S) : ruM ρ S' := by
  unfold ruM
  rw [h.1 4 (by decide), h.2 4 (by decide) (by decide), h.2 5 (by decide) (by decide), h.2 6 (by decide) (by decide)]
  exact hu
def mlMA (L : List Mv) (S : hm_S) : Prop := ∀ i m, L[i]? = some m → S 7 i = nI m.1 ∧ S 8 i = nI m.2.1 ∧ S 9 i = nI m.2.2.1 ∧ S 10 i = nI m.2.2.2.1 ∧ S 11 i = nI m.2.2.2.2.1 ∧ S 12 i = nI (pM (tgt m))
def mlM (L : List Mv) (S : hm_S) : Prop := S 0 18 = nI L.length ∧ mlMA L S
def A5 (S : hm_S) (n0 : Nat) (a b c d e : Int32) : hm_S := hm_up (hm_up (hm_up (hm_up (hm_up S 7 n0 a) 8 n0 b) 9 n0 c) 10 n0 d) 11 n0 e
theorem u_7 (S : hm_S) (k : Nat) (v : Int32) : hm_up S 7 k v 0 = S 0 := rfl
theorem u_8 (S : hm_S) (k : Nat) (v : Int32) : hm_up S 8 k v 0 = S 0 := rfl
theorem u_9 (S : hm_S) (k : Nat) (v : Int32) : hm_up S 9 k v 0 = S 0 := rfl
theorem u_10 (S : hm_S) (k : Nat) (v : Int32) : hm_up S 10 k v 0 = S 0 := rfl
theorem u_11 (S : hm_S) (k : Nat) (v : Int32) : hm_up S 11 k v 0 = S 0 := rfl
theorem u_12 (S : hm_S) (k : Nat) (v : Int32) : hm_up S 12 k v 0 = S 0 := rfl
theorem A5_fb (S : hm_S) (n0 : Nat) (a b c d e : Int32) : fb S (A5 S n0 a b c d e) := ((((fb.up _ _ (by decide)).tr (fb.up _ _ (by decide))).tr (fb.up _ _ (by decide))).tr (fb.up _ _ (by decide))).tr (fb.up _ _ (by decide))
theorem mlM_add {L : List Mv} {S S1 : hm_S} {a b c d e f : Nat} (h : mlM L S) (hw : mw (A5 S L.length (nI a) (nI b) (nI c) (nI d) (nI e)) S1) : fb S (hm_up (hm_up S1 12 L.length (nI (pM f))) 0 18 (nI (L.length + 1))) ∧ mlM (L ++ [(a, b, c, d, e, f)]) (hm_up (hm_up S1 12 L.length (nI (pM f))) 0 18 (nI (L.length + 1))) := by
  refine ⟨(((A5_fb S _ _ _ _ _ _).tr hw.fb).tr (fb.up _ _ (by decide))).tr (fb.up0 _), ?_, ?_⟩
  · rw [hm_up_same, List.length_append]; rfl
  · intro i m hi
    have r7 : S1 7 = A5 S L.length (nI a) (nI b) (nI c) (nI d) (nI e) 7 := hw.1 7 (by decide) (by decide)
    have r8 : S1 8 = A5 S L.length (nI a) (nI b) (nI c) (nI d) (nI e) 8 := hw.1 8 (by decide) (by decide)
    have r9 : S1 9 = A5 S L.length (nI a) (nI b) (nI c) (nI d) (nI e) 9 := hw.1 9 (by decide) (by decide)
    have r10 : S1 10 = A5 S L.length (nI a) (nI b) (nI c) (nI d) (nI e) 10 := hw.1 10 (by decide) (by decide)
    have r11 : S1 11 = A5 S L.length (nI a) (nI b) (nI c) (nI d) (nI e) 11 := hw.1 11 (by decide) (by decide)
    have r12 : S1 12 = A5 S L.length (nI a) (nI b) (nI c) (nI d) (nI e) 12 := hw.1 12 (by decide) (by decide)
    rcases Nat.lt_or_ge i L.length with q | q
    · rw [List.getElem?_append_left q] at hi
      have hne : i ≠ L.length := by omega
      obtain ⟨h1, h2, h3, h4, h5, h6⟩ := h.2 i m hi
      refine ⟨?_, ?_, ?_, ?_, ?_, ?_⟩
      · simp only [hm_up_at, r7, A5]; simp [hne, h1]
      · simp only [hm_up_at, r8, A5]; simp [hne, h2]
      · simp only [hm_up_at, r9, A5]; simp [hne, h3]
      · simp only [hm_up_at, r10, A5]; simp [hne, h4]
      · simp only [hm_up_at, r11, A5]; simp [hne, h5]
      · simp only [hm_up_at, r12, A5]; simp [hne, h6]
    · rw [List.getElem?_append_right q] at hi
      have hie : i = L.length := by
        have : i - L.length < 1 := (List.getElem?_eq_some_iff.mp hi).1
        omega
      subst hie
      rw [Nat.sub_self] at hi
      cases hi
      refine ⟨?_, ?_, ?_, ?_, ?_, ?_⟩
      · simp only [hm_up_at, r7, A5]; simp
      · simp only [hm_up_at, r8, A5]; simp
      · simp only [hm_up_at, r9, A5]; simp
      · simp only [hm_up_at, r10, A5]; simp
      · simp only [hm_up_at, r11, A5]; simp
      · simp only [hm_up_at, r12, A5]; simp [tgt]
section MM
variable {T : hm_T}
theorem z_adds {ρ : Ru} (hr : rok ρ) {L : List Mv} {S : hm_S} (h : mlM L S) (hL : L.length < 31) (ht : tabM S T) (hu : ruM ρ S) {l p n k a b rest : Nat} (hl : l < 1215) (hp : p < 2) (hn : n ≤ 10) (hk : k ≤ 10) (hrest : rest < 1215) (he : lay rest = remF n (lay l)) (hc : cnt rest + a + b ≤ 10) {Q : hm_S → hm_T → Prop} (hq : ∀ S', fb S S' → mlM (L ++ [(0, n, k, a, b, 2 * rwi rest a b (bitN ρ.2.1 k) + p)]) S' → Q S' T) : wp_11_adds (nI (2 * xpi l + p)) (nI n) (nI k) (nI a) (nI b) S T Q := by
  unfold wp_11_adds
  have hob : ((S 0 4) >>> (nI k &&& 31)) &&& 1 = nI (bitN ρ.2.1 k) := by rw [hu.2.1]; exact shr_bit (by have := hr.2.1; omega) (by omega)
  simp only [u_7, u_8, u_9, u_10, u_11, hob, h.1, nI_clamp (show L.length < 2 ^ 31 by omega)]
  have v := vp_in_nI (n := L.length) (N := 64) (by omega) (by omega)
  refine ⟨v, v, v, v, v, ?_⟩
  have hA : fb S (A5 S L.length (nI 0) (nI n) (nI k) (nI a) (nI b)) := A5_fb S _ _ _ _ _ _
  refine z_turned (S := A5 S L.length (nI 0) (nI n) (nI k) (nI a) (nI b)) (hA.tab ht) hl hp (by omega) (bitN_lt _ _) hrest he hc (fun S' hw => ?_)
  have hlt := rwi_lt (l := rest) (sm := a) (gr := b) ⟨hrest, by omega⟩ (bitN_lt ρ.2.1 k)
  have h18 : S' 0 18 = nI L.length := by rw [hw.2 18 (by decide)]; exact h.1
  have hpm : 2 * xpi (rwi rest a b (bitN ρ.2.1 k)) + p = pM (2 * rwi rest a b (bitN ρ.2.1 k) + p) := by
    unfold pM
    rw [show (2 * rwi rest a b (bitN ρ.2.1 k) + p) / 2 = rwi rest a b (bitN ρ.2.1 k) by omega, show (2 * rwi rest a b (bitN ρ.2.1 k) + p) % 2 = p by omega]
  obtain ⟨g1, g2⟩ := mlM_add (f := 2 * rwi rest a b (bitN ρ.2.1 k) + p) h hw
  simp only [u_12, h18, nI_1]
  rw [hpm]
  exact ⟨v, hq _ g1 g2⟩
theorem dig_shr {n : Nat} (h : n < 8) : (nI n &&& 1 = 1 ↔ n % 2 = 1) ∧ ((nI n >>> (1 &&& 31)) &&& 1 = 1 ↔ n / 2 % 2 = 1) ∧ ((nI n >>> (2 &&& 31)) &&& 1 = 1 ↔ n / 4 % 2 = 1) := by
  have : ∀ n, n < 8 → ((nI n &&& 1 = 1 ↔ n % 2 = 1) ∧ ((nI n >>> (1 &&& 31)) &&& 1 = 1 ↔ n / 2 % 2 = 1) ∧ ((nI n >>> (2 &&& 31)) &&& 1 = 1 ↔ n / 4 % 2 = 1)) := by decide
  exact this n h
theorem tkS_none {ρ : Ru} {n rest p k : Nat} (h : ¬ ρ.1 k / 4 % 2 = 1) : ∀ c sm, 0 < sm → tkS ρ n rest p k c sm = [] := by
  intro c
  induction c with
  | zero => intro sm _; rfl
  | succ c ih =>
    intro sm hs
    simp only [tkS]
    rw [ih (sm + 1) (by omega)]
    have : alw ρ k n sm = false := by unfold alw; rw [if_pos hs]; simpa using h
    simp [this]
theorem z_tk4 {ρ : Ru} (hr : rok ρ) {l p n k rest : Nat} (hl : l < 1215) (hp : p < 2) (hk : 1 ≤ k) (hkn : k ≤ n) (hn : n ≤ 10) (hrest : rest < 1215) (he : lay rest = remF n (lay l)) (hc : cnt rest + n ≤ 10) {Q : hm_S → hm_T → Prop} {K2 : Int32 → Int32 → Int32 → hm_S → hm_T → Prop} : ∀ c a, a + c = (n - k) / 2 + 1 → 1 ≤ a → ∀ (L : List Mv) (S : hm_S), L.length + c ≤ 31 → tabM S T → ruM ρ S → mlM L S → (∀ S', fb S S' → mlM (L ++ tkS ρ n rest p k c a) S' → K2 (nI (2 * xpi l + p)) (nI n) (nI (k + 1)) S' T) → wl_11_takes_72 Q K2 (c + 1) (nI (2 * xpi l + p)) (nI n) (nI k) (nI a) S T := by
  intro c
  induction c with
  | zero =>
    intro a ha h1 L S hL ht hu hm h
    show wb_11_takes_72 Q K2 _ _ _ _ _ S T
    unfold wb_11_takes_72 wb_11_takes_117
    rw [pk_sub hkn, q_2, pk_mul, if_pos (nI_lt (by omega) (by omega)), nI_1]
    refine h S (fb.rf S) ?_
    simp only [tkS, List.append_nil]
    exact hm
  | succ c ih =>
    intro a ha h1 L S hL ht hu hm h
    show wb_11_takes_72 Q K2 _ _ _ _ _ S T
    unfold wb_11_takes_72 wb_11_takes_117
    obtain ⟨-, -, d4⟩ := dig_shr (hr.1 k)
    have hcond : ((S 4 (Int32.toNatClampNeg (nI k)) >>> (2 &&& 31)) &&& 1 = 1) ↔ ρ.1 k / 4 % 2 = 1 := by rw [nI_clamp (by omega), hu.1 k hk (by omega)]; exact d4
    rw [pk_sub hkn, if_neg (show ¬ nI (n - k) < 2 * nI a by rw [q_2, pk_mul]; exact nI_nlt (by omega) (by omega))]
    refine ⟨vp_in_nI (by omega) (by omega), ?_⟩
    by_cases hd : ρ.1 k / 4 % 2 = 1
    · rw [if_pos (hcond.mpr hd), pk_sub (by omega)]
      have hal : alw ρ k n a = true := by unfold alw; rw [if_pos (by omega)]; simpa using hd
      refine z_adds hr hm (by omega) ht hu hl hp hn (by omega) hrest he (by omega) (fun S' hf hm' => ?_)
      rw [nI_1]
      refine ih (a + 1) (by omega) (by omega) _ S' (by rw [List.length_append]; simp; omega) (hf.tab ht) (hf.ru hu) hm' (fun S'' hf' hm'' => ?_)
      refine h S'' (hf.tr hf') ?_
      simp only [tkS, if_pos hal]
      rw [← List.append_assoc]
      exact hm''
    · rw [if_neg (fun q => hd (hcond.mp q)), nI_1]
      refine h S (fb.rf S) ?_
      rw [tkS_none hd _ _ (by omega), List.append_nil]
      exact hm
theorem z_tkK {ρ : Ru} (hr : rok ρ) {l p n rest : Nat} (hl : l < 1215) (hp : p < 2) (hn : n ≤ 10) (hrest : rest < 1215) (he : lay rest = remF n (lay l)) (hc : cnt rest + n ≤ 10) {Q : hm_S → hm_T → Prop} : ∀ c k, k + c = n + 1 → 1 ≤ k → ∀ (L : List Mv) (S : hm_S), L.length + tkB n c k ≤ 31 → tabM S T → ruM ρ S → mlM L S → (∀ S', fb S S' → mlM (L ++ tkK ρ n rest p c k) S' → Q S' T) → wl_11_takes_2 Q (c + 1) (nI (2 * xpi l + p)) (nI n) (nI k) S T := by
  intro c
  induction c with
  | zero =>
    intro k hk h1 L S hL ht hu hm h
    show wb_11_takes_2 Q _ _ _ _ S T
    unfold wb_11_takes_2
    have fin : Q S T := by
      refine h S (fb.rf S) ?_
      simp only [tkK, List.append_nil]
      exact hm
    by_cases h10 : 10 < k
    · rw [if_pos (by rw [q_10]; exact nI_lt h10 (by omega))]; exact fin
    · rw [if_neg (by rw [q_10]; exact nI_nlt (by omega) (by omega)), if_pos (nI_lt (by omega) (by omega))]; exact fin
  | succ c ih =>
    intro k hk h1 L S hL ht hu hm h
    have hB : tkB n (c + 1) k = (n - k) / 2 + 1 + tkB n c (k + 1) := rfl
    have hkn : k ≤ n := by omega
    obtain ⟨d1, d2, -⟩ := dig_shr (hr.1 k)
    have hls := tkS_len ρ n rest p k ((n - k) / 2 + 1) 0
    -- the splits and what is behind them
    have tail : ∀ (L1 : List Mv) (S1 : hm_S), fb S S1 → mlM L1 S1 → L1.length ≤ L.length + 1 → L1 ++ tkS ρ n rest p k ((n - k) / 2) 1 = L ++ tkS ρ n rest p k ((n - k) / 2 + 1) 0 → wb_11_takes_69 Q (wl_11_takes_2 Q (c + 1)) (nI (2 * xpi l + p)) (nI n) (nI k) S1 T := by
      intro L1 S1 hf hm1 hL1 hE
      unfold wb_11_takes_69
      refine ⟨(n - k) / 2 + 1, z_tk4 hr hl hp h1 hkn hn hrest he hc _ 1 (by omega) (by omega) L1 S1 (by omega) (hf.tab ht) (hf.ru hu) hm1 (fun S2 hf2 hm2 => ?_)⟩
      rw [hE] at hm2
      refine ih (k + 1) (by omega) (by omega) _ S2 (by rw [List.length_append]; omega) ((hf.tr hf2).tab ht) ((hf.tr hf2).ru hu) hm2 (fun S3 hf3 hm3 => ?_)
      refine h S3 ((hf.tr hf2).tr hf3) ?_
      simp only [tkK]
      rw [← List.append_assoc]
      exact hm3
    have e0 : tkS ρ n rest p k ((n - k) / 2 + 1) 0 = (if alw ρ k n 0 then [tkM ρ n rest p k 0] else []) ++ tkS ρ n rest p k ((n - k) / 2) 1 := rfl
    have al0 : alw ρ k n 0 = if k = n then ρ.1 k % 2 == 1 else ρ.1 k / 2 % 2 == 1 := by unfold alw; rw [if_neg (Nat.lt_irrefl 0)]
    show wb_11_takes_2 Q _ _ _ _ S T
    unfold wb_11_takes_2
    rw [if_neg (by rw [q_10]; exact nI_nlt (by omega) (by omega)), if_neg (nI_nlt hkn (by omega)), nI_clamp (by omega), hu.1 k h1 (by omega)]
    by_cases hkn2 : k = n
    · rw [if_pos (by rw [hkn2])]
      refine ⟨vp_in_nI (by omega) (by omega), ?_⟩
      have t39 : ∀ (L1 : List Mv) (S1 : hm_S), fb S S1 → mlM L1 S1 → L1.length ≤ L.length + 1 → L1 ++ tkS ρ n rest p k ((n - k) / 2) 1 = L ++ tkS ρ n rest p k ((n - k) / 2 + 1) 0 → wb_11_takes_39 Q (wl_11_takes_2 Q (c + 1)) (nI (2 * xpi l + p)) (nI n) (nI k) S1 T := by
        intro L1 S1 hf hm1 hL1 hE
        unfold wb_11_takes_39
        rw [if_pos (nI_le (by omega) (by omega))]
        exact tail L1 S1 hf hm1 hL1 hE
      by_cases hd : ρ.1 k % 2 = 1
      · rw [if_pos (d1.mpr hd), q_0]
        refine z_adds hr hm (by omega) ht hu hl hp hn (by omega) hrest he (by omega) (fun S' hf hm' => ?_)
        refine t39 _ S' hf hm' (by rw [List.length_append]; simp) ?_
        rw [e0, al0, if_pos hkn2, if_pos (by simpa using hd), List.append_assoc]
        unfold tkM
        rw [show n - k - 0 = 0 by omega]
      · rw [if_neg (fun q => hd (d1.mp q))]
        refine t39 L S (fb.rf S) hm (by omega) ?_
        rw [e0, al0, if_pos hkn2, if_neg (by simpa using hd), List.nil_append]
    · rw [if_neg (by rw [nI_eq (by omega) (by omega)]; omega)]
      unfold wb_11_takes_39
      rw [if_neg (nI_ge (by omega) (by omega)), nI_clamp (by omega), hu.1 k h1 (by omega)]
      refine ⟨vp_in_nI (by omega) (by omega), ?_⟩
      by_cases hd : ρ.1 k / 2 % 2 = 1
      · rw [if_pos (d2.mpr hd), pk_sub hkn, q_0]
        refine z_adds hr hm (by omega) ht hu hl hp hn (by omega) hrest he (by omega) (fun S' hf hm' => ?_)
        refine tail _ S' hf hm' (by rw [List.length_append]; simp) ?_
        rw [e0, al0, if_neg hkn2, if_pos (by simpa using hd), List.append_assoc]
        unfold tkM
        rw [Nat.sub_zero]
      · rw [if_neg (fun q => hd (d2.mp q))]
        refine tail L S (fb.rf S) hm (by omega) ?_
        rw [e0, al0, if_neg hkn2, if_neg (by simpa using hd), List.nil_append]
end MM
