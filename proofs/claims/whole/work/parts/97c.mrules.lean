/-! ===== a text read as rules, the reference ===== -/
def wvF : List Nat → Nat → Nat
  | [], v => v
  | c :: l, v => wvF l (if 100000000000 < v then v else 27 * v + c - 96)
def pvF : List Nat → Nat → Nat
  | [], v => v
  | c :: l, v => pvF l (27 * v + c - 96)
theorem wv_big : ∀ (l : List Nat) v, 100000000000 < v → wvF l v = v := by
  intro l
  induction l with
  | nil => intro v _; rfl
  | cons c l ih => intro v h; simp only [wvF, if_pos h]; exact ih v h
theorem wv_pv : ∀ (l : List Nat) v, wvF l v ≤ 100000000000 → wvF l v = pvF l v := by
  intro l
  induction l with
  | nil => intro v _; rfl
  | cons c l ih =>
    intro v h
    by_cases q : 100000000000 < v
    · rw [wv_big (c :: l) v q] at h; omega
    · simp only [wvF, if_neg q] at h ⊢
      simp only [pvF]
      exact ih _ h
def rvF : List Nat → Nat
  | [] => 0
  | c :: l => 27 * rvF l + c - 96
def sm2 (l : List Nat) : Prop := ∀ c ∈ l, 97 ≤ c ∧ c ≤ 122
theorem rv_inj : ∀ (l m : List Nat), sm2 l → sm2 m → rvF l = rvF m → l = m := by
  intro l
  induction l with
  | nil =>
    intro m _ hm h
    cases m with
    | nil => rfl
    | cons d m =>
      have := hm d (List.mem_cons_self)
      simp only [rvF] at h
      omega
  | cons c l ih =>
    intro m hl hm h
    have hc := hl c (List.mem_cons_self)
    cases m with
    | nil => simp only [rvF] at h; omega
    | cons d m =>
      have hd := hm d (List.mem_cons_self)
      simp only [rvF] at h
      have e1 : c = d := by omega
      have e2 : rvF l = rvF m := by omega
      rw [e1, ih m (fun x hx => hl x (List.mem_cons_of_mem _ hx)) (fun x hx => hm x (List.mem_cons_of_mem _ hx)) e2]
theorem pv_rv : ∀ (l : List Nat) (r : List Nat), pvF l (rvF r) = rvF (l.reverse ++ r) := by
  intro l
  induction l with
  | nil => intro r; rfl
  | cons c l ih =>
    intro r
    simp only [pvF]
    rw [show 27 * rvF r + c - 96 = rvF (c :: r) from rfl, ih (c :: r), List.reverse_cons, List.append_assoc]
    rfl
theorem wv_iff {w : List Nat} (hw : sm2 w) {j : Nat} : wvF w 0 = wvF (nmW j) 0 ↔ w = nmW j := by
  refine ⟨fun h => ?_, fun h => by rw [h]⟩
  have hj : wvF (nmW j) 0 ≤ 100000000000 ∧ sm2 (nmW j) := by
    unfold nmW
    by_cases h1 : j = 0
    · rw [if_pos h1]; exact ⟨by decide, by unfold sm2; decide⟩
    · rw [if_neg h1]
      by_cases h2 : j = 2
      · rw [if_pos h2]; exact ⟨by decide, by unfold sm2; decide⟩
      · rw [if_neg h2]
        by_cases h3 : j = 4
        · rw [if_pos h3]; exact ⟨by decide, by unfold sm2; decide⟩
        · rw [if_neg h3]; exact ⟨by decide, by unfold sm2; decide⟩
  have e1 := wv_pv (nmW j) 0 hj.1
  have e2 := wv_pv w 0 (by rw [h]; exact hj.1)
  have e3 : pvF w 0 = rvF (w.reverse ++ []) := pv_rv w []
  have e4 : pvF (nmW j) 0 = rvF ((nmW j).reverse ++ []) := pv_rv (nmW j) []
  rw [List.append_nil] at e3 e4
  have e5 : rvF w.reverse = rvF (nmW j).reverse := by omega
  have e6 := rv_inj _ _ (fun c hc => hw c (List.mem_reverse.mp hc)) (fun c hc => hj.2 c (List.mem_reverse.mp hc)) e5
  have := congrArg List.reverse e6
  rwa [List.reverse_reverse, List.reverse_reverse] at this
theorem slc_c {tx : List Nat} (hx : ∀ c ∈ tx, c < 128) {r e : Nat} (hr : r < e) (he : e ≤ tx.length) : slc tx r e = ca tx r :: slc tx (r + 1) e := by
  apply List.ext_getElem?
  intro k
  cases k with
  | zero => rw [slc_at hx (by omega) he]; rfl
  | succ k =>
    rw [List.getElem?_cons_succ]
    rcases Nat.lt_or_ge (r + (k + 1)) e with w | w
    · rw [slc_at hx w he, slc_at hx (by omega) he, show r + 1 + k = r + (k + 1) by omega]
    · rw [List.getElem?_eq_none (by rw [slc_len (by omega) he]; omega), List.getElem?_eq_none (by rw [slc_len (by omega) he]; omega)]
theorem slc_0 {tx : List Nat} {r : Nat} : slc tx r r = [] := by unfold slc; rw [Nat.sub_self, List.take_zero]
theorem slc_sm {tx : List Nat} (hx : ∀ c ∈ tx, c < 128) : ∀ f r, r + f = tx.length → sm2 (slc tx r (wd tx r)) := by
  intro f
  induction f with
  | zero => intro r hr; rw [wd_n (by rw [ca_out (by omega)]; omega), slc_0]; exact fun c hc => absurd hc (by simp)
  | succ f ih =>
    intro r hr
    by_cases e : 97 ≤ ca tx r ∧ ca tx r ≤ 122
    · have hb := wd_b (tx := tx) (p := r + 1) (by omega)
      rw [wd_y e, slc_c hx (by omega) hb.2]
      intro c hc
      rcases List.mem_cons.mp hc with k | k
      · rw [k]; exact e
      · exact ih (r + 1) (by omega) c k
    · rw [wd_n e, slc_0]; exact fun c hc => absurd hc (by simp)
def DZ (l : List Nat) (S : hm_S) : Prop := ∀ k, 1 ≤ k → k ≤ 10 → S 18 k = nI (dgF l k)
theorem DZ.app {l : List Nat} {S : hm_S} (h : DZ l S) (d : Nat) : DZ (l ++ [d]) (hm_up S 18 (l.length + 1) (nI d)) := by
  intro k h1 h2
  rw [dgF_app]
  by_cases e : k = l.length + 1
  · rw [if_pos e, e, hm_up_same]
  · rw [if_neg e, hm_up_col _ _ e]; exact h k h1 h2
theorem DZ.fr {c l : List Nat} {S S' : hm_S} (h : DZ l S) (hf : fr c S S') (hc : 18 ∉ c) : DZ l S' := by
  unfold DZ
  rw [hf 18 hc]
  exact h
/-- the frame of reading rules -/
def fR (S S' : hm_S) : Prop := fr [0, 18] S S' ∧ ∀ k, k ≠ 26 → k ≠ 27 → S' 0 k = S 0 k
theorem fR.rf (S : hm_S) : fR S S := ⟨fr.rf _ S, fun _ _ _ => rfl⟩
theorem fR.tr {S S' S'' : hm_S} (h : fR S S') (h' : fR S' S'') : fR S S'' := ⟨h.1.tr h'.1, fun k a b => (h'.2 k a b).trans (h.2 k a b)⟩
theorem fz.fR {S S' : hm_S} (h : fz S S') : fR S S' := ⟨h.1.mono (by decide), fun k a _ => h.2 k a⟩
theorem fR.u18 (S : hm_S) (k : Nat) (v : Int32) : fR S (hm_up S 18 k v) := ⟨fr.up _ _ _ (by decide), fun j _ _ => by rw [hm_up_row _ _ _ (by decide)]⟩
theorem fR.tm {tx : List Nat} {S S' : hm_S} (h : fR S S') (ht : TM tx S) : TM tx S' := ht.fr0 h.1 (by decide) (h.2 25 (by decide) (by decide))
theorem CZ.u18 {tx : List Nat} {p : Nat} {S : hm_S} (h : CZ tx p S) (k : Nat) (v : Int32) : CZ tx p (hm_up S 18 k v) := ⟨(fR.u18 S k v).tm h.1, by rw [hm_up_row _ _ _ (by decide)]; exact h.2.1, h.2.2⟩
theorem lq_0 : (0 : Int64) = lN 0 := rfl
theorem lq_27 : (27 : Int64) = lN 27 := rfl
theorem lq_97 : (97 : Int64) = lN 97 := rfl
theorem lq_big : (100000000000 : Int64) = lN 100000000000 := rfl
section RZ
variable {T : hm_T}
theorem z_word0 {S : hm_S} {Q : Int64 → hm_S → hm_T → Prop} : wp_11_word 110 105 109 0 0 0 S T Q ↔ Q (lN (wvF (nmW 0) 0)) S T := by
  unfold wp_11_word wb_11_word_19 wb_11_word_45 wb_11_word_71 wb_11_word_97 wb_11_word_125
  rw [if_neg (by decide), if_neg (by decide), if_neg (by decide), if_pos (by decide), if_pos (by decide), if_pos (by decide)]
  exact Iff.of_eq (congrArg (fun z => Q z S T) (by decide +kernel))
theorem z_word2 {S : hm_S} {Q : Int64 → hm_S → hm_T → Prop} : wp_11_word 107 97 121 108 101 115 S T Q ↔ Q (lN (wvF (nmW 2) 0)) S T := by
  unfold wp_11_word wb_11_word_19 wb_11_word_45 wb_11_word_71 wb_11_word_97 wb_11_word_125
  rw [if_neg (by decide), if_neg (by decide), if_neg (by decide), if_neg (by decide), if_neg (by decide), if_neg (by decide)]
  exact Iff.of_eq (congrArg (fun z => Q z S T) (by decide +kernel))
theorem z_word4 {S : hm_S} {Q : Int64 → hm_S → hm_T → Prop} : wp_11_word 100 97 119 115 111 110 S T Q ↔ Q (lN (wvF (nmW 4) 0)) S T := by
  unfold wp_11_word wb_11_word_19 wb_11_word_45 wb_11_word_71 wb_11_word_97 wb_11_word_125
  rw [if_neg (by decide), if_neg (by decide), if_neg (by decide), if_neg (by decide), if_neg (by decide), if_neg (by decide)]
  exact Iff.of_eq (congrArg (fun z => Q z S T) (by decide +kernel))
theorem z_word6 {S : hm_S} {Q : Int64 → hm_S → hm_T → Prop} : wp_11_word 103 117 105 108 101 115 S T Q ↔ Q (lN (wvF (nmW 6) 0)) S T := by
  unfold wp_11_word wb_11_word_19 wb_11_word_45 wb_11_word_71 wb_11_word_97 wb_11_word_125
  rw [if_neg (by decide), if_neg (by decide), if_neg (by decide), if_neg (by decide), if_neg (by decide), if_neg (by decide)]
  exact Iff.of_eq (congrArg (fun z => Q z S T) (by decide +kernel))
theorem z_readsWord {tx : List Nat} (hx : ∀ c ∈ tx, c < 128) {p : Nat} {S : hm_S} (hc : CZ tx p S) {Q : Int64 → hm_S → hm_T → Prop} (h : ∀ S', fz S S' → CZ tx (wd tx p) S' → wvF (slc tx p (wd tx p)) 0 < 4398046511104 → Q (lN (wvF (slc tx p (wd tx p)) 0)) S' T) : wp_11_readsWord S T Q := by
  have hl := hc.1.2.1
  have key : ∀ f r v S1, r + f = tx.length → wd tx r = wd tx p → wvF (slc tx r (wd tx r)) v = wvF (slc tx p (wd tx p)) 0 → v < 4398046511104 → fz S S1 → CZ tx r S1 → wl_11_readsWord_2 Q (f + 1) (lN v) S1 T := by
    intro f
    induction f with
    | zero =>
      intro r v S1 hr hw hv hvb f1 c1
      show wb_11_readsWord_2 Q _ _ S1 T
      unfold wb_11_readsWord_2
      have e : ¬ (97 ≤ ca tx r ∧ ca tx r ≤ 122) := by rw [ca_out (by omega)]; omega
      rw [z_byte hx c1, q_97, q_122, z_inC (ca_le hx r) (by omega) (by omega), if_neg e, if_pos rfl]
      rw [wd_n e] at hw
      rw [hw] at hv c1
      have e2 : wd tx (wd tx p) = wd tx p := by rw [← hw, wd_n e]
      rw [e2, slc_0] at hv
      have hv : v = wvF (slc tx p (wd tx p)) 0 := hv
      rw [hv]
      exact h S1 f1 c1 (by rw [← hv]; exact hvb)
    | succ f ih =>
      intro r v S1 hr hw hv hvb f1 c1
      show wb_11_readsWord_2 Q _ _ S1 T
      unfold wb_11_readsWord_2 wb_11_readsWord_53
      rw [z_byte hx c1, q_97, q_122, z_inC (ca_le hx r) (by omega) (by omega)]
      by_cases e : 97 ≤ ca tx r ∧ ca tx r ≤ 122
      · rw [if_pos e, if_neg (by decide), z_byte hx c1, cI_s (by omega), c1.2.1, nI_1]
        have hb := wd_b (tx := tx) (p := r + 1) (by omega)
        have hwy := wd_y e
        rw [hwy, slc_c hx (by omega) hb.2] at hv
        simp only [wvF] at hv
        rw [hwy] at hw
        have ec : (lg_cmp (lN v) 100000000000 ≤ 0) ↔ v ≤ 100000000000 := by
          rw [lg_cmp_le, lq_big, pk_lLE (by omega) (by omega)]
        by_cases g : v ≤ 100000000000
        · rw [if_pos (ec.mpr g), lq_27, lN_mul, n_i64 (by omega), lN_add, lq_97, lN_sub (by omega), lN_1]
          rw [if_neg (by omega)] at hv
          have nx := ih (r + 1) (27 * v + ca tx r - 97 + 1) (hm_up S1 0 26 (nI (r + 1))) (by omega) hw (by rw [← hv]; congr 1; omega) (by omega) (f1.tr (fz.up S1 _)) (CZ.up c1.1 (by omega))
          exact nx
        · rw [if_neg (fun q => g (ec.mp q))]
          rw [if_pos (by omega)] at hv
          exact ih (r + 1) v (hm_up S1 0 26 (nI (r + 1))) (by omega) hw hv hvb (f1.tr (fz.up S1 _)) (CZ.up c1.1 (by omega))
      · rw [if_neg e, if_pos rfl]
        rw [wd_n e] at hw
        rw [hw] at hv c1
        have e2 : wd tx (wd tx p) = wd tx p := by rw [← hw, wd_n e]
        rw [e2, slc_0] at hv
        have hv : v = wvF (slc tx p (wd tx p)) 0 := hv
        rw [hv]
        exact h S1 f1 c1 (by rw [← hv]; exact hvb)
  unfold wp_11_readsWord
  rw [lq_0]
  exact ⟨_, key (tx.length - p) p 0 S (by have := hc.2.2; omega) rfl rfl (by omega) (fz.rf S) hc⟩
theorem z_nim {S0 : hm_S} {Q : hm_S → hm_T → Prop} (h : ∀ S, fR S0 S → (∀ p tx, CZ tx p S0 → CZ tx p S) → S 0 27 = S0 0 27 → DZ (dgJ 1) S → Q S T) : ∀ c i S, i + c = 10 → fR S0 S → (∀ p tx, CZ tx p S0 → CZ tx p S) → S 0 27 = S0 0 27 → (∀ j, 1 ≤ j → j ≤ i → S 18 j = 3) → wl_11_readsName_30 Q (c + 1) (nI (i + 1)) S T := by
  intro c
  induction c with
  | zero =>
    intro i S hi hf hz e27 hd
    show wb_11_readsName_30 Q _ _ S T
    unfold wb_11_readsName_30 wb_11_readsName_51
    rw [q_11, if_pos (nI_le (by omega) (by omega))]
    refine h S hf hz e27 (fun k h1 h2 => ?_)
    rw [hd k h1 (by omega)]
    have : ∀ k, k < 11 → 1 ≤ k → (3 : Int32) = nI (dgF (dgJ 1) k) := by decide
    exact this k (by omega) h1
  | succ c ih =>
    intro i S hi hf hz e27 hd
    show wb_11_readsName_30 Q _ _ S T
    unfold wb_11_readsName_30
    rw [q_11, if_neg (nI_ge (by omega) (by omega)), nI_clamp (show i + 1 < 2 ^ 31 by omega), nI_1 (i + 1)]
    refine ⟨vp_in_nI (by omega) (by omega), ih (i + 1) _ (by omega) (hf.tr (fR.u18 S _ _)) (fun p tx q => (hz p tx q).u18 _ _) (by rw [hm_up_row _ _ _ (by decide)]; exact e27) (fun j h1 h2 => ?_)⟩
    by_cases w : j = i + 1
    · rw [w, hm_up_same]
    · rw [hm_up_col _ _ w]; exact hd j h1 (by omega)
theorem z_readsName {tx : List Nat} (hx : ∀ c ∈ tx, c < 128) {p : Nat} {S : hm_S} (hc : CZ tx p S) (hd : DZ [] S) (h27 : S 0 27 = -1) {Q : hm_S → hm_T → Prop} (h : ∀ S', fR S S' → CZ tx (wd tx p) S' → DZ (dgJ (nmJ (slc tx p (wd tx p)))) S' → S' 0 27 = (if nmJ (slc tx p (wd tx p)) = 8 then nI p else -1) → Q S' T) : wp_11_readsName S T Q := by
  have hl := hc.1.2.1
  have hp := hc.2.2
  have hsm := slc_sm hx (tx.length - p) p (by omega)
  unfold wp_11_readsName
  refine z_readsWord hx hc (fun S1 f1 c1 hV => ?_)
  have e27 : S1 0 27 = -1 := by rw [f1.2 27 (by decide)]; exact h27
  have d1 : DZ [] S1 := hd.fr f1.1 (by decide)
  have e26 : S 0 26 = nI p := hc.2.1
  have cmp : ∀ j, (lg_cmp (lN (wvF (slc tx p (wd tx p)) 0)) (lN (wvF (nmW j) 0)) = 0) ↔ slc tx p (wd tx p) = nmW j := by
    intro j
    have hb : wvF (nmW j) 0 < 2 ^ 63 := by
      unfold nmW
      by_cases h1 : j = 0
      · rw [if_pos h1]; decide
      · rw [if_neg h1]
        by_cases h2 : j = 2
        · rw [if_pos h2]; decide
        · rw [if_neg h2]
          by_cases h3 : j = 4
          · rw [if_pos h3]; decide
          · rw [if_neg h3]; decide
    rw [lg_cmp_eq, pk_lEQ (by omega) hb, wv_iff hsm]
  have k1 : Int32.toNatClampNeg 1 = 1 := by decide
  have k2 : Int32.toNatClampNeg 2 = 2 := by decide
  have k3 : Int32.toNatClampNeg 3 = 3 := by decide
  have v1 : vp_in 1 11 := vp_in_nI (n := 1) (by omega) (by omega)
  have v2 : vp_in 2 11 := vp_in_nI (n := 2) (by omega) (by omega)
  have v3 : vp_in 3 11 := vp_in_nI (n := 3) (by omega) (by omega)
  rw [z_word0]
  unfold nmJ at h
  by_cases w0 : slc tx p (wd tx p) = nmW 0
  · rw [if_pos w0, if_neg (show ¬ (1 : Nat) = 8 by omega)] at h
    rw [if_pos ((cmp 0).mpr w0), q_1]
    exact ⟨_, z_nim (S0 := S1) (fun S2 f2 z2 e2 d2 => h S2 (f1.fR.tr f2) (z2 _ _ c1) d2 (by rw [e2, e27])) 10 0 S1 (by omega) (fR.rf S1) (fun _ _ q => q) rfl (fun j h1 h2 => absurd h2 (by omega))⟩
  · rw [if_neg w0] at h
    rw [if_neg (fun q => w0 ((cmp 0).mp q)), z_word2]
    by_cases w2 : slc tx p (wd tx p) = nmW 2
    · rw [if_pos w2, if_neg (show ¬ (3 : Nat) = 8 by omega)] at h
      rw [if_pos ((cmp 2).mpr w2), k1, k2]
      refine ⟨v1, v2, h _ (f1.fR.tr ((fR.u18 _ _ _).tr (fR.u18 _ _ _))) ((c1.u18 _ _).u18 _ _) (DZ.app (l := [7]) (DZ.app (l := []) d1 7) 7) ?_⟩
      rw [hm_up_row _ _ _ (by decide), hm_up_row _ _ _ (by decide), e27]
    · rw [if_neg w2] at h
      rw [if_neg (fun q => w2 ((cmp 2).mp q)), z_word4]
      by_cases w4 : slc tx p (wd tx p) = nmW 4
      · rw [if_pos w4, if_neg (show ¬ (5 : Nat) = 8 by omega)] at h
        rw [if_pos ((cmp 4).mpr w4), k1, k2, k3]
        refine ⟨v1, v2, v3, h _ (f1.fR.tr (((fR.u18 _ _ _).tr (fR.u18 _ _ _)).tr (fR.u18 _ _ _))) (((c1.u18 _ _).u18 _ _).u18 _ _) (DZ.app (l := [1, 3]) (DZ.app (l := [1]) (DZ.app (l := []) d1 1) 3) 7) ?_⟩
        rw [hm_up_row _ _ _ (by decide), hm_up_row _ _ _ (by decide), hm_up_row _ _ _ (by decide), e27]
      · rw [if_neg w4] at h
        rw [if_neg (fun q => w4 ((cmp 4).mp q)), z_word6]
        by_cases w6 : slc tx p (wd tx p) = nmW 6
        · rw [if_pos w6, if_neg (show ¬ (7 : Nat) = 8 by omega)] at h
          rw [if_pos ((cmp 6).mpr w6), k1, k2]
          refine ⟨v1, v2, h _ (f1.fR.tr ((fR.u18 _ _ _).tr (fR.u18 _ _ _))) ((c1.u18 _ _).u18 _ _) (DZ.app (l := [1]) (DZ.app (l := []) d1 1) 5) ?_⟩
          rw [hm_up_row _ _ _ (by decide), hm_up_row _ _ _ (by decide), e27]
        · rw [if_neg w6, if_pos rfl] at h
          rw [if_neg (fun q => w6 ((cmp 6).mp q)), e26]
          refine z_fails (fun S2 f2 j2 e2 _ => ?_)
          refine h S2 (f1.fR.tr ⟨f2.mono (by decide), fun k _ b => j2 k b⟩) ⟨c1.1.fr0 f2 (by decide) (j2 25 (by decide)), by rw [j2 26 (by decide)]; exact c1.2.1, c1.2.2⟩ (d1.fr f2 (by decide)) (e2 e27)
end RZ
