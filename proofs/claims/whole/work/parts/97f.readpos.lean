/-! ===== readPosition: the class, and the reference's heaps ===== -/
def r_readPosition (s : Sp) : Int32 × Sp := if (rdP s.2.1).1 = -1 then (nI (len (rdP s.2.1).2.1), (s.1, [], 2 * (rdP s.2.1).2.1 + (rdP s.2.1).2.2, rec s.2.2.1 s.2.2.2)) else (-2000 - (rdP s.2.1).1, s)
theorem ok_readPosition {s : Sp} (h40 : s.2.1.length ≤ 40) (ho : okS s) : okS (r_readPosition s).2 := by
  unfold r_readPosition
  by_cases e : (rdP s.2.1).1 = -1
  · rw [if_pos e]
    have r := rdP_ok h40
    refine ⟨ho.1, fun c hc => absurd hc (by simp), ?_, rec_ok ho.2.2.1 ho.2.2.2⟩
    show 2 * (rdP s.2.1).2.1 + (rdP s.2.1).2.2 < 2430
    omega
  · rw [if_neg e]; exact ho
section RPX
variable {T : hm_T}
theorem X_readPosition {s : Sp} (ho : okS s) {S : hm_S} (hI : IX s S) {Q : Int32 → hm_S → hm_T → Prop} (h : ∀ S', IX (r_readPosition s).2 S' → Q (r_readPosition s).1 S' T) : wp_10_readPosition S T Q := by
  obtain ⟨ρ, tx, q, hs⟩ := s
  have htx : TX tx S := hI.2.2.2.1
  have h40 := htx.2.1
  have rk := rdP_ok h40
  unfold wp_10_readPosition
  refine x_rdP ho.2.1 hI.1.tab htx (fun S1 f1 t1 d1 => ?_)
  have hr : r_readPosition (ρ, tx, q, hs) = if (rdP tx).1 = -1 then (nI (len (rdP tx).2.1), (ρ, [], 2 * (rdP tx).2.1 + (rdP tx).2.2, rec q hs)) else (-2000 - (rdP tx).1, (ρ, tx, q, hs)) := rfl
  rw [hr] at h
  have hI1 : IX (ρ, tx, q, hs) S1 := ⟨hI.1.fr f1 (by decide), by rw [f1 0 (by decide)]; exact hI.2.1, hI.2.2.1.fr f1 (by decide), t1, hI.2.2.2.2.fr f1 (by decide)⟩
  by_cases e : (rdP tx).1 = -1
  · rw [if_pos e] at h
    rw [if_pos (show (rdP (ρ, tx, q, hs).2.1).1 = -1 from e)]
    obtain ⟨e1, e2⟩ := d1 e
    unfold wp_4_position
    rw [e1, e2, e_positionOf]
    refine x_goTo hI1.2.2.1 hI1.2.1 (fun S2 f2 k2 e2 h2 => ?_)
    unfold wp_9_clear
    have f3 : fr [64] S2 (hm_up S2 64 1 0) := fr.up _ _ _ (by decide)
    have e9 : hm_up S2 64 1 0 0 9 = nI (2 * (rdP tx).2.1 + (rdP tx).2.2) := by rw [f3 0 (by decide)]; exact e2
    have s3 : SV ρ (hm_up S2 64 1 0) := (hI1.1.fr f2 (by decide)).fr f3 (by decide)
    dsimp only
    rw [e9, e_layoutOf (by omega), show (2 * (rdP tx).2.1 + (rdP tx).2.2) / 2 = (rdP tx).2.1 by omega, x_heapsOf s3.tab rk.1]
    exact h _ ⟨s3, e9, h2.fr f3 (by decide), ⟨hm_up_same _ _ _ _, by simp, fun i c hc => absurd hc (by simp)⟩, (hI1.2.2.2.2.fr f2 (by decide)).fr f3 (by decide)⟩
  · rw [if_neg e] at h
    rw [if_neg (show ¬ (rdP (ρ, tx, q, hs).2.1).1 = -1 from e)]
    exact h S1 hI1
end RPX
/-- the frame of reading a heap -/
def fH (S S' : hm_S) : Prop := fr [0, 6] S S' ∧ ∀ k, k ≠ 11 → k ≠ 26 → k ≠ 27 → S' 0 k = S 0 k
theorem fH.rf (S : hm_S) : fH S S := ⟨fr.rf _ S, fun _ _ _ _ => rfl⟩
theorem fH.tr {S S' S'' : hm_S} (h : fH S S') (h' : fH S' S'') : fH S S'' := ⟨h.1.tr h'.1, fun k a b c => (h'.2 k a b c).trans (h.2 k a b c)⟩
theorem fz.fH {S S' : hm_S} (h : fz S S') : fH S S' := ⟨h.1.mono (by decide), fun k _ b _ => h.2 k b⟩
theorem mw.fH {S S' : hm_S} (h : mw S S') : fH S S' := ⟨h.fr, fun k a _ _ => h.2 k a⟩
theorem fz.mdk {S S' : hm_S} {a : List Nat} (h : fz S S') (hm : md S a) : md S' a := by
  unfold md
  rw [h.2 11 (by decide), h.1 6 (by decide)]
  exact hm
theorem mw.cz {tx : List Nat} {p : Nat} {S S' : hm_S} (h : mw S S') (hc : CZ tx p S) : CZ tx p S' := ⟨hc.1.fr0 h.fr (by decide) (h.2 25 (by decide)), by rw [h.2 26 (by decide)]; exact hc.2.1, hc.2.2⟩
section RPZ
variable {T : hm_T}
theorem z_failsF {tx : List Nat} {p : Nat} {S : hm_S} (hc : CZ tx p S) {x : Int32} {Q : hm_S → hm_T → Prop} (h : ∀ S', fH S S' → fr [0] S S' → CZ tx p S' → (∀ a, md S a → md S' a) → (S 0 27 = -1 → S' 0 27 = x) → (S 0 27 ≠ -1 → S' 0 27 = S 0 27) → Q S' T) : wp_11_fails x S T Q := by
  refine z_fails (fun S2 f2 j2 e2 e3 => h S2 ⟨f2.mono (by decide), fun k _ _ c => j2 k c⟩ f2 ⟨hc.1.fr0 f2 (by decide) (j2 25 (by decide)), by rw [j2 26 (by decide)]; exact hc.2.1, hc.2.2⟩ (fun a hm => ?_) e2 e3)
  unfold md
  rw [j2 11 (by decide), f2 6 (by decide)]
  exact hm
/-- a fault stands: nothing more happens -/
theorem z_heap93b {tx : List Nat} (hx : ∀ c ∈ tx, c < 128) {e : Nat} {S : hm_S} (hc : CZ tx e S) {x : Int32} (h27 : S 0 27 ≠ -1) {Q : hm_S → hm_T → Prop} (h : ∀ S' e', fH S S' → CZ tx e' S' → S' 0 27 = S 0 27 → Q S' T) : wb_11_readsHeap_93 Q x S T := by
  have t119 : ∀ S1 e1, fH S S1 → CZ tx e1 S1 → S1 0 27 = S 0 27 → wb_11_readsHeap_119 Q x S1 T := by
    intro S1 e1 f1 c1 k1
    unfold wb_11_readsHeap_119 wb_11_readsHeap_162
    refine z_skips hx c1 (fun S2 f2 c2 => ?_)
    have k2 : S2 0 27 = S 0 27 := by rw [f2.2 27 (by decide)]; exact k1
    rw [if_neg (by rw [k2]; exact h27), if_neg (by rw [k2]; exact h27)]
    exact h S2 _ (f1.tr f2.fH) c2 k2
  unfold wb_11_readsHeap_93
  rw [z_byte hx hc, q_48, q_57, z_inC (ca_le hx e) (by omega) (by omega)]
  by_cases w : 48 ≤ ca tx e ∧ ca tx e ≤ 57
  · rw [if_pos w, if_neg (by decide)]
    exact z_failsF hc (fun S1 f1 _ c1 _ _ e3 => t119 S1 e f1 c1 (e3 h27))
  · rw [if_neg w, if_pos rfl]
    exact t119 S e (fH.rf S) hc rfl
theorem z_heap93g {tx : List Nat} (hx : ∀ c ∈ tx, c < 128) {p l : Nat} (hl : l < 1215) (hok : hOK tx p l) {S : hm_S} (hc : CZ tx (hdE tx p) S) (hm : md S ((lay l).map (· + 2))) (h27 : S 0 27 = -1) {Q : hm_S → hm_T → Prop} (hthr : isD (ca tx (hdE tx p)) → ∀ S' e', fH S S' → CZ tx e' S' → ca tx e' ≠ 43 → S' 0 27 = nI (hdE tx p) → Q S' T) (h : ¬ isD (ca tx (hdE tx p)) → ∀ S', fH S S' → CZ tx (hdN tx p) S' → md S' ((lay (hdL tx p l)).map (· + 2)) → S' 0 27 = -1 → Q S' T) : wb_11_readsHeap_93 Q (nI (hdV tx p)) S T := by
  obtain ⟨a, b, c, d, e⟩ := hdL_ok hl hok
  have hcn := (tq_cnt hl).1
  have hv := hok.2
  have h40 := hc.1.2.1
  have he := hc.2.2
  unfold wb_11_readsHeap_93
  rw [z_byte hx hc, q_48, q_57, z_inC (ca_le hx _) (by omega) (by omega)]
  by_cases w : 48 ≤ ca tx (hdE tx p) ∧ ca tx (hdE tx p) ≤ 57
  · rw [if_pos w, if_neg (by decide), hc.2.1]
    refine z_failsF hc (fun S1 f1 _ c1 _ e2 _ => ?_)
    have k1 := e2 h27
    have ne : nI (hdE tx p) ≠ -1 := nI_ne1 (by omega)
    unfold wb_11_readsHeap_119 wb_11_readsHeap_162
    refine z_skips hx c1 (fun S2 f2 c2 => ?_)
    have k2 : S2 0 27 = nI (hdE tx p) := by rw [f2.2 27 (by decide)]; exact k1
    rw [if_neg (by rw [k2]; exact ne), if_neg (by rw [k2]; exact ne)]
    refine hthr w S2 _ (f1.tr f2.fH) c2 ?_ k2
    rw [sk_n (by omega)]
    omega
  · rw [if_neg w, if_pos rfl]
    unfold wb_11_readsHeap_119
    refine z_skips hx hc (fun S1 f1 c1 => ?_)
    have k1 : S1 0 27 = -1 := by rw [f1.2 27 (by decide)]; exact h27
    have put : ∀ b' S2, b' = hdB tx p → fz S1 S2 → CZ tx (hdN tx p) S2 → wb_11_readsHeap_162 Q (nI (hdV tx p)) (nI b') S2 T := by
      intro b' S2 eb f2 c2
      have m2 : md S2 ((lay l).map (· + 2)) := f2.mdk (f1.mdk hm)
      have k2 : S2 0 27 = -1 := by rw [f2.2 27 (by decide)]; exact k1
      unfold wb_11_readsHeap_162
      rw [if_pos k2, q_2, pk_mul, nI_add, eb]
      refine z_puts m2 (by rw [List.length_map]; exact (tq_cnt hl).2) (srt_map2 (tq_srt hl)) (by have := hdB_lt tx p; omega) (fun y hy => Nat.lt_of_lt_of_le (map2_lt (fun z hz => tq_small hl hz) y hy) (by omega)) (fun S3 hw3 hm3 => ?_)
      rw [show 2 * hdV tx p + hdB tx p = 2 * (hdV tx p - 1) + hdB tx p + 2 by omega, insL_map, ← e] at hm3
      exact h w S3 ((f1.fH.tr f2.fH).tr hw3.fH) (hw3.cz c2) hm3 (by rw [hw3.2 27 (by decide)]; exact k2)
    rw [if_pos k1, z_byte hx c1, q_33]
    by_cases g : ca tx (sk tx (hdE tx p)) = 33
    · have h3 := ca_lt (tx := tx) (i := sk tx (hdE tx p)) (by omega)
      rw [if_pos ((cI_eq (ca_le hx _) (by omega)).mpr g), c1.2.1, nI_1]
      refine z_skips hx (CZ.up c1.1 h3) (fun S2 f2 c2 => ?_)
      exact put 1 S2 (by unfold hdB; rw [if_pos g]) ((fz.up S1 _).tr f2) (by unfold hdN; rw [if_pos g]; exact c2)
    · rw [if_neg (fun q => g ((cI_eq (ca_le hx _) (by omega)).mp q))]
      exact put 0 S1 (by unfold hdB; rw [if_neg g]) (fz.rf S1) (by unfold hdN; rw [if_neg g]; exact c1)
theorem cntM_lay {l : Nat} : cntM ((lay l).map (· + 2)) = cnt l := cntM_map _
theorem z_readsHeap {tx : List Nat} (hx : ∀ c ∈ tx, c < 128) {p l : Nat} (hl : l < 1215) {S : hm_S} (hc : CZ tx p S) (hm : md S ((lay l).map (· + 2))) (h27 : S 0 27 = -1) {Q : hm_S → hm_T → Prop} (hbad : ¬ hOK tx p l → ∀ S' e', fH S S' → CZ tx e' S' → S' 0 27 = nI p → Q S' T) (hthr : hOK tx p l → isD (ca tx (hdE tx p)) → ∀ S' e', fH S S' → CZ tx e' S' → ca tx e' ≠ 43 → S' 0 27 = nI (hdE tx p) → Q S' T) (h : hOK tx p l → ¬ isD (ca tx (hdE tx p)) → ∀ S', fH S S' → CZ tx (hdN tx p) S' → md S' ((lay (hdL tx p l)).map (· + 2)) → S' 0 27 = -1 → Q S' T) : wp_11_readsHeap S T Q := by
  have h40 := hc.1.2.1
  have hp := hc.2.2
  have hcn := (tq_cnt hl).1
  have bad : ∀ S1 e1 x, ¬ hOK tx p l → fz S S1 → CZ tx e1 S1 → wb_11_readsHeap_88 Q (nI p) x S1 T := by
    intro S1 e1 x no f1 c1
    have k1 : S1 0 27 = -1 := by rw [f1.2 27 (by decide)]; exact h27
    unfold wb_11_readsHeap_88
    refine z_failsF c1 (fun S2 f2 _ c2 _ e2 _ => ?_)
    have k2 := e2 k1
    refine z_heap93b hx c2 (by rw [k2]; exact nI_ne1 (by omega)) (fun S3 e3 f3 c3 k3 => ?_)
    exact hbad no S3 e3 ((f1.fH.tr f2).tr f3) c3 (by rw [k3]; exact k2)
  have t65 : ∀ S1, isD (ca tx p) → hdV tx p < 100 → fz S S1 → CZ tx (hdE tx p) S1 → wb_11_readsHeap_65 Q (nI p) (nI (hdV tx p)) S1 T := by
    intro S1 hd hv f1 c1
    have k1 : S1 0 27 = -1 := by rw [f1.2 27 (by decide)]; exact h27
    have m1 := f1.mdk hm
    have hE := hdE_le hd
    unfold wb_11_readsHeap_65
    rw [c1.2.1, if_neg (by rw [nI_eq (by omega) (by omega)]; omega)]
    by_cases v0 : hdV tx p = 0
    · rw [if_pos (by rw [v0]; rfl)]
      exact bad S1 _ _ (fun q => by have := q.2.1; omega) f1 c1
    · rw [if_neg (by rw [q_0, nI_eq (by omega) (by omega)]; exact v0)]
      refine z_counters m1 (by rw [List.length_map]; exact Nat.le_trans (tq_cnt hl).2 (by omega)) (fun y hy => Nat.lt_of_lt_of_le (map2_lt (fun z hz => tq_small hl hz) y hy) (by omega)) ?_
      rw [cntM_lay, q_10, pk_sub hcn]
      by_cases v1 : hdV tx p ≤ 10 - cnt l
      · have hok : hOK tx p l := ⟨hd, by omega, v1⟩
        rw [if_pos (nI_le v1 (by omega))]
        exact z_heap93g hx hl hok c1 m1 k1 (fun w S' e' f' c' n' k' => hthr hok w S' e' (f1.fH.tr f') c' n' k') (fun w S' f' c' m' k' => h hok w S' (f1.fH.tr f') c' m' k')
      · rw [if_neg (nI_ge (by omega) (by omega))]
        exact bad S1 _ _ (fun q => v1 q.2.2) f1 c1
  unfold wp_11_readsHeap
  rw [hc.2.1]
  refine ⟨3, ?_⟩
  show wb_11_readsHeap_7 Q _ _ _ S T
  unfold wb_11_readsHeap_7
  have e2 : nI p + 2 = nI (p + 2) := by rw [q_2, nI_add]
  rw [e2, hc.2.1, if_neg (nI_ge (by omega) (by omega)), z_byteAt hx hc.1 (by omega), q_48, q_57, z_inC (ca_le hx _) (by omega) (by omega)]
  by_cases d1 : 48 ≤ ca tx p ∧ ca tx p ≤ 57
  · have hpl := ca_lt (tx := tx) (i := p) (by omega)
    rw [if_pos d1, if_neg (by decide), hc.2.1, z_byteAt hx hc.1 (by omega), cI_s (by omega), hc.2.1, nI_1]
    have ev1 : 10 * (0 : Int32) + nI (ca tx p) - nI 48 = nI (ca tx p - 48) := by rw [q_10, q_0, pk_mul, nI_add, pk_sub (by omega)]; congr 1; omega
    rw [ev1]
    have f1 := fz.up S (nI (p + 1))
    have c1 : CZ tx (p + 1) (hm_up S 0 26 (nI (p + 1))) := CZ.up hc.1 hpl
    show wb_11_readsHeap_7 Q _ _ _ _ T
    unfold wb_11_readsHeap_7
    rw [e2, c1.2.1, if_neg (nI_ge (by omega) (by omega)), z_byteAt hx c1.1 (by omega), q_48, q_57, z_inC (ca_le hx _) (by omega) (by omega)]
    by_cases d2 : 48 ≤ ca tx (p + 1) ∧ ca tx (p + 1) ≤ 57
    · have hp2 := ca_lt (tx := tx) (i := p + 1) (by omega)
      rw [if_pos d2, if_neg (by decide), c1.2.1, z_byteAt hx c1.1 (by omega), cI_s (by omega), c1.2.1, nI_1]
      have ev : hdV tx p = 10 * (ca tx p - 48) + (ca tx (p + 1) - 48) := by unfold hdV; rw [if_pos d2]
      have ee : hdE tx p = p + 2 := by unfold hdE; rw [if_pos d2]
      have ev2 : (10 : Int32) * nI (ca tx p - 48) + nI (ca tx (p + 1)) - nI 48 = nI (hdV tx p) := by rw [q_10, pk_mul, nI_add, pk_sub (by omega), ev]; congr 1; omega
      rw [ev2]
      have f2 := f1.tr (fz.up (hm_up S 0 26 (nI (p + 1))) (nI (p + 1 + 1)))
      have c2 : CZ tx (p + 2) (hm_up (hm_up S 0 26 (nI (p + 1))) 0 26 (nI (p + 1 + 1))) := CZ.up c1.1 (by omega)
      show wb_11_readsHeap_7 Q _ _ _ _ T
      unfold wb_11_readsHeap_7
      rw [e2, c2.2.1, if_pos (nI_le (by omega) (by omega))]
      exact t65 _ d1 (by omega) f2 (by rw [ee]; exact c2)
    · rw [if_neg d2, if_pos rfl]
      have ev : hdV tx p = ca tx p - 48 := by unfold hdV; rw [if_neg d2]
      have ee : hdE tx p = p + 1 := by unfold hdE; rw [if_neg d2]
      rw [← ev]
      exact t65 _ d1 (by omega) f1 (by rw [ee]; exact c1)
  · rw [if_neg d1, if_pos rfl]
    unfold wb_11_readsHeap_65
    rw [hc.2.1, if_pos rfl]
    exact bad S p _ (fun q => d1 q.1) (fz.rf S) hc
end RPZ
