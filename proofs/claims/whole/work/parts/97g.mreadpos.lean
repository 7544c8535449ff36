/-! ===== readPosition, the reference ===== -/
def rdQ (tx : List Nat) (R : Int32 × Nat × Nat) : Int32 × Nat × Nat := if R.1 = -1 then fnP tx R.2.1 R.2.2 else (R.1, 0, 0)
theorem rdQ_y {tx : List Nat} {a b : Nat} : rdQ tx (-1, a, b) = fnP tx a b := by unfold rdQ; rw [if_pos rfl]
theorem rdQ_n {tx : List Nat} {x : Int32} {a b : Nat} (h : x ≠ -1) : rdQ tx (x, a, b) = (x, 0, 0) := by unfold rdQ; rw [if_neg h]
theorem hpF_s (tx : List Nat) (f p l : Nat) : hpF tx (f + 1) p l = if hOK tx p l then (if ca tx (hdN tx p) = 43 then hpF tx f (sk tx (hdN tx p + 1)) (hdL tx p l) else (-1, hdN tx p, hdL tx p l)) else (nI p, p, l) := rfl
section RPW
variable {T : hm_T}
theorem z_152 {tx : List Nat} {p : Nat} (hs : sk tx p = p) {S : hm_S} (hc : CZ tx p S) (h27 : S 0 27 = -1) {x : Int32} {Q : Int32 → hm_S → hm_T → Prop} (h : ∀ S', fH S S' → TM tx S' → (∀ a, md S a → md S' a) → S' 0 27 = rst tx p → Q x S' T) : wb_11_readsPosition_152 Q x S T := by
  have h40 := hc.1.2.1
  have hp := hc.2.2
  unfold wb_11_readsPosition_152
  rw [hc.1.1, hc.2.1]
  by_cases e : tx.length ≤ p
  · rw [if_pos (nI_le e (by omega))]
    exact h S (fH.rf S) hc.1 (fun _ q => q) (by rw [h27]; unfold rst; rw [hs, if_pos e])
  · rw [if_neg (nI_ge (by omega) (by omega))]
    exact z_failsF hc (fun S1 f1 _ c1 m1 e2 _ => h S1 f1 c1.1 m1 (by rw [e2 h27]; unfold rst; rw [hs, if_neg e]))
theorem z_rdP {tx : List Nat} (hx : ∀ c ∈ tx, c < 128) {S : hm_S} (ht : TM tx S) {Q : Int32 → hm_S → hm_T → Prop} (h : ∀ x S', fH S S' → TM tx S' → S' 0 27 = (rdP tx).1 → ((rdP tx).1 = -1 → md S' ((lay (rdP tx).2.1).map (· + 2)) ∧ x = nI (rdP tx).2.2) → Q x S' T) : wp_11_readsPosition S T Q := by
  have h40 := ht.2.1
  have hs0 := sk_b (tx := tx) (p := 0) (by omega)
  have hid := sk_sk (tx := tx) (p := 0) (by omega)
  have b113 : ∀ S1 e, fH S S1 → CZ tx e S1 → S1 0 27 ≠ -1 → S1 0 27 = (rdP tx).1 → wb_11_readsPosition_113 Q S1 T := by
    intro S1 e f1 c1 ne eq
    have he := c1.2.2
    unfold wb_11_readsPosition_113 wb_11_readsPosition_152
    rw [if_neg ne, c1.1.1, c1.2.1]
    by_cases g : tx.length ≤ e
    · rw [if_pos (nI_le g (by omega))]
      exact h 0 S1 f1 c1.1 eq (fun q => absurd (eq.trans q) ne)
    · rw [if_neg (nI_ge (by omega) (by omega))]
      refine z_failsF c1 (fun S2 f2 _ c2 _ _ e3 => ?_)
      have k := e3 ne
      exact h 0 S2 (f1.tr f2) c2.1 (by rw [k]; exact eq) (fun q => absurd (eq.trans q) ne)
  have g113 : ∀ S1 p l, fH S S1 → CZ tx p S1 → sk tx p = p → S1 0 27 = -1 → md S1 ((lay l).map (· + 2)) → rdP tx = fnP tx p l → wb_11_readsPosition_113 Q S1 T := by
    intro S1 p l f1 c1 hsp k1 m1 er
    have hp := c1.2.2
    rw [er] at h
    unfold fnP at h
    unfold wb_11_readsPosition_113
    rw [if_pos k1, z_byte hx c1, q_112]
    by_cases w : ca tx p = 112
    · have hpl := ca_lt (tx := tx) (i := p) (by omega)
      rw [if_pos w] at h
      rw [if_pos ((cI_eq (ca_le hx p) (by omega)).mpr w), c1.2.1, nI_1]
      refine z_skips hx (CZ.up c1.1 hpl) (fun S2 f2 c2 => ?_)
      have fz2 := (fz.up S1 (nI (p + 1))).tr f2
      refine z_152 (sk_sk hpl) c2 (by rw [fz2.2 27 (by decide)]; exact k1) (fun S3 f3 t3 m3 e3 => ?_)
      exact h 1 S3 ((f1.tr fz2.fH).tr f3) t3 e3 (fun _ => ⟨m3 _ (fz2.mdk m1), rfl⟩)
    · rw [if_neg w] at h
      rw [if_neg (fun q => w ((cI_eq (ca_le hx p) (by omega)).mp q))]
      exact z_152 hsp c1 k1 (fun S3 f3 t3 m3 e3 => h 0 S3 (f1.tr f3) t3 e3 (fun _ => ⟨m3 _ m1, rfl⟩))
  have bK : ∀ f x S1 e, fH S S1 → CZ tx e S1 → S1 0 27 ≠ -1 → S1 0 27 = (rdP tx).1 → wl_11_readsPosition_49 Q (f + 1) x S1 T := by
    intro f x S1 e f1 c1 ne eq
    show wb_11_readsPosition_49 Q _ _ S1 T
    unfold wb_11_readsPosition_49
    by_cases x0 : x = 0
    · rw [if_pos x0]; exact b113 S1 e f1 c1 ne eq
    · rw [if_neg x0, if_neg ne]; exact b113 S1 e f1 c1 ne eq
  -- a fault stands behind a heap
  have bH : ∀ f S1 e, fH S S1 → CZ tx e S1 → S1 0 27 ≠ -1 → S1 0 27 = (rdP tx).1 → wp_11_byteAt (S1 0 26) S1 T (fun r6 S6 T6 => if r6 = 43 then wb_11_readsPosition_83 Q (wl_11_readsPosition_49 Q (f + 1)) 1 S6 T6 else wb_11_readsPosition_83 Q (wl_11_readsPosition_49 Q (f + 1)) 0 S6 T6) := by
    intro f S1 e f1 c1 ne eq
    rw [z_byte hx c1]
    unfold wb_11_readsPosition_83
    by_cases g : cI (ca tx e) = 43
    · rw [if_pos g, if_neg (by decide), if_neg ne]
      exact bK f 1 S1 e f1 c1 ne eq
    · rw [if_neg g, if_pos rfl]
      exact bK f 0 S1 e f1 c1 ne eq
  have loop : ∀ f p l S1, l < 1215 → 11 ≤ cnt l + f → rdP tx = rdQ tx (hpF tx f p l) → fH S S1 → CZ tx p S1 → S1 0 27 = -1 → md S1 ((lay l).map (· + 2)) → wl_11_readsPosition_49 Q (f + 1) 1 S1 T := by
    intro f
    induction f with
    | zero => intro p l S1 hl hcf _ _ _ _ _; have := (tq_cnt hl).1; omega
    | succ f ih =>
      intro p l S1 hl hcf er f1 c1 k1 m1
      have hp := c1.2.2
      show wb_11_readsPosition_49 Q _ _ S1 T
      unfold wb_11_readsPosition_49
      rw [if_neg (by decide), if_pos k1]
      rw [hpF_s] at er
      refine z_readsHeap hx hl c1 m1 k1 (fun no S2 e2 f2 c2 k2 => ?_) (fun ok dd S2 e2 f2 c2 n2 k2 => ?_) (fun ok dd S2 f2 c2 m2 k2 => ?_)
      · rw [if_neg no, rdQ_n (nI_ne1 (by omega))] at er
        exact bH f S2 e2 (f1.tr f2) c2 (by rw [k2]; exact nI_ne1 (by omega)) (by rw [k2, er])
      · have hE := hdE_le ok.1
        have hdd : 48 ≤ ca tx (hdE tx p) ∧ ca tx (hdE tx p) ≤ 57 := dd
        have ske : sk tx (hdE tx p) = hdE tx p := sk_n (by omega)
        have eN : hdN tx p = hdE tx p := by unfold hdN; rw [ske, if_neg (by omega)]
        have hlt := ca_lt (tx := tx) (i := hdE tx p) (by omega)
        rw [if_pos ok, eN, if_neg (by omega), rdQ_y] at er
        have er1 : (rdP tx).1 = nI (hdE tx p) := by
          rw [er]
          unfold fnP rst
          rw [if_neg (by omega), ske, if_neg (by omega)]
        have ne : S2 0 27 ≠ -1 := by rw [k2]; exact nI_ne1 (by omega)
        exact bH f S2 e2 (f1.tr f2) c2 ne (by rw [k2, er1])
      · obtain ⟨a, b, c, d, e⟩ := hdL_ok hl ok
        obtain ⟨n1, n2⟩ := hdN_le ok.1
        rw [if_pos ok] at er
        rw [z_byte hx c2, q_43]
        unfold wb_11_readsPosition_83
        by_cases g : ca tx (hdN tx p) = 43
        · have h3 := ca_lt (tx := tx) (i := hdN tx p) (by omega)
          rw [if_pos g] at er
          rw [if_pos ((cI_eq (ca_le hx _) (by omega)).mpr g), if_neg (by decide), if_pos k2, c2.2.1, nI_1]
          refine z_skips hx (CZ.up c2.1 h3) (fun S3 f3 c3 => ?_)
          have fz3 := (fz.up S2 (nI (hdN tx p + 1))).tr f3
          exact ih _ _ S3 c (by have := ok.2.1; omega) er ((f1.tr f2).tr fz3.fH) c3 (by rw [fz3.2 27 (by decide)]; exact k2) (fz3.mdk m2)
        · rw [if_neg g, rdQ_y] at er
          rw [if_neg (fun q => g ((cI_eq (ca_le hx _) (by omega)).mp q)), if_pos rfl]
          show wb_11_readsPosition_49 Q _ _ S2 T
          unfold wb_11_readsPosition_49
          rw [if_pos rfl]
          exact g113 S2 _ _ (f1.tr f2) c2 n2 k2 m2 er
  unfold wp_11_readsPosition
  rw [q_0]
  have f0 : fH S (hm_up (hm_up (hm_up S 0 26 (nI 0)) 0 27 (-1)) 0 11 (nI 0)) := ⟨((fr.up _ _ _ (by decide)).tr (fr.up _ _ _ (by decide))).tr (fr.up _ _ _ (by decide)), fun k a b c => by rw [hm_up_col _ _ a, hm_up_col _ _ c, hm_up_col _ _ b]⟩
  have t0 : TM tx (hm_up (hm_up (hm_up S 0 26 (nI 0)) 0 27 (-1)) 0 11 (nI 0)) := ht.fr0 f0.1 (by decide) (f0.2 25 (by decide) (by decide) (by decide))
  have c0 : CZ tx 0 (hm_up (hm_up (hm_up S 0 26 (nI 0)) 0 27 (-1)) 0 11 (nI 0)) := ⟨t0, by rw [hm_up_col _ _ (by decide), hm_up_col _ _ (by decide), hm_up_same], by omega⟩
  have k0 : hm_up (hm_up (hm_up S 0 26 (nI 0)) 0 27 (-1)) 0 11 (nI 0) 0 27 = -1 := by rw [hm_up_col _ _ (by decide), hm_up_same]
  have m0 : md (hm_up (hm_up (hm_up S 0 26 (nI 0)) 0 27 (-1)) 0 11 (nI 0)) ((lay 0).map (· + 2)) := by
    rw [k_fc0.2.2.1]
    exact ⟨by rw [hm_up_same]; rfl, fun i hi => absurd hi (by simp)⟩
  generalize hm_up (hm_up (hm_up S 0 26 (nI 0)) 0 27 (-1)) 0 11 (nI 0) = S0 at f0 t0 c0 k0 m0 ⊢
  refine z_skips hx c0 (fun S1 f1 c1 => ?_)
  have fA := f0.tr f1.fH
  have k1 : S1 0 27 = -1 := by rw [f1.2 27 (by decide)]; exact k0
  have m1 := f1.mdk m0
  unfold wb_11_readsPosition_47 wb_11_readsPosition_48
  -- without heaps
  have z48 : ¬ isD (ca tx (sk tx 0)) → ∃ f, wl_11_readsPosition_49 Q f (nI 0) S1 T := by
    intro nd
    refine ⟨1, ?_⟩
    show wb_11_readsPosition_49 Q _ _ S1 T
    unfold wb_11_readsPosition_49
    rw [if_pos (show nI 0 = 0 from rfl)]
    exact g113 S1 _ 0 fA c1 hid k1 m1 (by unfold rdP; rw [if_neg nd])
  rw [c1.1.1, c1.2.1]
  by_cases e : tx.length ≤ sk tx 0
  · rw [if_pos (nI_le e (by omega))]
    exact z48 (by rw [ca_out e]; omega)
  · rw [if_neg (nI_ge (by omega) (by omega)), z_byteAt hx c1.1 (by omega), q_112]
    have hlt := (ca_in hx (show sk tx 0 < tx.length by omega)).1
    by_cases w : ca tx (sk tx 0) = 112
    · rw [if_pos ((cI_eq (ca_le hx _) (by omega)).mpr w)]
      exact z48 (by rw [w]; omega)
    · rw [if_neg (fun q => w ((cI_eq (ca_le hx _) (by omega)).mp q))]
      by_cases d : isD (ca tx (sk tx 0))
      · exact ⟨_, loop 11 (sk tx 0) 0 S1 (by omega) (by omega) (by unfold rdP rdQ; rw [if_pos d]) fA c1 k1 m1⟩
      · refine ⟨2, ?_⟩
        show wb_11_readsPosition_49 Q _ _ S1 T
        unfold wb_11_readsPosition_49
        rw [if_neg (by decide), if_pos k1]
        have er1 : (rdP tx).1 = nI (sk tx 0) := by
          unfold rdP
          rw [if_neg d]
          unfold fnP rst
          rw [if_neg w, hid, if_neg e]
        refine z_readsHeap hx (l := 0) (by omega) c1 m1 k1 (fun no S2 e2 f2 c2 k2 => ?_) (fun ok => absurd ok.1 d) (fun ok => absurd ok.1 d)
        exact bH 0 S2 e2 (fA.tr f2) c2 (by rw [k2]; exact nI_ne1 (by omega)) (by rw [k2, er1])
theorem Z_readPosition {s : Sp} (ho : okS s) {S : hm_S} (hI : IZ s S T) {Q : Int32 → hm_S → hm_T → Prop} (h : ∀ S' T', IZ (r_readPosition s).2 S' T' → Q (r_readPosition s).1 S' T') : wp_11_readPosition S T Q := by
  obtain ⟨ρ, tx, q, hs⟩ := s
  have htx : TM tx S := hI.2.2.2.2.2
  have h40 := htx.2.1
  have rk := rdP_ok h40
  unfold wp_11_readPosition
  refine z_rdP ho.2.1 htx (fun x S1 f1 t1 e27 d1 => ?_)
  have hr : r_readPosition (ρ, tx, q, hs) = if (rdP tx).1 = -1 then (nI (len (rdP tx).2.1), (ρ, [], 2 * (rdP tx).2.1 + (rdP tx).2.2, rec q hs)) else (-2000 - (rdP tx).1, (ρ, tx, q, hs)) := rfl
  rw [hr] at h
  obtain ⟨a1, b1, c1⟩ := hI.sl f1.1 (by decide) (fun k hk => f1.2 k (by revert k; decide) (by revert k; decide) (by revert k; decide))
  have hI1 : IZ (ρ, tx, q, hs) S1 T := ⟨a1, b1, c1, by rw [f1.2 7 (by decide) (by decide) (by decide)]; exact hI.2.2.2.1, hI.2.2.2.2.1.fr0 f1.1 (by decide) (f1.2 9 (by decide) (by decide) (by decide)), t1⟩
  rw [e27]
  by_cases e : (rdP tx).1 = -1
  · rw [if_pos e] at h
    rw [if_pos (show (rdP (ρ, tx, q, hs).2.1).1 = -1 from e)]
    obtain ⟨m1, ex⟩ := d1 e
    refine z_name a1 rk.1 m1 ?_
    refine z_keeps hI1.2.2.2.2.1 hI1.2.2.2.1 (fun S2 f2 hh2 => ?_)
    have hx := (tq_pi rk.1).1
    have ex' : x = nI (rdP tx).2.2 := ex
    have ev : (2 : Int32) * nI (xpi (rdP tx).2.1) + x = nI (2 * xpi (rdP tx).2.1 + (rdP tx).2.2) := by rw [ex', q_2, pk_mul, nI_add]
    have e7 : hm_up (hm_up S2 0 7 (nI (2 * xpi (rdP tx).2.1 + (rdP tx).2.2))) 0 25 0 0 7 = nI (2 * xpi (rdP tx).2.1 + (rdP tx).2.2) := by rw [hm_up_col _ _ (by decide), hm_up_same]
    have f3 : fr [0] S2 (hm_up (hm_up S2 0 7 (nI (2 * xpi (rdP tx).2.1 + (rdP tx).2.2))) 0 25 0) := (fr.up _ _ _ (by decide)).tr (fr.up _ _ _ (by decide))
    have hv : nI (2 * xpi (rdP tx).2.1 + (rdP tx).2.2) / 2 = nI (xpi (rdP tx).2.1) := by rw [q_2, n_div2 (by omega), show (2 * xpi (rdP tx).2.1 + (rdP tx).2.2) / 2 = xpi (rdP tx).2.1 by omega]
    show vp_in (hm_up (hm_up S2 0 7 (2 * nI (xpi (rdP tx).2.1) + x)) 0 25 0 0 7 / 2) 1215 ∧ Q (hm_up (hm_up S2 0 7 (2 * nI (xpi (rdP tx).2.1) + x)) 0 25 0 1 (Int32.toNatClampNeg (hm_up (hm_up S2 0 7 (2 * nI (xpi (rdP tx).2.1) + x)) 0 25 0 0 7 / 2))) (hm_up (hm_up S2 0 7 (2 * nI (xpi (rdP tx).2.1) + x)) 0 25 0) T
    rw [ev, e7, hv, nI_clamp (by omega), f3 1 (by decide), f2.1 1 (by decide), a1.1 _ hx, len_pi rk.1]
    refine ⟨vp_in_nI hx (by omega), ?_⟩
    have fB : fr [0, 5] S1 (hm_up (hm_up S2 0 7 (nI (2 * xpi (rdP tx).2.1 + (rdP tx).2.2))) 0 25 0) := f2.1.tr (f3.mono (by decide))
    have kB : ∀ k, k ≠ 7 → k ≠ 9 → k ≠ 25 → hm_up (hm_up S2 0 7 (nI (2 * xpi (rdP tx).2.1 + (rdP tx).2.2))) 0 25 0 0 k = S1 0 k := fun k a b c => by rw [hm_up_col _ _ c, hm_up_col _ _ a, f2.2 k b]
    obtain ⟨a3, b3, c3⟩ := hI1.sl fB (by decide) (fun k hk => kB k (by revert k; decide) (by revert k; decide) (by revert k; decide))
    refine h _ T ⟨a3, b3, c3, ?_, ?_, ⟨hm_up_same _ _ _ _, by simp, fun i c hc => absurd hc (by simp)⟩⟩
    · rw [e7]
      show nI (2 * xpi (rdP tx).2.1 + (rdP tx).2.2) = nI (pM (2 * (rdP tx).2.1 + (rdP tx).2.2))
      rw [pM_mk rk.2]
    · exact hh2.fr0 f3 (by decide) (by rw [hm_up_col _ _ (by decide), hm_up_col _ _ (by decide)])
  · rw [if_neg e] at h
    rw [if_neg (show ¬ (rdP (ρ, tx, q, hs).2.1).1 = -1 from e)]
    exact h S1 T hI1
end RPW
