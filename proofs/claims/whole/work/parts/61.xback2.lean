/-! ===== a step back, whole ===== -/
noncomputable def dnf (ρ : Ru) (kn pr : List Nat) (v j : Nat) (u : Nat) : Nat := dn ρ kn pr u + (if oN ρ kn v = 1 then ((pre (EL ρ kn kn.length) v).reverse.take j).count u else 0)
theorem dnf_0 (ρ : Ru) (kn pr : List Nat) (v : Nat) : dnf ρ kn pr v 0 = dn ρ kn pr := by
  funext u
  unfold dnf
  by_cases h : oN ρ kn v = 1 <;> simp [h]
/-- what holds of the queue while v is stepped back from -/
def QB (ρ : Ru) (kn pr qu0 : List Nat) (v j : Nat) (S0 : hm_S) (qu : List Nat) (S : hm_S) : Prop := (∃ e, qu = qu0 ++ e) ∧ fq S0 S ∧ SI ρ kn kn.length qu (dnf ρ kn pr v j) S ∧ (∀ u, u < kn.length → u ∉ qu → ∀ t ∈ ad ρ kn u, t ∈ pr → oN ρ kn t ≠ 0) ∧ (oN ρ kn v = 0 → ∀ u ∈ (pre (EL ρ kn kn.length) v).reverse.take j, u ∈ qu) ∧ srtQ ρ kn qu ∧ ∀ w ∈ qu, dN ρ kn w ≤ dN ρ kn v + 1
section XB2
variable {T : hm_T}
theorem x_backIn {ρ : Ru} {kn : List Nat} (hc : clo ρ kn) (hn : kn.length ≤ 2430) (hN : (EL ρ kn kn.length).length ≤ 15010) {v : Nat} (hv : v < kn.length) {pr qu0 : List Nat} (hvpr : v ∉ pr) (hdec : vN ρ kn (dN ρ kn v) v < 2) (hprd : ∀ t ∈ pr, vN ρ kn (dN ρ kn t) t < 2 ∧ dN ρ kn t ≤ dN ρ kn v) (hlow : ∀ w, w < kn.length → vN ρ kn (dN ρ kn v) w < 2 → w ∈ qu0) {S0 : hm_S} (hB : BT ρ kn S0) {Q : hm_S → hm_T → Prop} (h : ∀ qu S, QB ρ kn pr qu0 v (pre (EL ρ kn kn.length) v).length S0 qu S → Q S T) : ∀ c j qu S, j + c = (pre (EL ρ kn kn.length) v).length → QB ρ kn pr qu0 v j S0 qu S → wl_8_stepBackFrom_42 Q (c + 1) (nI (oN ρ kn v)) (nI (dN ρ kn v + 1)) (nI (CB (EL ρ kn kn.length) (v + 1))) (nI (CB (EL ρ kn kn.length) v + j)) S T := by
  have hcs := CB_s (EL ρ kn kn.length) v
  have hcm : CB (EL ρ kn kn.length) (v + 1) ≤ CB (EL ρ kn kn.length) kn.length := CB_mono (by omega)
  have hcl := CB_le kn.length (EL ρ kn kn.length)
  have hov : oN ρ kn v = vN ρ kn (dN ρ kn v) v := (oF_dec hdec).1
  intro c
  induction c with
  | zero =>
    intro j qu S hj hq
    show wb_8_stepBackFrom_42 Q _ _ _ _ _ S T
    unfold wb_8_stepBackFrom_42
    rw [if_pos (nI_le (by omega) (by omega))]
    rw [show j = (pre (EL ρ kn kn.length) v).length by omega] at hq
    exact h qu S hq
  | succ c ih =>
    intro j qu S hj ⟨he, hf, hS, hnz, hz, hst, hub⟩
    have hjl : j < (pre (EL ρ kn kn.length) v).length := by omega
    have hil : (pre (EL ρ kn kn.length) v).length - 1 - j < (pre (EL ρ kn kn.length) v).length := by omega
    obtain ⟨u, hu⟩ : ∃ u, (pre (EL ρ kn kn.length) v)[(pre (EL ρ kn kn.length) v).length - 1 - j]? = some u := ⟨_, List.getElem?_eq_getElem hil⟩
    have hur : (pre (EL ρ kn kn.length) v).reverse[j]? = some u := by rw [List.getElem?_reverse hjl]; exact hu
    obtain ⟨hun, hua⟩ := pre_lt (List.mem_of_getElem? hu)
    have h48 : S 48 (CB (EL ρ kn kn.length) v + j) = nI u := by
      have := hB.2 v _ u hv hu
      rw [show CB (EL ρ kn kn.length) (v + 1) - 1 - ((pre (EL ρ kn kn.length) v).length - 1 - j) = CB (EL ρ kn kn.length) v + j by omega] at this
      rw [hf.1 48 (by decide)]
      exact this
    have hpz : (pre (EL ρ kn kn.length) v).reverse.take (j + 1) = (pre (EL ρ kn kn.length) v).reverse.take j ++ [u] := by rw [List.take_add_one, hur]; rfl
    have hne : ∀ w, w ≠ u → dnf ρ kn pr v (j + 1) w = dnf ρ kn pr v j w := by
      intro w hw
      unfold dnf
      rw [hpz, List.count_append]
      have : [u].count w = 0 := by simp [Ne.symm hw]
      rw [this, Nat.add_zero]
    have next : ∀ qu' S', (∃ e, qu' = qu ++ e) → fq S S' → SI ρ kn kn.length qu' (dnf ρ kn pr v (j + 1)) S' → (oN ρ kn v = 0 → u ∈ qu') → srtQ ρ kn qu' → (∀ w ∈ qu', dN ρ kn w ≤ dN ρ kn v + 1) → wb_8_stepBackFrom_121 Q (wl_8_stepBackFrom_42 Q (c + 1)) (nI (oN ρ kn v)) (nI (dN ρ kn v + 1)) (nI (CB (EL ρ kn kn.length) (v + 1))) (nI (CB (EL ρ kn kn.length) v + j)) S' T := by
      intro qu' S' ⟨e', ee⟩ f' i' z' s' b'
      unfold wb_8_stepBackFrom_121
      rw [nI_1]
      obtain ⟨e0, ee0⟩ := he
      refine ih (j + 1) qu' S' (by omega) ⟨⟨e0 ++ e', by rw [ee, ee0, List.append_assoc]⟩, hf.tr f', i', fun w hw hwq => hnz w hw (fun g => hwq (by rw [ee]; exact List.mem_append_left _ g)), fun ho w hw => ?_, s', b'⟩
      rw [hpz] at hw
      rcases List.mem_append.mp hw with g | g
      · rw [ee]; exact List.mem_append_left _ (hz ho w g)
      · have e : w = u := by simpa using g
        rw [e]; exact z' ho
    show wb_8_stepBackFrom_42 Q _ _ _ _ _ S T
    unfold wb_8_stepBackFrom_42
    rw [if_neg (nI_ge (by omega) (by omega)), e_get (by omega) (by omega)]
    simp only [Nat.reduceAdd]
    rw [h48, e_get (by omega) (by omega)]
    simp only [Nat.reduceAdd]
    by_cases hq : u ∈ qu
    · -- settled before
      obtain ⟨g1, g2, g3⟩ := hS.2.2.2.2.1 u hq
      have hou : oN ρ kn u < 2 := by have e : oN ρ kn u = vN ρ kn (dN ρ kn u) u := (oF_dec g3).1; omega
      rw [g1, if_neg (by rw [q_2, nI_eq (by omega) (by omega)]; omega)]
      refine next qu S ⟨[], by rw [List.append_nil]⟩ (fq.rf S) ⟨hS.1, hS.2.1, hS.2.2.1, hS.2.2.2.1, hS.2.2.2.2.1, fun w hw hwq => ?_⟩ (fun _ => hq) hst hub
      rw [hne w (fun e => hwq (e ▸ hq))]
      exact hS.2.2.2.2.2 w hw hwq
    · have hq0 : u ∉ qu0 := by
        obtain ⟨e0, ee0⟩ := he
        exact fun g => hq (by rw [ee0]; exact List.mem_append_left _ g)
      have hund : ¬ vN ρ kn (dN ρ kn v) u < 2 := fun g => hq0 (hlow u hun g)
      obtain ⟨g1, g2, hp, g3, g4, g5⟩ := hS.2.2.2.2.2 u hun hq
      rw [g1, if_pos (show nI 2 = 2 from rfl)]
      rcases (show oN ρ kn v = 0 ∨ oN ρ kn v = 1 by omega) with ho | ho
      · -- a step to a lost position
        obtain ⟨w1, w2, w3⟩ := q_win hc hun hua hdec ho hund
        rw [if_pos (show nI (oN ρ kn v) = 0 by rw [ho]; rfl), q_1]
        refine x_settle (dnf' := dnf ρ kn pr v (j + 1)) (k' := kn.length) hn hun hq hS (Nat.le_refl _) (fr.rf _ S) (fun w hw hwu => ⟨hw, hne w hwu, rfl⟩) w2.symm w1.symm w3 (fun S' f' i' => ?_)
        refine next (qu ++ [u]) S' ⟨_, rfl⟩ f' i' (fun _ => by simp) (hst.app (fun a ha => by rw [w1]; exact hub a ha)) (fun w hw => ?_)
        rcases List.mem_append.mp hw with g | g
        · exact hub w g
        · have e : w = u := by simpa using g
          rw [e, w1]; exact Nat.le_refl _
      · -- a step to a won position: one hope less
        obtain ⟨y, hy⟩ : ∃ y, hp = y + 1 := ⟨hp - 1, by omega⟩
        have hdu : dnf ρ kn pr v (j + 1) u = dnf ρ kn pr v j u + 1 := by
          unfold dnf
          rw [if_pos ho, if_pos ho, hpz, List.count_append]
          have : [u].count u = 1 := by simp
          omega
        rw [if_neg (show ¬ nI (oN ρ kn v) = 0 by rw [ho]; decide), e_add (by omega) (by omega)]
        simp only [Nat.reduceAdd]
        rw [g3, hy, pk_m1, e_get (by omega) (by omega)]
        simp only [Nat.reduceAdd]
        rw [hm_up_same]
        have fS : fr [54] S (hm_up S 54 u (nI y)) := fr.up S _ _ (by decide)
        have hlen : (ad ρ kn u).length ≤ 31 ∨ True := Or.inr trivial
        have hcu : ((pre (EL ρ kn kn.length) v).reverse.take (j + 1)).count u ≤ (ad ρ kn u).count v := by
          have h1 : ((pre (EL ρ kn kn.length) v).reverse.take (j + 1)).count u ≤ (pre (EL ρ kn kn.length) v).reverse.count u := (List.take_sublist _ _).count_le u
          have h2 : (pre (EL ρ kn kn.length) v).reverse.count u = (pre (EL ρ kn kn.length) v).count u := List.count_reverse
          have h3 := pre_cnt (ρ := ρ) (kn := kn) u v kn.length
          rw [if_pos hun] at h3
          omega
        by_cases hy0 : y = 0
        · have hall : ∀ t ∈ ad ρ kn u, vN ρ kn (dN ρ kn v) t = 1 := by
            have hle : (ad ρ kn u).length ≤ dn ρ kn pr u + (ad ρ kn u).count v := by
              have : dnf ρ kn pr v (j + 1) u = dn ρ kn pr u + ((pre (EL ρ kn kn.length) v).reverse.take (j + 1)).count u := by unfold dnf; rw [if_pos ho]
              omega
            intro t ht
            rcases dn_all hvpr hle t ht with ⟨k1, k2⟩ | k1
            · obtain ⟨m1, m2⟩ := hprd t k1
              have e1 : oN ρ kn t = vN ρ kn (dN ρ kn t) t := (oF_dec m1).1
              have e2 : vN ρ kn (dN ρ kn v) t = vN ρ kn (dN ρ kn t) t := vO_mono m1 m2
              omega
            · rw [k1]; omega
          obtain ⟨w1, w2, w3⟩ := q_lose hc hun hall hund
          rw [hy0, if_pos (show nI 0 = 0 from rfl), q_0]
          refine x_settle (S0 := S) (dnf' := dnf ρ kn pr v (j + 1)) (k' := kn.length) hn hun hq hS (Nat.le_refl _) (fr.up S _ _ (by decide)) (fun w hw hwu => ⟨hw, hne w hwu, hm_up_col _ _ hwu⟩) w2.symm w1.symm w3 (fun S' f' i' => ?_)
          refine next (qu ++ [u]) S' ⟨_, rfl⟩ ((fq.up u _ (by decide)).tr f') i' (fun _ => by simp) (hst.app (fun a ha => by rw [w1]; exact hub a ha)) (fun w hw => ?_)
          rcases List.mem_append.mp hw with g | g
          · exact hub w g
          · have e : w = u := by simpa using g
            rw [e, w1]; exact Nat.le_refl _
        · have hyb : y < 2 ^ 31 := by
            have h1 : (ad ρ kn u).length ≤ 15010 := by
              have h2 := sx_s (ρ := ρ) (nd_at hun)
              have h3 := sx_mono (ρ := ρ) (kn := kn) (show u + 1 ≤ kn.length by omega)
              have h4 := EL_len (ρ := ρ) (kn := kn) kn.length (Nat.le_refl _)
              rw [ad_len]
              omega
            omega
          rw [if_neg (by rw [q_0, nI_eq hyb (by omega)]; exact hy0)]
          refine next qu _ ⟨[], by rw [List.append_nil]⟩ (fq.up u _ (by decide)) ⟨hS.1, hS.2.1, ?_, ?_, ?_, fun w hw hwq => ?_⟩ (fun g => by omega) hst hub
          · rw [fS 36 (by decide)]; exact hS.2.2.1
          · rw [fS 56 (by decide)]; exact hS.2.2.2.1
          · rw [fS 50 (by decide), fS 52 (by decide)]; exact hS.2.2.2.2.1
          · rw [fS 50 (by decide), fS 52 (by decide)]
            by_cases e : w = u
            · subst e
              refine ⟨g1, g2, y, hm_up_same _ _ _ _, by omega, by omega⟩
            · rw [hne w e, hm_up_col _ _ e]
              exact hS.2.2.2.2.2 w hw hwq
end XB2
