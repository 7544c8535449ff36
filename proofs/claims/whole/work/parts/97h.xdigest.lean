/-! ===== digest: what it is, and the class ===== -/
def fN (g : Nat → Int32) : Nat → Nat → Int64 → Int64
  | 0, _, h => h
  | c + 1, i, h => fN g c (i + 1) (31 * h + Int32.toInt64 (g i))
theorem fN_s (g : Nat → Int32) (c i : Nat) (h : Int64) : fN g (c + 1) i h = fN g c (i + 1) (31 * h + Int32.toInt64 (g i)) := rfl
def gRu (s : Sp) (i : Nat) : Int32 := a_rule s (nI i)
def gHp (s : Sp) (k : Nat) : Int32 := hpP s.1 ((lay (s.2.2.1 / 2)).getD (k / 3) 0) (k % 3)
noncomputable def gMv (s : Sp) (k : Nat) : Int32 := match (mv s.1 s.2.2.1)[k / 7]? with
  | none => 0
  | some m => mvP s.1 m (k % 7)
noncomputable def g6 (s : Sp) (k : Nat) : Int32 := if k = 0 then a_outcome s else if k = 1 then a_distance s else if k = 2 then a_best s else if k = 3 then a_good s else if k = 4 then (per s.1).1 else (per s.1).2
def gGv (s : Sp) (n : Nat) : Int32 := nI (gv s.1 n)
def gTx (s : Sp) (i : Nat) : Int32 := nI (s.2.1.getD i 0)
def h_1 (s : Sp) : Int64 := fN (gRu s) 13 1 475
def h_2 (s : Sp) : Int64 := fN (cntP s) 8 0 (h_1 s)
def h_3 (s : Sp) : Int64 := fN (gHp s) (3 * len (s.2.2.1 / 2)) 0 (h_2 s)
noncomputable def h_4 (s : Sp) : Int64 := fN (gMv s) (7 * (mv s.1 s.2.2.1).length) 0 (h_3 s)
noncomputable def h_5 (s : Sp) : Int64 := fN (g6 s) 6 0 (h_4 s)
noncomputable def h_6 (s : Sp) : Int64 := fN (gGv s) 61 0 (h_5 s)
noncomputable def a_digest (s : Sp) : Int64 := fN (gTx s) s.2.1.length 0 (h_6 s)
/-- all that the class knows while it mixes -/
def LX (s : Sp) (kn : List Nat) (S : hm_S) : Prop := IX s S ∧ s.2.2.1 ∈ kn ∧ XE s.1 kn kn.length 0 S ∧ solX s.1 kn S ∧ ml (mv s.1 s.2.2.1) S
theorem LX.fw {s : Sp} {kn : List Nat} {S S' : hm_S} (h : LX s kn S) (hf : fw S S') : LX s kn S' := ⟨h.1.fw hf, h.2.1, h.2.2.1.fw hf, h.2.2.2.1.fr hf.1 (by decide), h.2.2.2.2.fr hf.1 (by decide)⟩
theorem LX.gr {s : Sp} {kn : List Nat} {S S' : hm_S} (h : LX s kn S) (hf : fr [59, 61, 63] S S') (hI : IX s S') : LX s kn S' := ⟨hI, h.2.1, ⟨h.2.2.1.1.fr hf (by decide), h.2.2.1.2.1.fr hf (by decide), h.2.2.1.2.2.1.fr hf (by decide), h.2.2.1.2.2.2.1.fr hf (by decide) (by rw [hf 36 (by decide)]), h.2.2.1.2.2.2.2.fr hf (by decide)⟩, h.2.2.2.1.fr hf (by decide), h.2.2.2.2.fr hf (by decide)⟩
section XDG
variable {T : hm_T}
theorem x_goodMoves {ρ : Ru} (hr : rok ρ) {kn : List Nat} {q : Nat} (hq : q < 2430) (hqk : q ∈ kn) {S : hm_S} (hx : XE ρ kn kn.length 0 S) (hs : solX ρ kn S) (hm : ml (mv ρ q) S) {Q : Int32 → hm_S → hm_T → Prop} (h : Q (nI (gdN ρ q)) S T) : wp_10_goodMoves S T Q := by
  have hc : clo ρ kn := fun q hq => hx.closed hq
  unfold wp_10_goodMoves wp_10_goodOutcome
  rw [q_0]
  refine ⟨_, x_goalLoop hr hq hqk hx.2.2.2.1 hc hs hm (fun x hx' => ?_) (mv ρ q).length 0 1 (-1) (by omega) (Or.inl rfl) (Or.inr ⟨rfl, rfl, rfl⟩) rfl⟩
  exact ⟨_, x_goodLoop hr hq hqk hx.2.2.2.1 hc hs hm hx' h (mv ρ q).length 0 0 (by omega) (by rw [Nat.zero_add, List.drop_zero]; rfl)⟩
theorem x_dgText {s : Sp} (ho : okS s) {H : Int64} {S : hm_S} (hI : IX s S) {Q : Int64 → hm_S → hm_T → Prop} (h : Q H S T) : ∀ c i y, i + c = s.2.1.length → fN (gTx s) c i y = H → wl_10_digest_165 Q (c + 1) y (nI i) S T := by
  have ht : TX s.2.1 S := hI.2.2.2.1
  have hl := ht.2.1
  intro c
  induction c with
  | zero =>
    intro i y hi he
    show wb_10_digest_165 Q _ _ _ S T
    unfold wb_10_digest_165
    rw [ht.1, if_pos (nI_le (by omega) (by omega))]
    have he : y = H := he
    rw [he]; exact h
  | succ c ih =>
    intro i y hi he
    obtain ⟨h1, h2⟩ := ca_in ho.2.1 (show i < s.2.1.length by omega)
    have e : gTx s i = nI (ca s.2.1 i) := by unfold gTx; rw [List.getD_eq_getElem?_getD, h2]; rfl
    show wb_10_digest_165 Q _ _ _ S T
    unfold wb_10_digest_165 wp_10_mix
    rw [ht.1, if_neg (nI_ge (by omega) (by omega)), x_letterAt ho.2.1 ht (by omega), cI_s h1, nI_1]
    rw [fN_s, e] at he
    exact ih (i + 1) _ (by omega) he
theorem x_dgVals {s : Sp} (ho : okS s) {H : Int64} {Q : Int64 → hm_S → hm_T → Prop} (h : ∀ S, IX s S → wb_10_digest_163 Q H S T) : ∀ c n y S, n + c = 61 → IX s S → fN (gGv s) c n y = H → wl_10_digest_138 Q (c + 1) y (nI n) S T := by
  intro c
  induction c with
  | zero =>
    intro n y S hn hI he
    show wb_10_digest_138 Q _ _ _ S T
    unfold wb_10_digest_138
    rw [q_60, if_pos (nI_lt (by omega) (by omega))]
    have he : y = H := he
    rw [he]; exact h S hI
  | succ c ih =>
    intro n y S hn hI he
    show wb_10_digest_138 Q _ _ _ S T
    unfold wb_10_digest_138 wp_10_mix
    rw [q_60, if_neg (nI_nlt (by omega) (by omega))]
    refine x_valueOf ho.1 hI.1.ru hI.2.2.2.2 (by omega) (fun S' f' g' => ?_)
    rw [nI_1]
    exact ih (n + 1) _ S' (by omega) (hI.grn f' g') he
theorem x_dgHeap {s : Sp} (ho : okS s) {kn : List Nat} {H : Int64} {Q : Int64 → hm_S → hm_T → Prop} {K5 : Int64 → Int32 → hm_S → hm_T → Prop} {i : Nat} (hi : i < len (s.2.2.1 / 2)) {C : Nat} (hC : 3 * i + 3 + C = 3 * len (s.2.2.1 / 2)) (h : ∀ y S, LX s kn S → fN (gHp s) C (3 * (i + 1)) y = H → K5 y (nI (i + 1)) S T) : ∀ c w y S, w + c = 3 → LX s kn S → fN (gHp s) (c + C) (3 * i + w) y = H → wl_10_mixHeapsAndMoves_27 Q K5 (c + 1) y (nI i) (nI w) S T := by
  have hq := ho.2.2.1
  have hlen := tq_len (show s.2.2.1 / 2 < 1215 by omega)
  intro c
  induction c with
  | zero =>
    intro w y S hw hL he
    show wb_10_mixHeapsAndMoves_27 Q K5 _ _ _ _ S T
    unfold wb_10_mixHeapsAndMoves_27 wb_10_mixHeapsAndMoves_52
    rw [q_2, if_pos (nI_lt (by omega) (by omega)), nI_1]
    refine h y S hL ?_
    rw [Nat.zero_add, show 3 * i + w = 3 * (i + 1) by omega] at he
    exact he
  | succ c ih =>
    intro w y S hw hL he
    show wb_10_mixHeapsAndMoves_27 Q K5 _ _ _ _ S T
    unfold wb_10_mixHeapsAndMoves_27 wp_10_mix
    rw [q_2, if_neg (nI_nlt (by omega) (by omega))]
    refine x_propH ho hL.1 hi (by omega) (fun S' f' i' => ?_)
    rw [nI_1]
    rw [show c + 1 + C = c + C + 1 by omega, fN_s, show gHp s (3 * i + w) = hpP s.1 ((lay (s.2.2.1 / 2)).getD i 0) w by unfold gHp; rw [show (3 * i + w) / 3 = i by omega, show (3 * i + w) % 3 = w by omega]] at he
    exact ih (w + 1) _ S' (by omega) (hL.gr f' i') he
theorem x_dgHeaps {s : Sp} (ho : okS s) {kn : List Nat} {H : Int64} {Q : Int64 → hm_S → hm_T → Prop} (h : ∀ S, LX s kn S → wb_10_mixHeapsAndMoves_58 Q H S T) : ∀ c i y S, i + c = len (s.2.2.1 / 2) → LX s kn S → fN (gHp s) (3 * c) (3 * i) y = H → wl_10_mixHeapsAndMoves_5 Q (c + 1) y (nI i) S T := by
  have hq := ho.2.2.1
  have hl : s.2.2.1 / 2 < 1215 := by omega
  have hlen := tq_len hl
  intro c
  induction c with
  | zero =>
    intro i y S hi hL he
    show wb_10_mixHeapsAndMoves_5 Q _ _ _ S T
    unfold wb_10_mixHeapsAndMoves_5
    rw [hL.1.2.1, e_layoutOf (by omega), x_heapsOf hL.1.1.tab hl, if_pos (nI_le (by omega) (by omega))]
    have he : y = H := he
    rw [he]; exact h S hL
  | succ c ih =>
    intro i y S hi hL he
    show wb_10_mixHeapsAndMoves_5 Q _ _ _ S T
    unfold wb_10_mixHeapsAndMoves_5
    rw [hL.1.2.1, e_layoutOf (by omega), x_heapsOf hL.1.1.tab hl, if_neg (nI_ge (by omega) (by omega)), q_0]
    exact ⟨_, x_dgHeap ho (by omega) (C := 3 * c) (by omega) (fun y S' L' e' => ih (i + 1) y S' (by omega) L' e') 3 0 y S (by omega) hL (by rw [show 3 + 3 * c = 3 * (c + 1) by omega]; exact he)⟩
theorem x_dgMove {s : Sp} (ho : okS s) {kn : List Nat} {S : hm_S} (hL : LX s kn S) {H : Int64} {Q : Int64 → hm_S → hm_T → Prop} {K61 : Int64 → Int32 → hm_S → hm_T → Prop} {i : Nat} {m : Mv} (hm : (mv s.1 s.2.2.1)[i]? = some m) {C : Nat} (h : ∀ y, fN (gMv s) C (7 * (i + 1)) y = H → K61 y (nI (i + 1)) S T) : ∀ c w y, w + c = 7 → fN (gMv s) (c + C) (7 * i + w) y = H → wl_10_mixHeapsAndMoves_76 Q K61 (c + 1) y (nI i) (nI w) S T := by
  have hq := ho.2.2.1
  intro c
  induction c with
  | zero =>
    intro w y hw he
    show wb_10_mixHeapsAndMoves_76 Q K61 _ _ _ _ S T
    unfold wb_10_mixHeapsAndMoves_76 wb_10_mixHeapsAndMoves_102
    rw [q_6, if_pos (nI_lt (by omega) (by omega)), nI_1]
    refine h y ?_
    rw [Nat.zero_add, show 7 * i + w = 7 * (i + 1) by omega] at he
    exact he
  | succ c ih =>
    intro w y hw he
    show wb_10_mixHeapsAndMoves_76 Q K61 _ _ _ _ S T
    unfold wb_10_mixHeapsAndMoves_76 wp_10_mix
    rw [q_6, if_neg (nI_nlt (by omega) (by omega))]
    refine x_prop hq hL.2.2.2.2 hm (by omega) (fun _ => ⟨kn, hL.2.2.1.2.2.2.1, hL.2.2.2.1, hL.2.2.1.closed hL.2.1 _ (List.mem_map.mpr ⟨m, List.mem_of_getElem? hm, rfl⟩)⟩) ?_
    rw [nI_1]
    rw [show c + 1 + C = c + C + 1 by omega, fN_s, show gMv s (7 * i + w) = mvP s.1 m w by unfold gMv; rw [show (7 * i + w) / 7 = i by omega, hm]; simp only []; rw [show (7 * i + w) % 7 = w by omega]] at he
    exact ih (w + 1) _ (by omega) he
theorem x_dgMoves {s : Sp} (ho : okS s) {kn : List Nat} {S : hm_S} (hL : LX s kn S) {H : Int64} {Q : Int64 → hm_S → hm_T → Prop} (h : Q H S T) : ∀ c i y, i + c = (mv s.1 s.2.2.1).length → fN (gMv s) (7 * c) (7 * i) y = H → wl_10_mixHeapsAndMoves_61 Q (c + 1) y (nI i) S T := by
  have hq := ho.2.2.1
  have hl := mv_31 (ρ := s.1) hq
  intro c
  induction c with
  | zero =>
    intro i y hi he
    show wb_10_mixHeapsAndMoves_61 Q _ _ _ S T
    unfold wb_10_mixHeapsAndMoves_61
    rw [hL.2.2.2.2.1, if_pos (nI_le (by omega) (by omega))]
    have he : y = H := he
    rw [he]; exact h
  | succ c ih =>
    intro i y hi he
    obtain ⟨m, hm⟩ : ∃ m, (mv s.1 s.2.2.1)[i]? = some m := ⟨_, List.getElem?_eq_getElem (by omega)⟩
    show wb_10_mixHeapsAndMoves_61 Q _ _ _ S T
    unfold wb_10_mixHeapsAndMoves_61
    rw [hL.2.2.2.2.1, if_neg (nI_ge (by omega) (by omega)), q_0]
    exact ⟨_, x_dgMove ho hL hm (C := 7 * c) (fun y e' => ih (i + 1) y (by omega) e') 7 0 y (by omega) (by rw [show 7 + 7 * c = 7 * (c + 1) by omega]; exact he)⟩
theorem x_dg56 {s : Sp} (ho : okS s) {kn : List Nat} {S : hm_S} (hL : LX s kn S) {Q : Int64 → hm_S → hm_T → Prop} (h : ∀ S', IX s S' → Q (a_digest s) S' T) : wb_10_digest_56 Q (h_2 s) S T := by
  have hq := ho.2.2.1
  unfold wb_10_digest_56 wp_10_mixHeapsAndMoves
  rw [q_0]
  refine ⟨_, x_dgHeaps ho (kn := kn) (H := h_3 s) (fun S1 L1 => ?_) (len (s.2.2.1 / 2)) 0 (h_2 s) S (by omega) hL rfl⟩
  unfold wb_10_mixHeapsAndMoves_58
  rw [q_0]
  refine ⟨_, x_dgMoves ho L1 (H := h_4 s) ?_ (mv s.1 s.2.2.1).length 0 (h_3 s) (by omega) rfl⟩
  rw [L1.1.2.1]
  refine x_outcomeOf L1.2.2.1.2.2.2.1 L1.2.2.2.1 L1.2.1 ?_
  unfold wp_10_mix
  dsimp only
  rw [L1.1.2.1]
  refine x_distanceOf L1.2.2.1.2.2.2.1 L1.2.2.2.1 L1.2.1 ?_
  refine x_bestMove ho.1 hq L1.2.1 L1.2.2.1 L1.2.2.2.1 L1.2.2.2.2 ?_
  refine x_goodMoves ho.1 hq L1.2.1 L1.2.2.1 L1.2.2.2.1 L1.2.2.2.2 ?_
  refine x_periodLength ho.1 L1.1.1.ru L1.1.2.2.2.2 (fun S2 f2 g2 => ?_)
  have I2 := L1.1.grn f2 g2
  refine x_periodStart ho.1 I2.1.ru I2.2.2.2.2 (fun S3 f3 g3 => ?_)
  have I3 := I2.grn f3 g3
  refine ⟨_, x_dgVals ho (H := h_6 s) (fun S4 I4 => ?_) 61 0 (h_5 s) S3 (by omega) I3 rfl⟩
  unfold wb_10_digest_163
  rw [q_0]
  exact ⟨_, x_dgText ho I4 (H := a_digest s) (h S4 I4) s.2.1.length 0 (h_6 s) (by omega) rfl⟩
theorem X_digest {s : Sp} (ho : okS s) {S : hm_S} (hI : IX s S) {Q : Int64 → hm_S → hm_T → Prop} (h : ∀ S', IX s S' → Q (a_digest s) S' T) : wp_10_digest S T Q := by
  have hq := ho.2.2.1
  unfold wp_10_digest
  refine x_learnHere ho.1 hI.1 hq hI.2.1 (fun kn S1 f1 hq1 x1 h15 s1 hm => ?_)
  have L1 : LX s kn S1 := ⟨hI.lrn f1 ⟨kn, x1, Or.inr ⟨h15, s1⟩⟩, hq1, x1, s1, hm⟩
  have k2 : ∀ c w y S2, w + c = 8 → LX s kn S2 → fN (cntP s) c w y = h_2 s → wl_10_digest_34 Q (c + 1) y (nI w) S2 T := by
    intro c
    induction c with
    | zero =>
      intro w y S2 hw L2 he
      show wb_10_digest_34 Q _ _ _ S2 T
      unfold wb_10_digest_34
      rw [q_7, if_pos (nI_lt (by omega) (by omega))]
      have he : y = h_2 s := he
      rw [he]; exact x_dg56 ho L2 h
    | succ c ih =>
      intro w y S2 hw L2 he
      show wb_10_digest_34 Q _ _ _ S2 T
      unfold wb_10_digest_34 wp_10_mix
      rw [q_7, if_neg (nI_nlt (by omega) (by omega))]
      refine x_numberOf ho L2.1 (by omega) (fun _ => L2.2.2.2.2) (fun _ => ⟨kn, L2.2.1, L2.2.2.1⟩) (fun S3 f3 I3 => ?_)
      rw [nI_1]
      exact ih (w + 1) _ S3 (by omega) (L2.fw f3) he
  have k1 : ∀ c k y, k + c = 14 → fN (gRu s) c k y = h_1 s → wl_10_digest_10 Q (c + 1) y (nI k) S1 T := by
    intro c
    induction c with
    | zero =>
      intro k y hk he
      show wb_10_digest_10 Q _ _ _ S1 T
      unfold wb_10_digest_10 wb_10_digest_32
      rw [q_13, if_pos (nI_lt (by omega) (by omega)), q_0]
      have he : y = h_1 s := he
      rw [he]
      exact ⟨_, k2 8 0 (h_1 s) S1 (by omega) L1 rfl⟩
    | succ c ih =>
      intro k y hk he
      show wb_10_digest_10 Q _ _ _ S1 T
      unfold wb_10_digest_10 wp_10_mix
      rw [q_13, if_neg (nI_nlt (by omega) (by omega))]
      refine x_rule (s := s) L1.1.1.ru (nI k) ?_
      rw [nI_1]
      exact ih (k + 1) _ (by omega) he
  rw [q_1]
  exact ⟨_, k1 13 1 475 (by omega) rfl⟩
end XDG
