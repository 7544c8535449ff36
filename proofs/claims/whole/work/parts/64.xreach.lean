/-! ===== positions that can be reached: breadth first ===== -/
def lk (qu : List Nat) (t : Nat) : List Nat := if t ∈ qu then qu else qu ++ [t]
def lks (qu : List Nat) (l : List Nat) : List Nat := l.foldl lk qu
def rq (ρ : Ru) : Nat → List Nat → Nat → List Nat
  | 0, qu, _ => qu
  | f + 1, qu, i => if i < qu.length then rq ρ f (lks qu (suc ρ (ndA qu i))) (i + 1) else qu
def rchN (ρ : Ru) (q : Nat) : Nat := (rq ρ 2430 [q] 0).length
def fw (S S' : hm_S) : Prop := fr [36, 56, 58] S S' ∧ ∀ k, k ≠ 14 → S' 36 k = S 36 k
theorem fw.rf (S : hm_S) : fw S S := ⟨fr.rf _ S, fun _ _ => rfl⟩
theorem fw.tr {S S' S'' : hm_S} (h : fw S S') (h' : fw S' S'') : fw S S'' := ⟨h.1.tr h'.1, fun k hk => (h'.2 k hk).trans (h.2 k hk)⟩
theorem fw.up {S : hm_S} {a : Nat} (k : Nat) (v : Int32) (ha : a ∈ [56, 58]) : fw S (hm_up S a k v) := ⟨fr.up S k v (List.mem_cons_of_mem _ ha), fun j _ => by rw [hm_up_row S _ _ (by rintro rfl; exact absurd ha (by decide))]⟩
theorem fw.up0 {S : hm_S} (v : Int32) : fw S (hm_up S 36 14 v) := ⟨fr.up S 14 v (by decide), fun j hj => hm_up_col S v hj⟩
def RX (kn qu : List Nat) (S : hm_S) : Prop := qu.Nodup ∧ (∀ q ∈ qu, q ∈ kn) ∧ S 36 14 = nI qu.length ∧ (∀ (i q : Nat), qu[i]? = some q → S 56 i = nI (kn.idxOf q)) ∧ ∀ q ∈ kn, S 58 (kn.idxOf q) = if q ∈ qu then 1 else 0
section XR
variable {T : hm_T}
theorem x_look {kn : List Nat} (hn : kn.Nodup) (hl : ∀ q ∈ kn, q < 2430) {qu : List Nat} {S : hm_S} (hR : RX kn qu S) {q : Nat} (hq : q ∈ kn) {Q : hm_S → hm_T → Prop} (h : ∀ S', fw S S' → RX kn (lk qu q) S' → Q S' T) : wp_8_look (nI (kn.idxOf q)) S T Q := by
  have hkl := nd_len hn hl
  obtain ⟨i1, i2⟩ := ix_at hq
  obtain ⟨h1, h2, h3, h4, h5⟩ := hR
  unfold wp_8_look
  rw [e_get (by omega) (by omega)]
  simp only [Nat.reduceAdd]
  rw [h5 q hq]
  by_cases hm : q ∈ qu
  · rw [if_pos hm, if_neg (by decide)]
    refine h S (fw.rf S) ?_
    unfold lk
    rw [if_pos hm]
    exact ⟨h1, h2, h3, h4, h5⟩
  · have hn2 := nd_app h1 hm
    have hl2 : ∀ a ∈ qu ++ [q], a ∈ kn := by
      intro a ha
      rcases List.mem_append.mp ha with g | g
      · exact h2 a g
      · have e : a = q := by simpa using g
        rw [e]; exact hq
    have hlen : qu.length < 2430 := by
      have := nd_len hn2 (fun a ha => hl a (hl2 a ha))
      rw [List.length_append, List.length_singleton] at this
      omega
    rw [if_neg hm, if_pos rfl, e_set (by omega) (by omega)]
    simp only [Nat.reduceAdd]
    have a1 : hm_up S 58 (kn.idxOf q) 1 36 14 = nI qu.length := by rw [hm_up_row _ _ _ (by decide), h3]
    rw [a1, e_set hlen (by omega)]
    simp only [Nat.reduceAdd]
    have a2 : hm_up (hm_up S 58 (kn.idxOf q) 1) 56 qu.length (nI (kn.idxOf q)) 36 14 = nI qu.length := by rw [hm_up_row _ _ _ (by decide), a1]
    rw [a2, nI_1]
    refine h _ (((fw.up _ _ (by decide)).tr (fw.up _ _ (by decide))).tr (fw.up0 _)) ?_
    unfold lk
    rw [if_neg hm]
    refine ⟨hn2, hl2, by rw [hm_up_same, List.length_append, List.length_singleton], fun i p hp => ?_, fun p hp => ?_⟩
    · rcases gE_last hp with ⟨b1, b2⟩ | ⟨b1, b2⟩
      · rw [hm_up_row _ _ _ (by decide), hm_up_col _ _ (by omega), hm_up_row _ _ _ (by decide)]
        exact h4 i p b2
      · rw [b1, b2, hm_up_row _ _ _ (by decide), hm_up_same]
    · by_cases e : p = q
      · rw [e, hm_up_row _ _ _ (by decide), hm_up_row _ _ _ (by decide), hm_up_same, if_pos (by simp)]
      · have hix : kn.idxOf p ≠ kn.idxOf q := by
          intro g
          have := (ix_at hp).2
          rw [g, i2] at this
          exact e (by simpa using this.symm)
        rw [hm_up_row _ _ _ (by decide), hm_up_row _ _ _ (by decide), hm_up_col _ _ hix, h5 p hp]
        by_cases g : p ∈ qu <;> simp [g, e]
theorem x_rchIn {ρ : Ru} {kn : List Nat} {S0 : hm_S} (hx : XE ρ kn kn.length 0 S0) {a x : Nat} (ha : a < kn.length) {F : List Nat} {Q : Int32 → hm_S → hm_T → Prop} {K : Int32 → hm_S → hm_T → Prop} (h : ∀ S, fw S0 S → RX kn F S → K (nI (x + 1)) S T) : ∀ c j qu S, j + c = (suc ρ (ndA kn a)).length → lks qu ((suc ρ (ndA kn a)).drop j) = F → fw S0 S → RX kn qu S → wl_8_reachableFrom_74 Q K (c + 1) (nI x) (nI (sx ρ kn (a + 1))) (nI (sx ρ kn a + j)) S T := by
  have hk := hx.2.2.2.1
  have hkl := hk.len
  have hs := sx_s (ρ := ρ) (nd_at ha)
  have hsl : (suc ρ (ndA kn a)).length = (mv ρ (ndA kn a)).length := by unfold suc; rw [List.length_map]
  have hm := sx_mono (ρ := ρ) (kn := kn) (show a + 1 ≤ kn.length by omega)
  have hsx := sx_le (ρ := ρ) hk.nd hk.lt kn.length
  intro c
  induction c with
  | zero =>
    intro j qu S hj hF hf hR
    show wb_8_reachableFrom_74 Q K _ _ _ _ S T
    unfold wb_8_reachableFrom_74 wb_8_reachableFrom_100
    rw [if_pos (nI_le (by omega) (by omega)), nI_1]
    rw [List.drop_of_length_le (by omega)] at hF
    exact h S hf (hF ▸ hR)
  | succ c ih =>
    intro j qu S hj hF hf hR
    have hjl : j < (suc ρ (ndA kn a)).length := by omega
    obtain ⟨t, ht⟩ : ∃ t, (suc ρ (ndA kn a))[j]? = some t := ⟨_, List.getElem?_eq_getElem hjl⟩
    have htm := hx.closed (List.mem_of_getElem? (nd_at ha)) t (List.mem_of_getElem? ht)
    have had : (ad ρ kn a)[j]? = some (kn.idxOf t) := by unfold ad; rw [List.getElem?_map, ht]; rfl
    have h44 := hx.row44 ha had
    have hdr : (suc ρ (ndA kn a)).drop j = t :: (suc ρ (ndA kn a)).drop (j + 1) := by
      rw [List.drop_eq_getElem_cons hjl]
      congr 1
      rw [List.getElem?_eq_getElem hjl] at ht
      simpa using ht
    show wb_8_reachableFrom_74 Q K _ _ _ _ S T
    unfold wb_8_reachableFrom_74
    rw [if_neg (nI_ge (by omega) (by omega)), e_get (by omega) (by omega)]
    simp only [Nat.reduceAdd]
    rw [hf.1 44 (by decide), h44, nI_1]
    refine x_look hk.nd hk.lt hR htm (fun S' f' R' => ih (j + 1) (lk qu t) S' (by omega) ?_ (hf.tr f') R')
    rw [hdr] at hF
    exact hF
theorem x_reach {ρ : Ru} {kn : List Nat} {S : hm_S} (hx : XE ρ kn kn.length 0 S) {q : Nat} (hq : q ∈ kn) {Q : Int32 → hm_S → hm_T → Prop} (h : ∀ S', fw S S' → Q (nI (rchN ρ q)) S' T) : wp_8_reachableFrom (nI q) S T Q := by
  have hk := hx.2.2.2.1
  have hkl := hk.len
  obtain ⟨i1, i2⟩ := ix_at hq
  have out : ∀ c i qu S1, i + c = 2430 → (rq ρ c qu i).length = rchN ρ q → fw S S1 → RX kn qu S1 → wl_8_reachableFrom_28 Q (c + 1) (nI i) S1 T := by
    intro c
    induction c with
    | zero =>
      intro i qu S1 hi he hf hR
      have hl := nd_len hR.1 (fun a ha => hk.lt a (hR.2.1 a ha))
      show wb_8_reachableFrom_28 Q _ _ S1 T
      unfold wb_8_reachableFrom_28
      rw [hR.2.2.1, if_pos (nI_le (by omega) (by omega)), show qu.length = rchN ρ q from he]
      exact h S1 hf
    | succ c ih =>
      intro i qu S1 hi he hf hR
      have hl := nd_len hR.1 (fun a ha => hk.lt a (hR.2.1 a ha))
      show wb_8_reachableFrom_28 Q _ _ S1 T
      unfold wb_8_reachableFrom_28
      rw [hR.2.2.1]
      simp only [rq] at he
      by_cases hil : i < qu.length
      · rw [if_pos hil] at he
        have hat := nd_at hil
        have hmk := hR.2.1 _ (List.mem_of_getElem? hat)
        obtain ⟨j1, j2⟩ := ix_at hmk
        have hxm := sx_mono (ρ := ρ) (kn := kn) (show kn.idxOf (ndA qu i) ≤ kn.length by omega)
        rw [if_neg (nI_ge hil (by omega)), if_neg (show ¬ (2430 : Int32) ≤ nI i by rw [q_2430]; exact nI_ge (by omega) (by omega)), e_get (by omega) (by omega)]
        simp only [Nat.reduceAdd]
        rw [hR.2.2.2.1 i _ hat, nI_1, e_get (by omega) (by omega), e_get (by omega) (by omega)]
        simp only [Nat.reduceAdd]
        rw [hf.1 42 (by decide), hx.2.2.2.2.1 _ (show kn.idxOf (ndA qu i) + 1 ≤ kn.length by omega), hx.2.2.2.2.1 _ (show kn.idxOf (ndA qu i) ≤ kn.length by omega)]
        refine ⟨_, x_rchIn hx j1 (F := lks qu (suc ρ (ndA qu i))) (fun S2 f2 R2 => ih (i + 1) _ S2 (by omega) he f2 R2) (suc ρ (ndA kn (kn.idxOf (ndA qu i)))).length 0 qu S1 (by omega) ?_ hf hR⟩
        rw [nd_eq j2, List.drop_zero]
      · rw [if_neg hil] at he
        rw [if_pos (nI_le (by omega) (by omega)), he]
        exact h S1 hf
  unfold wp_8_reachableFrom
  refine z_clear (by omega) ?_
  simp only [Nat.reduceAdd]
  have f1 : fr [36, 56, 58] S (hm_fill S 58 2430 0) := fr.fill S _ _ (by decide)
  have f2 : fw S (hm_up (hm_fill S 58 2430 0) 36 14 0) := ⟨f1.tr (fr.up _ _ _ (by decide)), fun k h1 => by rw [hm_up_col _ _ h1]; simp [hm_fill]⟩
  rw [e_get (hk.lt q hq) (by omega)]
  simp only [Nat.reduceAdd]
  rw [f2.1 38 (by decide), (hk.at' _ q i2).2, nI_pred]
  refine x_look hk.nd hk.lt (qu := []) ⟨List.nodup_nil, fun a ha => absurd ha (by simp), hm_up_same _ _ _ _, fun i p hp => absurd hp (by simp), fun p hp => ?_⟩ hq (fun S' f' R' => ?_)
  · have := (ix_at hp).1
    rw [hm_up_row _ _ _ (by decide)]
    have h3 : kn.idxOf p < 2430 := by omega
    simp [hm_fill, h3]
  · rw [q_0]
    exact ⟨_, out 2430 0 [q] S' (by omega) rfl (f2.tr f') (by simpa [lk] using R')⟩
end XR
