/-! ===== the class: learn, outcome, distance, best, good ===== -/
def SV (ρ : Ru) (S : hm_S) : Prop := ∃ kn, XE ρ kn kn.length 0 S ∧ (S 36 15 = 0 ∨ (S 36 15 = 1 ∧ solX ρ kn S))
def fX : List Nat := [19, 21, 23, 25, 27, 29, 31, 33, 35, 36, 38, 40, 42, 44, 46, 48, 50, 52, 54, 56, 58]
theorem solX.fr {c kn : List Nat} {ρ : Ru} {S S' : hm_S} (h : solX ρ kn S) (hf : fr c S S') (hc : ∀ a ∈ [50, 52], a ∉ c) : solX ρ kn S' := by
  unfold solX
  rw [hf 50 (hc 50 (by decide)), hf 52 (hc 52 (by decide))]
  exact h
theorem XE.fm {ρ : Ru} {kn : List Nat} {S S' : hm_S} (hx : XE ρ kn kn.length 0 S) (hf : fm S S') (hl : lcX ρ S') : XE ρ kn kn.length 0 S' := ⟨hf.tab hx.1, hf.ru hx.2.1, hl, hx.2.2.2.1.fr hf (by decide) (by rw [hf 36 (by decide)]), hx.2.2.2.2.fr hf (by decide)⟩
section XL
variable {T : hm_T}
theorem x_learn {ρ : Ru} (hr : rok ρ) {S : hm_S} (hS : SV ρ S) {q : Nat} (hq : q < 2430) {Q : hm_S → hm_T → Prop} (h : ∀ kn S', fr fX S S' → q ∈ kn → XE ρ kn kn.length 0 S' → S' 36 15 = 1 → solX ρ kn S' → Q S' T) : wp_8_explore (nI q) S T (fun S1 T1 => wp_8_solve S1 T1 Q) := by
  obtain ⟨kn, hx, hs⟩ := hS
  refine x_explore hr hq hx (fun kn1 S1 hq1 he1 hs1 f1 x1 => ?_)
  have hs2 : S1 36 15 = 0 ∨ (S1 36 15 = 1 ∧ solX ρ kn1 S1) := by
    rcases hs1 with ⟨e1, e2⟩ | e
    · rcases hs with e3 | ⟨e3, e4⟩
      · exact Or.inl (e2.trans e3)
      · exact Or.inr ⟨e2.trans e3, by rw [e1]; exact e4.fr f1 (by decide)⟩
    · exact Or.inl e
  exact x_solve hr x1 hs2 (fun S2 f2 h15 s2 => h kn1 S2 ((f1.mono (by decide)).tr (f2.1.mono (by decide))) hq1 (f2.XE x1) h15 s2)
theorem x_learnHere {ρ : Ru} (hr : rok ρ) {S : hm_S} (hS : SV ρ S) {q : Nat} (hq : q < 2430) (h9 : S 0 9 = nI q) {Q : hm_S → hm_T → Prop} (h : ∀ kn S', fr fX S S' → q ∈ kn → XE ρ kn kn.length 0 S' → S' 36 15 = 1 → solX ρ kn S' → ml (mv ρ q) S' → Q S' T) : wp_10_learnHere S T Q := by
  unfold wp_10_learnHere
  rw [h9]
  refine x_learn hr hS hq (fun kn S1 f1 hq1 x1 h15 s1 => ?_)
  have e9 : S1 0 9 = nI q := by rw [f1 0 (by decide), h9]
  rw [e9]
  refine x_list hr hq x1.1 x1.2.1 (x1.2.2.1 q hq) (fun S2 f2 h12 hm => ?_)
  exact h kn S2 (f1.tr (f2.mono (by decide))) hq1 (x1.fm f2 (lcX.mk hq h12 hm)) (by rw [f2 36 (by decide), h15]) (s1.fr f2 (by decide)) hm
theorem x_outcome {ρ : Ru} (hr : rok ρ) {S : hm_S} (hS : SV ρ S) {q : Nat} (hq : q < 2430) (h9 : S 0 9 = nI q) {Q : Int32 → hm_S → hm_T → Prop} (h : ∀ S', fr fX S S' → SV ρ S' → Q (nI (oF ρ q)) S' T) : wp_10_outcome S T Q := by
  unfold wp_10_outcome wp_10_learn
  rw [h9]
  refine x_learn hr hS hq (fun kn S1 f1 hq1 x1 h15 s1 => ?_)
  show wp_8_outcomeOf (S1 0 9) S1 T _
  rw [f1 0 (by decide), h9]
  exact x_outcomeOf x1.2.2.2.1 s1 hq1 (h S1 f1 ⟨kn, x1, Or.inr ⟨h15, s1⟩⟩)
theorem x_distance {ρ : Ru} (hr : rok ρ) {S : hm_S} (hS : SV ρ S) {q : Nat} (hq : q < 2430) (h9 : S 0 9 = nI q) {Q : Int32 → hm_S → hm_T → Prop} (h : ∀ S', fr fX S S' → SV ρ S' → Q (dI ρ q) S' T) : wp_10_distance S T Q := by
  unfold wp_10_distance wp_10_learn
  rw [h9]
  refine x_learn hr hS hq (fun kn S1 f1 hq1 x1 h15 s1 => ?_)
  show wp_8_distanceOf (S1 0 9) S1 T _
  rw [f1 0 (by decide), h9]
  exact x_distanceOf x1.2.2.2.1 s1 hq1 (h S1 f1 ⟨kn, x1, Or.inr ⟨h15, s1⟩⟩)
theorem x_bestMove {ρ : Ru} (hr : rok ρ) {kn : List Nat} {q : Nat} (hq : q < 2430) (hqk : q ∈ kn) {S : hm_S} (hx : XE ρ kn kn.length 0 S) (hs : solX ρ kn S) (hm : ml (mv ρ q) S) {Q : Int32 → hm_S → hm_T → Prop} (h : Q (bsN ρ q) S T) : wp_10_bestMove S T Q := by
  have hc : clo ρ kn := fun q hq => hx.closed hq
  unfold wp_10_bestMove wp_10_goodOutcome
  rw [q_0]
  refine ⟨_, x_goalLoop hr hq hqk hx.2.2.2.1 hc hs hm (fun x hx' => ?_) (mv ρ q).length 0 1 (-1) (by omega) (Or.inl rfl) (Or.inr ⟨rfl, rfl, rfl⟩) rfl⟩
  exact ⟨_, x_bestLoop hr hq hqk hx.2.2.2.1 hc hs hm hx' h (mv ρ q).length 0 (-1) (-1) (by omega) rfl⟩
theorem x_best {ρ : Ru} (hr : rok ρ) {S : hm_S} (hS : SV ρ S) {q : Nat} (hq : q < 2430) (h9 : S 0 9 = nI q) {Q : Int32 → hm_S → hm_T → Prop} (h : ∀ S', fr fX S S' → SV ρ S' → Q (bsN ρ q) S' T) : wp_10_best S T Q := by
  unfold wp_10_best
  refine x_learnHere hr hS hq h9 (fun kn S1 f1 hq1 x1 h15 s1 hm => ?_)
  exact x_bestMove hr hq hq1 x1 s1 hm (h S1 f1 ⟨kn, x1, Or.inr ⟨h15, s1⟩⟩)
theorem x_good {ρ : Ru} (hr : rok ρ) {S : hm_S} (hS : SV ρ S) {q : Nat} (hq : q < 2430) (h9 : S 0 9 = nI q) {Q : Int32 → hm_S → hm_T → Prop} (h : ∀ S', fr fX S S' → SV ρ S' → Q (nI (gdN ρ q)) S' T) : wp_10_good S T Q := by
  unfold wp_10_good wp_10_goodMoves wp_10_goodOutcome
  refine x_learnHere hr hS hq h9 (fun kn S1 f1 hq1 x1 h15 s1 hm => ?_)
  have hc : clo ρ kn := fun q hq => x1.closed hq
  rw [q_0]
  refine ⟨_, x_goalLoop hr hq hq1 x1.2.2.2.1 hc s1 hm (fun x hx' => ?_) (mv ρ q).length 0 1 (-1) (by omega) (Or.inl rfl) (Or.inr ⟨rfl, rfl, rfl⟩) rfl⟩
  exact ⟨_, x_goodLoop hr hq hq1 x1.2.2.2.1 hc s1 hm hx' (h S1 f1 ⟨kn, x1, Or.inr ⟨h15, s1⟩⟩) (mv ρ q).length 0 0 (by omega) (by rw [Nat.zero_add, List.drop_zero]; rfl)⟩
end XL
