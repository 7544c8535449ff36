
theorem lw_sev {A : Array Value} {s : State} {own : String} {k : Nat} {v : Value} (h : (Term.string own k).eval A s none [] s = some v) : (Term.string own k).eval #[] s none [] s = some v := h
theorem lw_nestF {args : Array Value} {s : State} (hts : ∀ w ∈ lw_tbl, w.before args s = true) : ∀ q ∈ hm_nF, va_Nw (.fieldLinkNest q.1 q.2.1 q.2.2.1 q.2.2.2.1 q.2.2.2.2.1 q.2.2.2.2.2) s := by
  intro q hq
  simp only [hm_nF, List.mem_cons, List.not_mem_nil, or_false] at hq
  rcases hq with rfl | rfl | rfl | rfl | rfl | rfl | rfl | rfl | rfl | rfl | rfl | rfl | rfl | rfl | rfl | rfl
  · exact va_Nw.of rfl (hts _ (List.mem_of_getElem? (i := 121) (by decide +kernel)))
  · exact va_Nw.of rfl (hts _ (List.mem_of_getElem? (i := 123) (by decide +kernel)))
  · exact va_Nw.of rfl (hts _ (List.mem_of_getElem? (i := 125) (by decide +kernel)))
  · exact va_Nw.of rfl (hts _ (List.mem_of_getElem? (i := 126) (by decide +kernel)))
  · exact va_Nw.of rfl (hts _ (List.mem_of_getElem? (i := 209) (by decide +kernel)))
  · exact va_Nw.of rfl (hts _ (List.mem_of_getElem? (i := 211) (by decide +kernel)))
  · exact va_Nw.of rfl (hts _ (List.mem_of_getElem? (i := 213) (by decide +kernel)))
  · exact va_Nw.of rfl (hts _ (List.mem_of_getElem? (i := 215) (by decide +kernel)))
  · exact va_Nw.of rfl (hts _ (List.mem_of_getElem? (i := 217) (by decide +kernel)))
  · exact va_Nw.of rfl (hts _ (List.mem_of_getElem? (i := 222) (by decide +kernel)))
  · exact va_Nw.of rfl (hts _ (List.mem_of_getElem? (i := 224) (by decide +kernel)))
  · exact va_Nw.of rfl (hts _ (List.mem_of_getElem? (i := 347) (by decide +kernel)))
  · exact va_Nw.of rfl (hts _ (List.mem_of_getElem? (i := 348) (by decide +kernel)))
  · exact va_Nw.of rfl (hts _ (List.mem_of_getElem? (i := 349) (by decide +kernel)))
  · exact va_Nw.of rfl (hts _ (List.mem_of_getElem? (i := 350) (by decide +kernel)))
  · exact va_Nw.of rfl (hts _ (List.mem_of_getElem? (i := 398) (by decide +kernel)))

theorem lw_nestM {args : Array Value} {s : State} (hts : ∀ w ∈ lw_tbl, w.before args s = true) : ∀ q ∈ hm_nM, va_Nw (.methodLinkNest q.1 q.2.1 q.2.2.1 q.2.2.2) s := by
  intro q hq
  simp only [hm_nM, List.mem_cons, List.not_mem_nil, or_false] at hq
  rcases hq with rfl | rfl | rfl | rfl | rfl | rfl | rfl | rfl | rfl | rfl | rfl | rfl | rfl | rfl | rfl
  · exact va_Nw.of rfl (hts _ (List.mem_of_getElem? (i := 102) (by decide +kernel)))
  · exact va_Nw.of rfl (hts _ (List.mem_of_getElem? (i := 152) (by decide +kernel)))
  · exact va_Nw.of rfl (hts _ (List.mem_of_getElem? (i := 159) (by decide +kernel)))
  · exact va_Nw.of rfl (hts _ (List.mem_of_getElem? (i := 170) (by decide +kernel)))
  · exact va_Nw.of rfl (hts _ (List.mem_of_getElem? (i := 339) (by decide +kernel)))
  · exact va_Nw.of rfl (hts _ (List.mem_of_getElem? (i := 361) (by decide +kernel)))
  · exact va_Nw.of rfl (hts _ (List.mem_of_getElem? (i := 389) (by decide +kernel)))
  · exact va_Nw.of rfl (hts _ (List.mem_of_getElem? (i := 708) (by decide +kernel)))
  · exact va_Nw.of rfl (hts _ (List.mem_of_getElem? (i := 715) (by decide +kernel)))
  · exact va_Nw.of rfl (hts _ (List.mem_of_getElem? (i := 773) (by decide +kernel)))
  · exact va_Nw.of rfl (hts _ (List.mem_of_getElem? (i := 774) (by decide +kernel)))
  · exact va_Nw.of rfl (hts _ (List.mem_of_getElem? (i := 785) (by decide +kernel)))
  · exact va_Nw.of rfl (hts _ (List.mem_of_getElem? (i := 786) (by decide +kernel)))
  · exact va_Nw.of rfl (hts _ (List.mem_of_getElem? (i := 807) (by decide +kernel)))
  · exact va_Nw.of rfl (hts _ (List.mem_of_getElem? (i := 809) (by decide +kernel)))

/-- the classes' numbers, the arrays' classes, the nest: all that the context says -/
theorem lw_ctx {args : Array Value} {s : State} (hts : ∀ w ∈ lw_tbl, w.before args s = true) : ∃ G : hm_G, hm_K G s := by
  have ht : ∀ w ∈ hm_tbl, w.before args s = true := fun w h => hts w (List.mem_filter.mp h).1
  obtain ⟨c0, i0, k0⟩ := u_known (C := "HeapGames$GrundyValues") (T := TX0) (N := 6) (n := 6) ht hin_0 (ht _ hq_311)
  obtain ⟨c1, i1, k1⟩ := u_known (C := "HeapGames$History") (T := TX1) (N := 3) (n := 3) ht hin_1 (ht _ hq_388)
  obtain ⟨c2, i2, k2⟩ := u_known (C := "HeapGames$Layouts") (T := TX2) (N := 8) (n := 8) ht hin_2 (ht _ hq_137)
  obtain ⟨c3, i3, k3⟩ := u_known (C := "HeapGames$Moves") (T := TX3) (N := 13) (n := 13) ht hin_3 (ht _ hq_199)
  obtain ⟨c4, i4, k4⟩ := u_known (C := "HeapGames$PositionReader") (T := TX4) (N := 3) (n := 3) ht hin_4 (ht _ hq_372)
  obtain ⟨c5, i5, k5⟩ := u_known (C := "HeapGames$Row") (T := TX5) (N := 1) (n := 1) ht hin_5 (ht _ hq_107)
  obtain ⟨c6, i6, k6⟩ := u_known (C := "HeapGames$Rules") (T := TX6) (N := 4) (n := 4) ht hin_6 (ht _ hq_101)
  obtain ⟨c7, i7, k7⟩ := u_known (C := "HeapGames$RulesReader") (T := TX7) (N := 1) (n := 1) ht hin_7 (ht _ hq_360)
  obtain ⟨c8, i8, k8⟩ := u_known (C := "HeapGames$Solver") (T := TX8) (N := 16) (n := 16) ht hin_8 (ht _ hq_254)
  obtain ⟨c9, i9, k9⟩ := u_known (C := "HeapGames$Text") (T := TX9) (N := 3) (n := 3) ht hin_9 (ht _ hq_338)
  obtain ⟨c10, i10, k10⟩ := u_known (C := "HeapGames") (T := TX10) (N := 10) (n := 10) ht hin_10 (ht _ hq_93)
  obtain ⟨c11, i11, k11⟩ := u_known (C := "HeapGamesModel") (T := TX11) (N := 34) (n := 34) ht hin_11 (ht _ hq_985)
  obtain ⟨c_int, k_int, q_int, f_int, g_int, h_int⟩ := Cond.arrayClass_spec (ht _ hq_119)
  obtain ⟨c_long, k_long, q_long, f_long, g_long, h_long⟩ := Cond.arrayClass_spec (ht _ hq_1111)
  obtain ⟨c_boolean, k_boolean, q_boolean, f_boolean, g_boolean, h_boolean⟩ := Cond.arrayClass_spec (ht _ hq_1112)
  refine ⟨((fun k => if k = 0 then c0 else if k = 1 then c1 else if k = 2 then c2 else if k = 3 then c3 else if k = 4 then c4 else if k = 5 then c5 else if k = 6 then c6 else if k = 7 then c7 else if k = 8 then c8 else if k = 9 then c9 else if k = 10 then c10 else c11, fun k => if k = 0 then i0 else if k = 1 then i1 else if k = 2 then i2 else if k = 3 then i3 else if k = 4 then i4 else if k = 5 then i5 else if k = 6 then i6 else if k = 7 then i7 else if k = 8 then i8 else if k = 9 then i9 else if k = 10 then i10 else i11), c_int, c_long, c_boolean), ⟨fun k q hq => ?_, fun k q hq => ?_⟩, lw_nestF hts, lw_nestM hts⟩
  · match k, hq with
    | 0, hq => cases hq; exact k0
    | 1, hq => cases hq; exact k1
    | 2, hq => cases hq; exact k2
    | 3, hq => cases hq; exact k3
    | 4, hq => cases hq; exact k4
    | 5, hq => cases hq; exact k5
    | 6, hq => cases hq; exact k6
    | 7, hq => cases hq; exact k7
    | 8, hq => cases hq; exact k8
    | 9, hq => cases hq; exact k9
    | 10, hq => cases hq; exact k10
    | 11, hq => cases hq; exact k11
    | k + 12, hq => simp [hm_cl] at hq
  · match k, hq with
    | 0, hq => cases hq; exact ⟨fun n z => ⟨fun k h => (by cases h), k_int, g_int, q_int, h_int⟩, f_int⟩
    | 1, hq => cases hq; exact ⟨fun n z => ⟨fun k h => (by cases h), k_long, g_long, q_long, h_long⟩, f_long⟩
    | 2, hq => cases hq; exact ⟨fun n z => ⟨fun k h => (by cases h), k_boolean, g_boolean, q_boolean, h_boolean⟩, f_boolean⟩
    | k + 3, hq => simp at hq
def tmJ (i : Nat) : Term := .string "HeapGames$RulesReader" (strJ.getD i (0, "", 0)).1
theorem lw_j1 : ∀ i, i < 9 → Cond.exactly (tmJ i) "java/lang/String" ∈ flatC (Jvm.Cond.and given_1 narrow_1) := by decide +kernel
theorem lw_j2 : ∀ i, i < 9 → Cond.eq (.field (tmJ i) "java/lang/String" "coder" "B") (.int 0) ∈ flatC (Jvm.Cond.and given_1 narrow_1) := by decide +kernel
theorem lw_j3 : ∀ i, i < 9 → Cond.arrayOf (.field (tmJ i) "java/lang/String" "value" "[B") .byte ∈ flatC (Jvm.Cond.and given_1 narrow_1) := by decide +kernel
theorem lw_j4 : ∀ i, i < 9 → Cond.eq (.length (.field (tmJ i) "java/lang/String" "value" "[B")) (.int (Int32.ofNat (lenJl.getD i 0))) ∈ flatC (Jvm.Cond.and given_1 narrow_1) := by decide +kernel
theorem lw_j5 : ∀ i, i < 9 → ∀ j, j < lenJl.getD i 0 → Cond.eq (.elem (.field (tmJ i) "java/lang/String" "value" "[B") (.int (Int32.ofNat j))) (.int ((bytJl.getD i []).getD j 0)) ∈ flatC (Jvm.Cond.and given_1 narrow_1) := by decide +kernel
theorem lw_j6 : ∀ i, i < 9 → ∀ j, j < 9 → i ≠ j → Cond.not (Cond.eq (tmJ i) (tmJ j)) ∈ flatC (Jvm.Cond.and given_1 narrow_1) ∨ Cond.not (Cond.eq (tmJ j) (tmJ i)) ∈ flatC (Jvm.Cond.and given_1 narrow_1) := by decide +kernel
theorem lw_j7 : Cond.eq (.static "java/lang/String" "COMPACT_STRINGS" "Z") (.int 1) ∈ flatC (Jvm.Cond.and given_1 narrow_1) := by decide +kernel
theorem lw_j8 : Cond.isRef (.static "jdk/internal/util/Preconditions" "SIOOBE_FORMATTER" "Ljava/util/function/BiFunction;") ∈ flatC (Jvm.Cond.and given_1 narrow_1) := by decide +kernel
theorem lw_j9 : ∀ i, i < 9 → lenJl.getD i 0 < 2 ^ 31 := by decide +kernel
/-- the literals and the JDK's statics, at the law's entry -/
theorem lw_strs {args : Array Value} {s : State} (hts : ∀ w ∈ lw_tbl, w.before args s = true) (hgv : (Jvm.Cond.and given_1 narrow_1).before args s = true) : ∃ adK adV : Nat → Nat, hm_Jh adK adV s.heap.size s.heap s := by
  have ht : ∀ w ∈ hm_tbl, w.before args s = true := fun w h => hts w (List.mem_filter.mp h).1
  have hf := flat_of_before _ hgv
  have hA : ∀ a : Nat, a < s.heap.size → ¬ hm_ge s.heap.size a := fun a h => Nat.not_le.mpr h
  obtain ⟨adK, adV, hS, hE⟩ := vk_Sof (N := 9) (tm := tmJ) (len := lenJl) (byt := bytJl) (A := hm_ge s.heap.size) lw_j9 (fun i hi => hf _ (lw_j1 i hi)) (fun i hi => hf _ (lw_j2 i hi)) (fun i hi => hf _ (lw_j3 i hi)) (fun i hi => hf _ (lw_j4 i hi)) (fun i hi j hj => hf _ (lw_j5 i hi j hj)) (fun i j hi hj hij => (lw_j6 i hi j hj hij).imp (fun h => hf _ h) (fun h => hf _ h)) hA
  refine ⟨adK, adV, hS, va_Zof (hts _ (List.mem_of_getElem? (i := 554) (by decide +kernel))) (ht _ hq_88) (va_eqi (hf _ lw_j7)) hA, va_Zqof (hts _ (List.mem_of_getElem? (i := 570) (by decide +kernel))) (ht _ hq_90) (hf _ lw_j8) hA, ?_⟩
  intro q hq
  simp only [strJ, List.mem_cons, List.not_mem_nil, or_false] at hq
  rcases hq with rfl | rfl | rfl | rfl | rfl | rfl | rfl | rfl | rfl
  · exact vk_R.of (A := args) (hts (Cond.stringRef "HeapGames$RulesReader" 73 "nim") (List.mem_of_getElem? (i := 540) (by decide +kernel))) (hE 0 (by decide))
  · exact vk_R.of (A := args) (hts (Cond.stringRef "HeapGames$RulesReader" 79 "3333333333") (List.mem_of_getElem? (i := 593) (by decide +kernel))) (hE 1 (by decide))
  · exact vk_R.of (A := args) (hts (Cond.stringRef "HeapGames$RulesReader" 81 "kayles") (List.mem_of_getElem? (i := 594) (by decide +kernel))) (hE 2 (by decide))
  · exact vk_R.of (A := args) (hts (Cond.stringRef "HeapGames$RulesReader" 83 "77") (List.mem_of_getElem? (i := 595) (by decide +kernel))) (hE 3 (by decide))
  · exact vk_R.of (A := args) (hts (Cond.stringRef "HeapGames$RulesReader" 85 "dawson") (List.mem_of_getElem? (i := 596) (by decide +kernel))) (hE 4 (by decide))
  · exact vk_R.of (A := args) (hts (Cond.stringRef "HeapGames$RulesReader" 87 "137") (List.mem_of_getElem? (i := 597) (by decide +kernel))) (hE 5 (by decide))
  · exact vk_R.of (A := args) (hts (Cond.stringRef "HeapGames$RulesReader" 89 "guiles") (List.mem_of_getElem? (i := 598) (by decide +kernel))) (hE 6 (by decide))
  · exact vk_R.of (A := args) (hts (Cond.stringRef "HeapGames$RulesReader" 91 "15") (List.mem_of_getElem? (i := 599) (by decide +kernel))) (hE 7 (by decide))
  · exact vk_R.of (A := args) (hts (Cond.stringRef "HeapGames$RulesReader" 93 "") (List.mem_of_getElem? (i := 600) (by decide +kernel))) (hE 8 (by decide))
/-- what is left to show, without the machine -/
def hm_VC : Prop := ∀ (xs : Nat → Int32) (L : Nat), L ≤ 2048 → wp_10_init (fun _ _ => 0) (fun _ _ => 0) (fun S T => wp_11_init (fun _ _ => 0) (fun _ _ => 0) (fun U V => ∃ f, wl_12_law_18 xs L f 0 S T U V))
set_option maxHeartbeats 8000000 in
set_option maxRecDepth 40000 in
theorem whole_start_open (hvc : hm_VC) {p : Program} {e : Env} {s : State} {m : MethodId} {below : List Frame} {meth : Method} {c : Code} (l : Launch) {b L : Nat} {xs : Nat → Int32} (hL : L ≤ 2048) (C0 : lw_At p s m meth c b L xs) : W p l e room_1 s m #[Value.ref b] below meth c s.heap [] 0 0 (lw_Z below #[Value.ref b] s) (entryFrame m ([Value.ref b] : List Value).toArray 4) := by
  obtain ⟨hx, hb, hr, hml, hown, hts, hX, hbl, hlocks, hgv⟩ := id C0
  obtain ⟨G, hK⟩ := lw_ctx hts
  obtain ⟨adK, adV, hJ0⟩ := lw_strs hts hgv
  have cx : hm_cx G p s m #[Value.ref b] c code 4 "HeapGamesLaw" := ⟨⟨hx, hb, hml, hown, fun w h => hts w (List.mem_filter.mp h).1⟩, hK⟩
  have h := hvc xs L hL
  have hl := lv_entry ([.ref b]) (n := 4) (Nat.le_of_ble_eq_true rfl)
  rw [lg_entry_eq]
  generalize (lg_sl ([.ref b]) ++ List.replicate (4 - (lg_sl ([.ref b])).length) Slot.unset).toArray = ls at hl ⊢
  have hl : lv_has ls 4 [(0, .ref b)] := hl
  obtain ⟨o, ho⟩ : ∃ o, o = s.heap.size := ⟨_, rfl⟩
  rw [← ho] at hJ0
  have hw : hm_wc G s.heap o [] (fun _ _ => 0) (fun _ _ => 0) s.heap := ⟨ho.symm, fun _ _ => rfl, fun i hi => absurd hi (Nat.not_lt_zero i)⟩
  refine hm_cnew (ci := 10) cx hw hin_10 tyX10 tyX10_ok rfl hq_92 hq_93 hq_74 [1, 1, 1, 1, 1, 1, 1, 1, 1, 0] dfX10 (fun _ => rfl) (fun _ => rfl) (Nat.le_of_ble_eq_true rfl) (Nat.le_of_ble_eq_true rfl) d_12_law_0 (fun H hw => ?_)
  replace hw : hm_wc G s.heap o lc_112 _ _ H := hw
  refine lv_dup hx hb d_12_law_3 rfl ?_
  refine hm_cinit (hm_rI (i := 0) (As := []) (rest := [.ref (o + 0)]) cx hw (ct_10_init h) (mi_12_9 cx.1.2.2.2.2 ⟨Nat.le_of_ble_eq_true rfl, Nat.le_of_ble_eq_true rfl⟩) rfl hl.1 rfl (Nat.le_of_ble_eq_true rfl) d_12_law_4 ⟨Nat.le_of_ble_eq_true rfl, Nat.le_of_ble_eq_true rfl⟩) (hm_Lc0 o) (fun S T H locs h hw hL1 => ?_)
  replace hw : hm_wc G s.heap o shXl S T H := hw
  refine lv_astore_n (lv' := [(1, .ref (o + 0)), (0, .ref b)]) hx hb d_12_law_7 rfl hl (by decide) rfl (fun ls hl => ?_)
  have hsz : H.size = o + 74 := hw.1
  have hw2 : hm_wc G H (o + 74) [] (fun _ _ => 0) (fun _ _ => 0) H := ⟨hsz, fun _ _ => rfl, fun i hi => absurd hi (Nat.not_lt_zero i)⟩
  refine hm_cnew (ci := 11) cx hw2 hin_11 tyX11 tyX11_ok rfl hq_984 hq_985 hq_86 [1, 1, 1, 1, 0, 0, 0, 0, 1, 0, 1, 0, 1, 1, 1, 1, 1, 1, 0, 0, 1, 1, 1, 1, 1, 0, 0, 0, 1, 1, 1, 1, 1, 2] dfX11 (fun _ => rfl) (fun _ => rfl) (Nat.le_of_ble_eq_true rfl) (Nat.le_of_ble_eq_true rfl) d_12_law_8 (fun H2 hw2 => ?_)
  replace hw2 : hm_wc G H (o + 74) lc_122 _ _ H2 := hw2
  refine lv_dup hx hb d_12_law_11 rfl ?_
  refine va_forget (fun q hq => by rw [← ho]; exact hL1 q hq) ?_
  refine hm_cinit (hm_rI (i := 0) (As := []) (rest := [.ref (o + 74 + 0)]) cx hw2 (ct_11_init h) (mi_12_12 cx.1.2.2.2.2 ⟨Nat.le_of_ble_eq_true rfl, Nat.le_of_ble_eq_true rfl⟩) rfl hl.1 rfl (Nat.le_of_ble_eq_true rfl) d_12_law_12 ⟨Nat.le_of_ble_eq_true rfl, Nat.le_of_ble_eq_true rfl⟩) (hm_Lc0 (o + 74)) (fun U V H2 locs h hw2 hL2 => ?_)
  replace hw2 : hm_wc G H (o + 74) shMl U V H2 := hw2
  refine lv_astore_n (lv' := [(2, .ref (o + 74 + 0)), (1, .ref (o + 0)), (0, .ref b)]) hx hb d_12_law_15 rfl hl (by decide) rfl (fun ls hl => ?_)
  refine lv_iconst (v := 0) hx hb d_12_law_16 (by decide) ?_
  refine lv_istore_n (lv' := [(3, .int 0), (2, .ref (o + 74 + 0)), (1, .ref (o + 0)), (0, .ref b)]) hx hb d_12_law_17 rfl hl (by decide) rfl (fun ls hl => ?_)
  obtain ⟨f, h⟩ := h
  have hX1 : hm_w G H o 74 shX S T H := hw.w
  have hM1 : hm_w G H2 (o + 74) 23 shM U V H2 := hw2.w
  have hB : lw_B G s.heap o S T U V H2 := ⟨hX1.off (fun i hi => hw2.2.1 _ (by omega)), hM1, fun q hq => (hw2.2.1 q (by omega)).trans (hw.2.1 q hq), by rw [hw2.1]; omega, ho⟩
  have hLo : hm_Lc o locs := fun q hq => Nat.le_trans (Nat.le_add_right o 74) (hL2 q hq)
  exact lp_12_law_18 cx hJ0 ho hX hbl hr hlocks f _ _ _ _ _ _ _ _ h hB hLo (lv_sub hl [3, 2, 1, 0] rfl)
