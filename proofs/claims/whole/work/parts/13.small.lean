section WK
variable {p : Program} {l : Launch} {e : Env} {s : State} {m : MethodId} {args : Array Value} {below : List Frame} {meth : Method} {c : Code} {G : hm_G} {H0 : Heap} {o n : Nat} {sh : hm_Sh}
/-! ===== HeapGames$Rules.digitOf(I)I ===== -/
theorem d_6_digitOf_0 : decode prog_8_method_2_code 0 = .ok (.aload_n 0, 1) := by decide +kernel
theorem d_6_digitOf_1 : decode prog_8_method_2_code 1 = .ok (.getfield 14, 3) := by decide +kernel
theorem d_6_digitOf_4 : decode prog_8_method_2_code 4 = .ok (.iload_n 1, 1) := by decide +kernel
theorem d_6_digitOf_5 : decode prog_8_method_2_code 5 = .ok (.invokevirtual 20, 3) := by decide +kernel
theorem d_6_digitOf_8 : decode prog_8_method_2_code 8 = .ok (.ireturn, 1) := by decide +kernel
def wp_6_digitOf (x1 : Int32) (S : hm_S) (T : hm_T) (Q : Int32 → hm_S → hm_T → Prop) : Prop :=
  wp_5_get 2 11 x1 S T (fun r1 S1 T1 => Q r1 S1 T1)
set_option maxHeartbeats 4000000 in
set_option maxRecDepth 20000 in
theorem bk_6_digitOf_0 {Q : Int32 → hm_S → hm_T → Prop} (cx : hm_cx G p s m args c prog_8_method_2_code 2 "HeapGames$Rules") (hr : meth.sig.returnType = some .int) (hlk : meth.locks = false) {x1 : Int32} {S : hm_S} {T : hm_T} {H : Heap} {locs : List Loc} {ls : Array Slot} (h : wp_6_digitOf x1 S T Q) (hw : hm_w G H0 o 74 shX S T H) (hL : hm_L o 74 locs) (hl : lv_has ls 2 [(0, .ref (o + 1)), (1, .int x1)]) : W p l e rm_6_digitOf s m args below meth c H locs 0 0 (MQ below (hm_Qi G H0 o 74 shX Q) args s 0 0 (t_fr o (o + 74))) (F0 m 0 ls []) := by
  have hx := cx.1.1
  have hb := cx.1.2.1
  unfold wp_6_digitOf at h
  refine lv_aload_n hx hb d_6_digitOf_0 rfl (lv_at hl 0 rfl) ?_
  refine gf_6_14 cx hw (i := 1) (r := 2) (by decide) sx_1 rfl d_6_digitOf_1 ?_
  refine lv_iload_n hx hb d_6_digitOf_4 rfl (lv_at hl 1 rfl) ?_
  refine hm_calli (hm_rV (i := 2) (As := [.int x1]) (rest := []) cx hw (ct_5_get (by decide) sx_2 sx_3 h) (mw_6_20 cx.1.2.2.2.2 ⟨Nat.le_of_ble_eq_true rfl, Nat.le_of_ble_eq_true rfl⟩) (by decide) sx_2 rfl rfl hl.1 rfl (Nat.le_of_ble_eq_true rfl) d_6_digitOf_5 ⟨Nat.zero_le _, Nat.zero_le _⟩) hL (fun r1 S1 T1 H locs h hw hL => ?_)
  exact W.iret hx hb hr (fun t ht _ => ⟨_, _, _, rfl, h, by rw [ht]; exact hw⟩) hL d_6_digitOf_8
set_option maxHeartbeats 4000000 in
set_option maxRecDepth 20000 in
theorem ct_6_digitOf {x1 : Int32} {S : hm_S} {T : hm_T} {Q : Int32 → hm_S → hm_T → Prop} (h : wp_6_digitOf x1 S T Q) : hm_M l G H0 o 74 shX y_6_digitOf prog_8_method_2_code 2 (some .int) rm_6_digitOf S T [.ref (o + 1), .int x1] (hm_Qi G H0 o 74 shX Q) := by
  refine Met.ofW (cc := prog_8_method_2_code) (maxL := 2) (ret := some .int) (by decide) rfl ?_
  intro p e s m args below meth c s₁ B hml hv
  obtain ⟨rfl, hK, hw⟩ := hv
  have cx : hm_cx G p s m _ c prog_8_method_2_code 2 "HeapGames$Rules" := ⟨⟨B.exec, B.bytes, hml, findClass_of_methodNamed B.named, fun w hq => atoms_spec (ws := hm_ws y_6_digitOf prog_8_method_2_code 2 (some .int)) B.pre w (List.mem_cons_of_mem _ hq)⟩, hK⟩
  have hl := lv_entry ([.ref (o + 1), .int x1]) (n := 2) (Nat.le_of_ble_eq_true rfl)
  rw [lg_entry_eq]
  generalize (lg_sl ([.ref (o + 1), .int x1]) ++ List.replicate (2 - (lg_sl ([.ref (o + 1), .int x1])).length) Slot.unset).toArray = ls at hl ⊢
  have hl : lv_has ls 2 [(0, .ref (o + 1)), (1, .int x1)] := hl
  exact bk_6_digitOf_0 cx B.returns B.notSynchronized h hw (hm_L0 _ _) hl
/-! ===== HeapGames$Rules.changeDigit(II)V ===== -/
theorem d_6_changeDigit_0 : decode prog_8_method_3_code 0 = .ok (.aload_n 0, 1) := by decide +kernel
theorem d_6_changeDigit_1 : decode prog_8_method_3_code 1 = .ok (.getfield 14, 3) := by decide +kernel
theorem d_6_changeDigit_4 : decode prog_8_method_3_code 4 = .ok (.iload_n 1, 1) := by decide +kernel
theorem d_6_changeDigit_5 : decode prog_8_method_3_code 5 = .ok (.iload_n 2, 1) := by decide +kernel
theorem d_6_changeDigit_6 : decode prog_8_method_3_code 6 = .ok (.invokevirtual 24, 3) := by decide +kernel
theorem d_6_changeDigit_9 : decode prog_8_method_3_code 9 = .ok (.return_, 1) := by decide +kernel
def wp_6_changeDigit (x1 : Int32) (x2 : Int32) (S : hm_S) (T : hm_T) (Q : hm_S → hm_T → Prop) : Prop :=
  wp_5_set 2 11 x1 x2 S T (fun S1 T1 => Q S1 T1)
set_option maxHeartbeats 4000000 in
set_option maxRecDepth 20000 in
theorem bk_6_changeDigit_0 {Q : hm_S → hm_T → Prop} (cx : hm_cx G p s m args c prog_8_method_3_code 3 "HeapGames$Rules") (hr : meth.sig.returnType = none) (hlk : meth.locks = false) {x1 : Int32} {x2 : Int32} {S : hm_S} {T : hm_T} {H : Heap} {locs : List Loc} {ls : Array Slot} (h : wp_6_changeDigit x1 x2 S T Q) (hw : hm_w G H0 o 74 shX S T H) (hL : hm_L o 74 locs) (hl : lv_has ls 3 [(0, .ref (o + 1)), (1, .int x1), (2, .int x2)]) : W p l e rm_6_changeDigit s m args below meth c H locs 0 0 (MQ below (hm_Qv G H0 o 74 shX Q) args s 0 0 (t_fr o (o + 74))) (F0 m 0 ls []) := by
  have hx := cx.1.1
  have hb := cx.1.2.1
  unfold wp_6_changeDigit at h
  refine lv_aload_n hx hb d_6_changeDigit_0 rfl (lv_at hl 0 rfl) ?_
  refine gf_6_14 cx hw (i := 1) (r := 2) (by decide) sx_1 rfl d_6_changeDigit_1 ?_
  refine lv_iload_n hx hb d_6_changeDigit_4 rfl (lv_at hl 1 rfl) ?_
  refine lv_iload_n hx hb d_6_changeDigit_5 rfl (lv_at hl 2 rfl) ?_
  refine hm_callv (hm_rV (i := 2) (As := [.int x1, .int x2]) (rest := []) cx hw (ct_5_set (by decide) sx_2 sx_3 h) (mw_6_24 cx.1.2.2.2.2 ⟨Nat.le_of_ble_eq_true rfl, Nat.le_of_ble_eq_true rfl⟩) (by decide) sx_2 rfl rfl hl.1 rfl (Nat.le_of_ble_eq_true rfl) d_6_changeDigit_6 ⟨Nat.zero_le _, Nat.zero_le _⟩) hL (fun S1 T1 H locs h hw hL => ?_)
  exact W.vret hx hb hr (fun t ht _ => ⟨_, _, rfl, h, by rw [ht]; exact hw⟩) hL d_6_changeDigit_9
set_option maxHeartbeats 4000000 in
set_option maxRecDepth 20000 in
theorem ct_6_changeDigit {x1 : Int32} {x2 : Int32} {S : hm_S} {T : hm_T} {Q : hm_S → hm_T → Prop} (h : wp_6_changeDigit x1 x2 S T Q) : hm_M l G H0 o 74 shX y_6_changeDigit prog_8_method_3_code 3 (none) rm_6_changeDigit S T [.ref (o + 1), .int x1, .int x2] (hm_Qv G H0 o 74 shX Q) := by
  refine Met.ofW (cc := prog_8_method_3_code) (maxL := 3) (ret := none) (by decide) rfl ?_
  intro p e s m args below meth c s₁ B hml hv
  obtain ⟨rfl, hK, hw⟩ := hv
  have cx : hm_cx G p s m _ c prog_8_method_3_code 3 "HeapGames$Rules" := ⟨⟨B.exec, B.bytes, hml, findClass_of_methodNamed B.named, fun w hq => atoms_spec (ws := hm_ws y_6_changeDigit prog_8_method_3_code 3 (none)) B.pre w (List.mem_cons_of_mem _ hq)⟩, hK⟩
  have hl := lv_entry ([.ref (o + 1), .int x1, .int x2]) (n := 3) (Nat.le_of_ble_eq_true rfl)
  rw [lg_entry_eq]
  generalize (lg_sl ([.ref (o + 1), .int x1, .int x2]) ++ List.replicate (3 - (lg_sl ([.ref (o + 1), .int x1, .int x2])).length) Slot.unset).toArray = ls at hl ⊢
  have hl : lv_has ls 3 [(0, .ref (o + 1)), (1, .int x1), (2, .int x2)] := hl
  exact bk_6_changeDigit_0 cx B.returns B.notSynchronized h hw (hm_L0 _ _) hl
/-! ===== HeapGames$Rules.obliges(I)I ===== -/
theorem d_6_obliges_0 : decode prog_8_method_4_code 0 = .ok (.aload_n 0, 1) := by decide +kernel
theorem d_6_obliges_1 : decode prog_8_method_4_code 1 = .ok (.getfield 28, 3) := by decide +kernel
theorem d_6_obliges_4 : decode prog_8_method_4_code 4 = .ok (.iload_n 1, 1) := by decide +kernel
theorem d_6_obliges_5 : decode prog_8_method_4_code 5 = .ok (.ishr, 1) := by decide +kernel
theorem d_6_obliges_6 : decode prog_8_method_4_code 6 = .ok (.iconst 1, 1) := by decide +kernel
theorem d_6_obliges_7 : decode prog_8_method_4_code 7 = .ok (.iand, 1) := by decide +kernel
theorem d_6_obliges_8 : decode prog_8_method_4_code 8 = .ok (.ireturn, 1) := by decide +kernel
def wp_6_obliges (x1 : Int32) (S : hm_S) (T : hm_T) (Q : Int32 → hm_S → hm_T → Prop) : Prop :=
  Q (((S 1 1) >>> (x1 &&& 31)) &&& 1) S T
set_option maxHeartbeats 4000000 in
set_option maxRecDepth 20000 in
theorem bk_6_obliges_0 {Q : Int32 → hm_S → hm_T → Prop} (cx : hm_cx G p s m args c prog_8_method_4_code 2 "HeapGames$Rules") (hr : meth.sig.returnType = some .int) (hlk : meth.locks = false) {x1 : Int32} {S : hm_S} {T : hm_T} {H : Heap} {locs : List Loc} {ls : Array Slot} (h : wp_6_obliges x1 S T Q) (hw : hm_w G H0 o 74 shX S T H) (hL : hm_L o 74 locs) (hl : lv_has ls 2 [(0, .ref (o + 1)), (1, .int x1)]) : W p l e rm_6_obliges s m args below meth c H locs 0 0 (MQ below (hm_Qi G H0 o 74 shX Q) args s 0 0 (t_fr o (o + 74))) (F0 m 0 ls []) := by
  have hx := cx.1.1
  have hb := cx.1.2.1
  unfold wp_6_obliges at h
  refine lv_aload_n hx hb d_6_obliges_0 rfl (lv_at hl 0 rfl) ?_
  refine gf_6_28 cx hw (i := 1) (by decide) sx_1 rfl d_6_obliges_1 ?_
  refine lv_iload_n hx hb d_6_obliges_4 rfl (lv_at hl 1 rfl) ?_
  refine lv_ishr hx hb d_6_obliges_5 ?_
  refine lv_iconst (v := 1) hx hb d_6_obliges_6 (by decide) ?_
  refine lv_iand hx hb d_6_obliges_7 ?_
  exact W.iret hx hb hr (fun t ht _ => ⟨_, _, _, rfl, h, by rw [ht]; exact hw⟩) hL d_6_obliges_8
set_option maxHeartbeats 4000000 in
set_option maxRecDepth 20000 in
theorem ct_6_obliges {x1 : Int32} {S : hm_S} {T : hm_T} {Q : Int32 → hm_S → hm_T → Prop} (h : wp_6_obliges x1 S T Q) : hm_M l G H0 o 74 shX y_6_obliges prog_8_method_4_code 2 (some .int) rm_6_obliges S T [.ref (o + 1), .int x1] (hm_Qi G H0 o 74 shX Q) := by
  refine Met.ofW (cc := prog_8_method_4_code) (maxL := 2) (ret := some .int) (by decide) rfl ?_
  intro p e s m args below meth c s₁ B hml hv
  obtain ⟨rfl, hK, hw⟩ := hv
  have cx : hm_cx G p s m _ c prog_8_method_4_code 2 "HeapGames$Rules" := ⟨⟨B.exec, B.bytes, hml, findClass_of_methodNamed B.named, fun w hq => atoms_spec (ws := hm_ws y_6_obliges prog_8_method_4_code 2 (some .int)) B.pre w (List.mem_cons_of_mem _ hq)⟩, hK⟩
  have hl := lv_entry ([.ref (o + 1), .int x1]) (n := 2) (Nat.le_of_ble_eq_true rfl)
  rw [lg_entry_eq]
  generalize (lg_sl ([.ref (o + 1), .int x1]) ++ List.replicate (2 - (lg_sl ([.ref (o + 1), .int x1])).length) Slot.unset).toArray = ls at hl ⊢
  have hl : lv_has ls 2 [(0, .ref (o + 1)), (1, .int x1)] := hl
  exact bk_6_obliges_0 cx B.returns B.notSynchronized h hw (hm_L0 _ _) hl
/-! ===== HeapGames$Rules.growsAt(I)Z ===== -/
theorem d_6_growsAt_0 : decode prog_8_method_5_code 0 = .ok (.aload_n 0, 1) := by decide +kernel
theorem d_6_growsAt_1 : decode prog_8_method_5_code 1 = .ok (.getfield 32, 3) := by decide +kernel
theorem d_6_growsAt_4 : decode prog_8_method_5_code 4 = .ok (.iload_n 1, 1) := by decide +kernel
theorem d_6_growsAt_5 : decode prog_8_method_5_code 5 = .ok (.ishr, 1) := by decide +kernel
theorem d_6_growsAt_6 : decode prog_8_method_5_code 6 = .ok (.iconst 1, 1) := by decide +kernel
theorem d_6_growsAt_7 : decode prog_8_method_5_code 7 = .ok (.iand, 1) := by decide +kernel
theorem d_6_growsAt_8 : decode prog_8_method_5_code 8 = .ok (.ifCond .eq 7, 3) := by decide +kernel
theorem d_6_growsAt_11 : decode prog_8_method_5_code 11 = .ok (.iconst 1, 1) := by decide +kernel
theorem d_6_growsAt_12 : decode prog_8_method_5_code 12 = .ok (.goto 4, 3) := by decide +kernel
theorem d_6_growsAt_15 : decode prog_8_method_5_code 15 = .ok (.iconst 0, 1) := by decide +kernel
theorem d_6_growsAt_16 : decode prog_8_method_5_code 16 = .ok (.ireturn, 1) := by decide +kernel
def wp_6_growsAt (x1 : Int32) (S : hm_S) (T : hm_T) (Q : Int32 → hm_S → hm_T → Prop) : Prop :=
  (if (((S 1 2) >>> (x1 &&& 31)) &&& 1) = 0 then Q 0 S T else Q 1 S T)
set_option maxHeartbeats 4000000 in
set_option maxRecDepth 20000 in
theorem bk_6_growsAt_0 {Q : Int32 → hm_S → hm_T → Prop} (cx : hm_cx G p s m args c prog_8_method_5_code 2 "HeapGames$Rules") (hr : meth.sig.returnType = some .boolean) (hlk : meth.locks = false) {x1 : Int32} {S : hm_S} {T : hm_T} {H : Heap} {locs : List Loc} {ls : Array Slot} (h : wp_6_growsAt x1 S T Q) (hw : hm_w G H0 o 74 shX S T H) (hL : hm_L o 74 locs) (hl : lv_has ls 2 [(0, .ref (o + 1)), (1, .int x1)]) : W p l e rm_6_growsAt s m args below meth c H locs 0 0 (MQ below (hm_Qi G H0 o 74 shX Q) args s 0 0 (t_fr o (o + 74))) (F0 m 0 ls []) := by
  have hx := cx.1.1
  have hb := cx.1.2.1
  unfold wp_6_growsAt at h
  refine lv_aload_n hx hb d_6_growsAt_0 rfl (lv_at hl 0 rfl) ?_
  refine gf_6_32 cx hw (i := 1) (by decide) sx_1 rfl d_6_growsAt_1 ?_
  refine lv_iload_n hx hb d_6_growsAt_4 rfl (lv_at hl 1 rfl) ?_
  refine lv_ishr hx hb d_6_growsAt_5 ?_
  refine lv_iconst (v := 1) hx hb d_6_growsAt_6 (by decide) ?_
  refine lv_iand hx hb d_6_growsAt_7 ?_
  refine lv_if_eq (tgt := 15) hx hb d_6_growsAt_8 (by decide) (fun hc => ?_) (fun hc => ?_)
  · replace h := hm_pos hc h
    refine lv_iconst (v := 0) hx hb d_6_growsAt_15 (by decide) ?_
    exact W.zret hx hb hr rfl (fun t ht _ => ⟨_, _, _, rfl, h, by rw [ht]; exact hw⟩) hL d_6_growsAt_16
  · replace h := hm_neg hc h
    refine lv_iconst (v := 1) hx hb d_6_growsAt_11 (by decide) ?_
    refine lv_goto (tgt := 16) hx hb d_6_growsAt_12 (by decide) ?_
    exact W.zret hx hb hr rfl (fun t ht _ => ⟨_, _, _, rfl, h, by rw [ht]; exact hw⟩) hL d_6_growsAt_16
set_option maxHeartbeats 4000000 in
set_option maxRecDepth 20000 in
theorem ct_6_growsAt {x1 : Int32} {S : hm_S} {T : hm_T} {Q : Int32 → hm_S → hm_T → Prop} (h : wp_6_growsAt x1 S T Q) : hm_M l G H0 o 74 shX y_6_growsAt prog_8_method_5_code 2 (some .boolean) rm_6_growsAt S T [.ref (o + 1), .int x1] (hm_Qi G H0 o 74 shX Q) := by
  refine Met.ofW (cc := prog_8_method_5_code) (maxL := 2) (ret := some .boolean) (by decide) rfl ?_
  intro p e s m args below meth c s₁ B hml hv
  obtain ⟨rfl, hK, hw⟩ := hv
  have cx : hm_cx G p s m _ c prog_8_method_5_code 2 "HeapGames$Rules" := ⟨⟨B.exec, B.bytes, hml, findClass_of_methodNamed B.named, fun w hq => atoms_spec (ws := hm_ws y_6_growsAt prog_8_method_5_code 2 (some .boolean)) B.pre w (List.mem_cons_of_mem _ hq)⟩, hK⟩
  have hl := lv_entry ([.ref (o + 1), .int x1]) (n := 2) (Nat.le_of_ble_eq_true rfl)
  rw [lg_entry_eq]
  generalize (lg_sl ([.ref (o + 1), .int x1]) ++ List.replicate (2 - (lg_sl ([.ref (o + 1), .int x1])).length) Slot.unset).toArray = ls at hl ⊢
  have hl : lv_has ls 2 [(0, .ref (o + 1)), (1, .int x1)] := hl
  exact bk_6_growsAt_0 cx B.returns B.notSynchronized h hw (hm_L0 _ _) hl
/-! ===== HeapGames$Rules.allows(III)Z ===== -/
theorem d_6_allows_0 : decode prog_8_method_6_code 0 = .ok (.aload_n 0, 1) := by decide +kernel
theorem d_6_allows_1 : decode prog_8_method_6_code 1 = .ok (.getfield 14, 3) := by decide +kernel
theorem d_6_allows_4 : decode prog_8_method_6_code 4 = .ok (.iload_n 1, 1) := by decide +kernel
theorem d_6_allows_5 : decode prog_8_method_6_code 5 = .ok (.invokevirtual 20, 3) := by decide +kernel
theorem d_6_allows_8 : decode prog_8_method_6_code 8 = .ok (.istore 4, 2) := by decide +kernel
theorem d_6_allows_10 : decode prog_8_method_6_code 10 = .ok (.iload_n 3, 1) := by decide +kernel
theorem d_6_allows_11 : decode prog_8_method_6_code 11 = .ok (.ifCond .le 16, 3) := by decide +kernel
theorem d_6_allows_14 : decode prog_8_method_6_code 14 = .ok (.iload 4, 2) := by decide +kernel
theorem d_6_allows_16 : decode prog_8_method_6_code 16 = .ok (.iconst 4, 1) := by decide +kernel
theorem d_6_allows_17 : decode prog_8_method_6_code 17 = .ok (.iand, 1) := by decide +kernel
theorem d_6_allows_18 : decode prog_8_method_6_code 18 = .ok (.ifCond .eq 7, 3) := by decide +kernel
theorem d_6_allows_21 : decode prog_8_method_6_code 21 = .ok (.iconst 1, 1) := by decide +kernel
theorem d_6_allows_22 : decode prog_8_method_6_code 22 = .ok (.goto 4, 3) := by decide +kernel
theorem d_6_allows_25 : decode prog_8_method_6_code 25 = .ok (.iconst 0, 1) := by decide +kernel
theorem d_6_allows_26 : decode prog_8_method_6_code 26 = .ok (.ireturn, 1) := by decide +kernel
theorem d_6_allows_27 : decode prog_8_method_6_code 27 = .ok (.iload_n 1, 1) := by decide +kernel
theorem d_6_allows_28 : decode prog_8_method_6_code 28 = .ok (.iload_n 2, 1) := by decide +kernel
theorem d_6_allows_29 : decode prog_8_method_6_code 29 = .ok (.if_icmp .ne 18, 3) := by decide +kernel
theorem d_6_allows_32 : decode prog_8_method_6_code 32 = .ok (.iload 4, 2) := by decide +kernel
theorem d_6_allows_34 : decode prog_8_method_6_code 34 = .ok (.iconst 1, 1) := by decide +kernel
theorem d_6_allows_35 : decode prog_8_method_6_code 35 = .ok (.iand, 1) := by decide +kernel
theorem d_6_allows_36 : decode prog_8_method_6_code 36 = .ok (.ifCond .eq 7, 3) := by decide +kernel
theorem d_6_allows_39 : decode prog_8_method_6_code 39 = .ok (.iconst 1, 1) := by decide +kernel
theorem d_6_allows_40 : decode prog_8_method_6_code 40 = .ok (.goto 19, 3) := by decide +kernel
theorem d_6_allows_43 : decode prog_8_method_6_code 43 = .ok (.iconst 0, 1) := by decide +kernel
theorem d_6_allows_44 : decode prog_8_method_6_code 44 = .ok (.goto 15, 3) := by decide +kernel
theorem d_6_allows_47 : decode prog_8_method_6_code 47 = .ok (.iload 4, 2) := by decide +kernel
theorem d_6_allows_49 : decode prog_8_method_6_code 49 = .ok (.iconst 2, 1) := by decide +kernel
theorem d_6_allows_50 : decode prog_8_method_6_code 50 = .ok (.iand, 1) := by decide +kernel
theorem d_6_allows_51 : decode prog_8_method_6_code 51 = .ok (.ifCond .eq 7, 3) := by decide +kernel
theorem d_6_allows_54 : decode prog_8_method_6_code 54 = .ok (.iconst 1, 1) := by decide +kernel
theorem d_6_allows_55 : decode prog_8_method_6_code 55 = .ok (.goto 4, 3) := by decide +kernel
theorem d_6_allows_58 : decode prog_8_method_6_code 58 = .ok (.iconst 0, 1) := by decide +kernel
theorem d_6_allows_59 : decode prog_8_method_6_code 59 = .ok (.ireturn, 1) := by decide +kernel
def wp_6_allows (x1 : Int32) (x2 : Int32) (x3 : Int32) (S : hm_S) (T : hm_T) (Q : Int32 → hm_S → hm_T → Prop) : Prop :=
  wp_5_get 2 11 x1 S T (fun r1 S1 T1 => (if x3 ≤ 0 then (if x1 = x2 then (if (r1 &&& 1) = 0 then Q 0 S1 T1 else Q 1 S1 T1) else (if (r1 &&& 2) = 0 then Q 0 S1 T1 else Q 1 S1 T1)) else (if (r1 &&& 4) = 0 then Q 0 S1 T1 else Q 1 S1 T1)))
set_option maxHeartbeats 4000000 in
set_option maxRecDepth 20000 in
theorem bk_6_allows_0 {Q : Int32 → hm_S → hm_T → Prop} (cx : hm_cx G p s m args c prog_8_method_6_code 5 "HeapGames$Rules") (hr : meth.sig.returnType = some .boolean) (hlk : meth.locks = false) {x1 : Int32} {x2 : Int32} {x3 : Int32} {S : hm_S} {T : hm_T} {H : Heap} {locs : List Loc} {ls : Array Slot} (h : wp_6_allows x1 x2 x3 S T Q) (hw : hm_w G H0 o 74 shX S T H) (hL : hm_L o 74 locs) (hl : lv_has ls 5 [(0, .ref (o + 1)), (1, .int x1), (2, .int x2), (3, .int x3)]) : W p l e rm_6_allows s m args below meth c H locs 0 0 (MQ below (hm_Qi G H0 o 74 shX Q) args s 0 0 (t_fr o (o + 74))) (F0 m 0 ls []) := by
  have hx := cx.1.1
  have hb := cx.1.2.1
  unfold wp_6_allows at h
  refine lv_aload_n hx hb d_6_allows_0 rfl (lv_at hl 0 rfl) ?_
  refine gf_6_14 cx hw (i := 1) (r := 2) (by decide) sx_1 rfl d_6_allows_1 ?_
  refine lv_iload_n hx hb d_6_allows_4 rfl (lv_at hl 1 rfl) ?_
  refine hm_calli (hm_rV (i := 2) (As := [.int x1]) (rest := []) cx hw (ct_5_get (by decide) sx_2 sx_3 h) (mw_6_20 cx.1.2.2.2.2 ⟨Nat.le_of_ble_eq_true rfl, Nat.le_of_ble_eq_true rfl⟩) (by decide) sx_2 rfl rfl hl.1 rfl (Nat.le_of_ble_eq_true rfl) d_6_allows_5 ⟨Nat.zero_le _, Nat.zero_le _⟩) hL (fun r1 S1 T1 H locs h hw hL => ?_)
  refine lv_istore (lv' := [(4, .int r1), (0, .ref (o + 1)), (1, .int x1), (2, .int x2), (3, .int x3)]) hx hb d_6_allows_8 hl (by decide) rfl (fun ls hl => ?_)
  refine lv_iload_n hx hb d_6_allows_10 rfl (lv_at hl 4 rfl) ?_
  refine lv_if_le (tgt := 27) hx hb d_6_allows_11 (by decide) (fun hc => ?_) (fun hc => ?_)
  · replace h := hm_pos hc h
    refine lv_iload_n hx hb d_6_allows_27 rfl (lv_at hl 2 rfl) ?_
    refine lv_iload_n hx hb d_6_allows_28 rfl (lv_at hl 3 rfl) ?_
    refine lv_icmp_ne (tgt := 47) hx hb d_6_allows_29 (by decide) (fun hc => ?_) (fun hc => ?_)
    · replace h := hm_neg hc h
      refine lv_iload hx hb d_6_allows_47 (lv_at hl 0 rfl) ?_
      refine lv_iconst (v := 2) hx hb d_6_allows_49 (by decide) ?_
      refine lv_iand hx hb d_6_allows_50 ?_
      refine lv_if_eq (tgt := 58) hx hb d_6_allows_51 (by decide) (fun hc => ?_) (fun hc => ?_)
      · replace h := hm_pos hc h
        refine lv_iconst (v := 0) hx hb d_6_allows_58 (by decide) ?_
        exact W.zret hx hb hr rfl (fun t ht _ => ⟨_, _, _, rfl, h, by rw [ht]; exact hw⟩) hL d_6_allows_59
      · replace h := hm_neg hc h
        refine lv_iconst (v := 1) hx hb d_6_allows_54 (by decide) ?_
        refine lv_goto (tgt := 59) hx hb d_6_allows_55 (by decide) ?_
        exact W.zret hx hb hr rfl (fun t ht _ => ⟨_, _, _, rfl, h, by rw [ht]; exact hw⟩) hL d_6_allows_59
    · replace h := hm_pos hc h
      refine lv_iload hx hb d_6_allows_32 (lv_at hl 0 rfl) ?_
      refine lv_iconst (v := 1) hx hb d_6_allows_34 (by decide) ?_
      refine lv_iand hx hb d_6_allows_35 ?_
      refine lv_if_eq (tgt := 43) hx hb d_6_allows_36 (by decide) (fun hc => ?_) (fun hc => ?_)
      · replace h := hm_pos hc h
        refine lv_iconst (v := 0) hx hb d_6_allows_43 (by decide) ?_
        refine lv_goto (tgt := 59) hx hb d_6_allows_44 (by decide) ?_
        exact W.zret hx hb hr rfl (fun t ht _ => ⟨_, _, _, rfl, h, by rw [ht]; exact hw⟩) hL d_6_allows_59
      · replace h := hm_neg hc h
        refine lv_iconst (v := 1) hx hb d_6_allows_39 (by decide) ?_
        refine lv_goto (tgt := 59) hx hb d_6_allows_40 (by decide) ?_
        exact W.zret hx hb hr rfl (fun t ht _ => ⟨_, _, _, rfl, h, by rw [ht]; exact hw⟩) hL d_6_allows_59
  · replace h := hm_neg hc h
    refine lv_iload hx hb d_6_allows_14 (lv_at hl 0 rfl) ?_
    refine lv_iconst (v := 4) hx hb d_6_allows_16 (by decide) ?_
    refine lv_iand hx hb d_6_allows_17 ?_
    refine lv_if_eq (tgt := 25) hx hb d_6_allows_18 (by decide) (fun hc => ?_) (fun hc => ?_)
    · replace h := hm_pos hc h
      refine lv_iconst (v := 0) hx hb d_6_allows_25 (by decide) ?_
      exact W.zret hx hb hr rfl (fun t ht _ => ⟨_, _, _, rfl, h, by rw [ht]; exact hw⟩) hL d_6_allows_26
    · replace h := hm_neg hc h
      refine lv_iconst (v := 1) hx hb d_6_allows_21 (by decide) ?_
      refine lv_goto (tgt := 26) hx hb d_6_allows_22 (by decide) ?_
      exact W.zret hx hb hr rfl (fun t ht _ => ⟨_, _, _, rfl, h, by rw [ht]; exact hw⟩) hL d_6_allows_26
set_option maxHeartbeats 4000000 in
set_option maxRecDepth 20000 in
theorem ct_6_allows {x1 : Int32} {x2 : Int32} {x3 : Int32} {S : hm_S} {T : hm_T} {Q : Int32 → hm_S → hm_T → Prop} (h : wp_6_allows x1 x2 x3 S T Q) : hm_M l G H0 o 74 shX y_6_allows prog_8_method_6_code 5 (some .boolean) rm_6_allows S T [.ref (o + 1), .int x1, .int x2, .int x3] (hm_Qi G H0 o 74 shX Q) := by
  refine Met.ofW (cc := prog_8_method_6_code) (maxL := 5) (ret := some .boolean) (by decide) rfl ?_
  intro p e s m args below meth c s₁ B hml hv
  obtain ⟨rfl, hK, hw⟩ := hv
  have cx : hm_cx G p s m _ c prog_8_method_6_code 5 "HeapGames$Rules" := ⟨⟨B.exec, B.bytes, hml, findClass_of_methodNamed B.named, fun w hq => atoms_spec (ws := hm_ws y_6_allows prog_8_method_6_code 5 (some .boolean)) B.pre w (List.mem_cons_of_mem _ hq)⟩, hK⟩
  have hl := lv_entry ([.ref (o + 1), .int x1, .int x2, .int x3]) (n := 5) (Nat.le_of_ble_eq_true rfl)
  rw [lg_entry_eq]
  generalize (lg_sl ([.ref (o + 1), .int x1, .int x2, .int x3]) ++ List.replicate (5 - (lg_sl ([.ref (o + 1), .int x1, .int x2, .int x3])).length) Slot.unset).toArray = ls at hl ⊢
  have hl : lv_has ls 5 [(0, .ref (o + 1)), (1, .int x1), (2, .int x2), (3, .int x3)] := hl
  exact bk_6_allows_0 cx B.returns B.notSynchronized h hw (hm_L0 _ _) hl
/-! ===== HeapGames$History.record(I)V ===== -/
theorem d_1_record_0 : decode prog_3_method_2_code 0 = .ok (.aload_n 0, 1) := by decide +kernel
theorem d_1_record_1 : decode prog_3_method_2_code 1 = .ok (.getfield 14, 3) := by decide +kernel
theorem d_1_record_4 : decode prog_3_method_2_code 4 = .ok (.aload_n 0, 1) := by decide +kernel
theorem d_1_record_5 : decode prog_3_method_2_code 5 = .ok (.getfield 20, 3) := by decide +kernel
theorem d_1_record_8 : decode prog_3_method_2_code 8 = .ok (.iload_n 1, 1) := by decide +kernel
theorem d_1_record_9 : decode prog_3_method_2_code 9 = .ok (.invokevirtual 24, 3) := by decide +kernel
theorem d_1_record_12 : decode prog_3_method_2_code 12 = .ok (.aload_n 0, 1) := by decide +kernel
theorem d_1_record_13 : decode prog_3_method_2_code 13 = .ok (.aload_n 0, 1) := by decide +kernel
theorem d_1_record_14 : decode prog_3_method_2_code 14 = .ok (.getfield 20, 3) := by decide +kernel
theorem d_1_record_17 : decode prog_3_method_2_code 17 = .ok (.iconst 1, 1) := by decide +kernel
theorem d_1_record_18 : decode prog_3_method_2_code 18 = .ok (.iadd, 1) := by decide +kernel
theorem d_1_record_19 : decode prog_3_method_2_code 19 = .ok (.bipush 30, 2) := by decide +kernel
theorem d_1_record_21 : decode prog_3_method_2_code 21 = .ok (.irem, 1) := by decide +kernel
theorem d_1_record_22 : decode prog_3_method_2_code 22 = .ok (.putfield 20, 3) := by decide +kernel
theorem d_1_record_25 : decode prog_3_method_2_code 25 = .ok (.aload_n 0, 1) := by decide +kernel
theorem d_1_record_26 : decode prog_3_method_2_code 26 = .ok (.aload_n 0, 1) := by decide +kernel
theorem d_1_record_27 : decode prog_3_method_2_code 27 = .ok (.getfield 28, 3) := by decide +kernel
theorem d_1_record_30 : decode prog_3_method_2_code 30 = .ok (.iconst 1, 1) := by decide +kernel
theorem d_1_record_31 : decode prog_3_method_2_code 31 = .ok (.iadd, 1) := by decide +kernel
theorem d_1_record_32 : decode prog_3_method_2_code 32 = .ok (.bipush 30, 2) := by decide +kernel
theorem d_1_record_34 : decode prog_3_method_2_code 34 = .ok (.invokestatic 31, 3) := by decide +kernel
theorem d_1_record_37 : decode prog_3_method_2_code 37 = .ok (.putfield 28, 3) := by decide +kernel
theorem d_1_record_40 : decode prog_3_method_2_code 40 = .ok (.return_, 1) := by decide +kernel
def wp_1_record (x1 : Int32) (S : hm_S) (T : hm_T) (Q : hm_S → hm_T → Prop) : Prop :=
  wp_5_set 72 30 (S 71 1) x1 S T (fun S1 T1 => Q (hm_up (hm_up S1 71 1 (((S1 71 1) + 1) - ((S1 71 1) + 1) / 30 * 30)) 71 2 (if 30 < (((hm_up S1 71 1 (((S1 71 1) + 1) - ((S1 71 1) + 1) / 30 * 30)) 71 2) + 1) then 30 else (((hm_up S1 71 1 (((S1 71 1) + 1) - ((S1 71 1) + 1) / 30 * 30)) 71 2) + 1))) T1)
set_option maxHeartbeats 4000000 in
set_option maxRecDepth 20000 in
theorem bk_1_record_0 {Q : hm_S → hm_T → Prop} (cx : hm_cx G p s m args c prog_3_method_2_code 2 "HeapGames$History") (hr : meth.sig.returnType = none) (hlk : meth.locks = false) {x1 : Int32} {S : hm_S} {T : hm_T} {H : Heap} {locs : List Loc} {ls : Array Slot} (h : wp_1_record x1 S T Q) (hw : hm_w G H0 o 74 shX S T H) (hL : hm_L o 74 locs) (hl : lv_has ls 2 [(0, .ref (o + 71)), (1, .int x1)]) : W p l e rm_1_record s m args below meth c H locs 0 0 (MQ below (hm_Qv G H0 o 74 shX Q) args s 0 0 (t_fr o (o + 74))) (F0 m 0 ls []) := by
  have hx := cx.1.1
  have hb := cx.1.2.1
  unfold wp_1_record at h
  refine lv_aload_n hx hb d_1_record_0 rfl (lv_at hl 0 rfl) ?_
  refine gf_1_14 cx hw (i := 71) (r := 72) (by decide) sx_71 rfl d_1_record_1 ?_
  refine lv_aload_n hx hb d_1_record_4 rfl (lv_at hl 0 rfl) ?_
  refine gf_1_20 cx hw (i := 71) (by decide) sx_71 rfl d_1_record_5 ?_
  refine lv_iload_n hx hb d_1_record_8 rfl (lv_at hl 1 rfl) ?_
  refine hm_callv (hm_rV (i := 72) (As := [.int (S 71 1), .int x1]) (rest := []) cx hw (ct_5_set (by decide) sx_72 sx_73 h) (mw_1_24 cx.1.2.2.2.2 ⟨Nat.le_of_ble_eq_true rfl, Nat.le_of_ble_eq_true rfl⟩) (by decide) sx_72 rfl rfl hl.1 rfl (Nat.le_of_ble_eq_true rfl) d_1_record_9 ⟨Nat.zero_le _, Nat.zero_le _⟩) hL (fun S1 T1 H locs h hw hL => ?_)
  refine lv_aload_n hx hb d_1_record_12 rfl (lv_at hl 0 rfl) ?_
  refine lv_aload_n hx hb d_1_record_13 rfl (lv_at hl 0 rfl) ?_
  refine gf_1_20 cx hw (i := 71) (by decide) sx_71 rfl d_1_record_14 ?_
  refine lv_iconst (v := 1) hx hb d_1_record_17 (by decide) ?_
  refine lv_iadd hx hb d_1_record_18 ?_
  refine lv_bipush (v := 30) hx hb d_1_record_19 (by decide) ?_
  refine lv_irem hx hb d_1_record_21 (by decide) ?_
  refine pf_1_20 cx hw (i := 71) (by decide) sx_71 rfl hL d_1_record_22 (fun H locs hw hL => ?_)
  refine lv_aload_n hx hb d_1_record_25 rfl (lv_at hl 0 rfl) ?_
  refine lv_aload_n hx hb d_1_record_26 rfl (lv_at hl 0 rfl) ?_
  refine gf_1_28 cx hw (i := 71) (by decide) sx_71 rfl d_1_record_27 ?_
  refine lv_iconst (v := 1) hx hb d_1_record_30 (by decide) ?_
  refine lv_iadd hx hb d_1_record_31 ?_
  refine lv_bipush (v := 30) hx hb d_1_record_32 (by decide) ?_
  refine va_mmin hx hb (cx.1.2.2.1.trans hl.1.symm) cx.1.2.2.2.1 (cx.1.2.2.2.2 _ hq_659) (cx.1.2.2.2.2 _ hq_660) (cx.1.2.2.2.2 _ hq_77) (cx.1.2.2.2.2 _ hq_661) (Nat.le_of_ble_eq_true rfl) (Nat.le_of_ble_eq_true rfl) (Nat.zero_le _) (Nat.zero_le _) d_1_record_34 ?_
  refine pf_1_28 cx hw (i := 71) (by decide) sx_71 rfl hL d_1_record_37 (fun H locs hw hL => ?_)
  exact W.vret hx hb hr (fun t ht _ => ⟨_, _, rfl, h, by rw [ht]; exact hw⟩) hL d_1_record_40
set_option maxHeartbeats 4000000 in
set_option maxRecDepth 20000 in
theorem ct_1_record {x1 : Int32} {S : hm_S} {T : hm_T} {Q : hm_S → hm_T → Prop} (h : wp_1_record x1 S T Q) : hm_M l G H0 o 74 shX y_1_record prog_3_method_2_code 2 (none) rm_1_record S T [.ref (o + 71), .int x1] (hm_Qv G H0 o 74 shX Q) := by
  refine Met.ofW (cc := prog_3_method_2_code) (maxL := 2) (ret := none) (by decide) rfl ?_
  intro p e s m args below meth c s₁ B hml hv
  obtain ⟨rfl, hK, hw⟩ := hv
  have cx : hm_cx G p s m _ c prog_3_method_2_code 2 "HeapGames$History" := ⟨⟨B.exec, B.bytes, hml, findClass_of_methodNamed B.named, fun w hq => atoms_spec (ws := hm_ws y_1_record prog_3_method_2_code 2 (none)) B.pre w (List.mem_cons_of_mem _ hq)⟩, hK⟩
  have hl := lv_entry ([.ref (o + 71), .int x1]) (n := 2) (Nat.le_of_ble_eq_true rfl)
  rw [lg_entry_eq]
  generalize (lg_sl ([.ref (o + 71), .int x1]) ++ List.replicate (2 - (lg_sl ([.ref (o + 71), .int x1])).length) Slot.unset).toArray = ls at hl ⊢
  have hl : lv_has ls 2 [(0, .ref (o + 71)), (1, .int x1)] := hl
  exact bk_1_record_0 cx B.returns B.notSynchronized h hw (hm_L0 _ _) hl
/-! ===== HeapGames$History.takeLatest()I ===== -/
theorem d_1_takeLatest_0 : decode prog_3_method_3_code 0 = .ok (.aload_n 0, 1) := by decide +kernel
theorem d_1_takeLatest_1 : decode prog_3_method_3_code 1 = .ok (.aload_n 0, 1) := by decide +kernel
theorem d_1_takeLatest_2 : decode prog_3_method_3_code 2 = .ok (.getfield 20, 3) := by decide +kernel
theorem d_1_takeLatest_5 : decode prog_3_method_3_code 5 = .ok (.bipush 30, 2) := by decide +kernel
theorem d_1_takeLatest_7 : decode prog_3_method_3_code 7 = .ok (.iadd, 1) := by decide +kernel
theorem d_1_takeLatest_8 : decode prog_3_method_3_code 8 = .ok (.iconst 1, 1) := by decide +kernel
theorem d_1_takeLatest_9 : decode prog_3_method_3_code 9 = .ok (.isub, 1) := by decide +kernel
theorem d_1_takeLatest_10 : decode prog_3_method_3_code 10 = .ok (.bipush 30, 2) := by decide +kernel
theorem d_1_takeLatest_12 : decode prog_3_method_3_code 12 = .ok (.irem, 1) := by decide +kernel
theorem d_1_takeLatest_13 : decode prog_3_method_3_code 13 = .ok (.putfield 20, 3) := by decide +kernel
theorem d_1_takeLatest_16 : decode prog_3_method_3_code 16 = .ok (.aload_n 0, 1) := by decide +kernel
theorem d_1_takeLatest_17 : decode prog_3_method_3_code 17 = .ok (.dup, 1) := by decide +kernel
theorem d_1_takeLatest_18 : decode prog_3_method_3_code 18 = .ok (.getfield 28, 3) := by decide +kernel
theorem d_1_takeLatest_21 : decode prog_3_method_3_code 21 = .ok (.iconst 1, 1) := by decide +kernel
theorem d_1_takeLatest_22 : decode prog_3_method_3_code 22 = .ok (.isub, 1) := by decide +kernel
theorem d_1_takeLatest_23 : decode prog_3_method_3_code 23 = .ok (.putfield 28, 3) := by decide +kernel
theorem d_1_takeLatest_26 : decode prog_3_method_3_code 26 = .ok (.aload_n 0, 1) := by decide +kernel
theorem d_1_takeLatest_27 : decode prog_3_method_3_code 27 = .ok (.getfield 14, 3) := by decide +kernel
theorem d_1_takeLatest_30 : decode prog_3_method_3_code 30 = .ok (.aload_n 0, 1) := by decide +kernel
theorem d_1_takeLatest_31 : decode prog_3_method_3_code 31 = .ok (.getfield 20, 3) := by decide +kernel
theorem d_1_takeLatest_34 : decode prog_3_method_3_code 34 = .ok (.invokevirtual 37, 3) := by decide +kernel
theorem d_1_takeLatest_37 : decode prog_3_method_3_code 37 = .ok (.ireturn, 1) := by decide +kernel
def wp_1_takeLatest (S : hm_S) (T : hm_T) (Q : Int32 → hm_S → hm_T → Prop) : Prop :=
  wp_5_get 72 30 ((hm_up (hm_up S 71 1 ((((S 71 1) + 30) - 1) - (((S 71 1) + 30) - 1) / 30 * 30)) 71 2 (((hm_up S 71 1 ((((S 71 1) + 30) - 1) - (((S 71 1) + 30) - 1) / 30 * 30)) 71 2) - 1)) 71 1) (hm_up (hm_up S 71 1 ((((S 71 1) + 30) - 1) - (((S 71 1) + 30) - 1) / 30 * 30)) 71 2 (((hm_up S 71 1 ((((S 71 1) + 30) - 1) - (((S 71 1) + 30) - 1) / 30 * 30)) 71 2) - 1)) T (fun r1 S1 T1 => Q r1 S1 T1)
set_option maxHeartbeats 4000000 in
set_option maxRecDepth 20000 in
theorem bk_1_takeLatest_0 {Q : Int32 → hm_S → hm_T → Prop} (cx : hm_cx G p s m args c prog_3_method_3_code 1 "HeapGames$History") (hr : meth.sig.returnType = some .int) (hlk : meth.locks = false) {S : hm_S} {T : hm_T} {H : Heap} {locs : List Loc} {ls : Array Slot} (h : wp_1_takeLatest S T Q) (hw : hm_w G H0 o 74 shX S T H) (hL : hm_L o 74 locs) (hl : lv_has ls 1 [(0, .ref (o + 71))]) : W p l e rm_1_takeLatest s m args below meth c H locs 0 0 (MQ below (hm_Qi G H0 o 74 shX Q) args s 0 0 (t_fr o (o + 74))) (F0 m 0 ls []) := by
  have hx := cx.1.1
  have hb := cx.1.2.1
  unfold wp_1_takeLatest at h
  refine lv_aload_n hx hb d_1_takeLatest_0 rfl (lv_at hl 0 rfl) ?_
  refine lv_aload_n hx hb d_1_takeLatest_1 rfl (lv_at hl 0 rfl) ?_
  refine gf_1_20 cx hw (i := 71) (by decide) sx_71 rfl d_1_takeLatest_2 ?_
  refine lv_bipush (v := 30) hx hb d_1_takeLatest_5 (by decide) ?_
  refine lv_iadd hx hb d_1_takeLatest_7 ?_
  refine lv_iconst (v := 1) hx hb d_1_takeLatest_8 (by decide) ?_
  refine lv_isub hx hb d_1_takeLatest_9 ?_
  refine lv_bipush (v := 30) hx hb d_1_takeLatest_10 (by decide) ?_
  refine lv_irem hx hb d_1_takeLatest_12 (by decide) ?_
  refine pf_1_20 cx hw (i := 71) (by decide) sx_71 rfl hL d_1_takeLatest_13 (fun H locs hw hL => ?_)
  refine lv_aload_n hx hb d_1_takeLatest_16 rfl (lv_at hl 0 rfl) ?_
  refine lv_dup hx hb d_1_takeLatest_17 rfl ?_
  refine gf_1_28 cx hw (i := 71) (by decide) sx_71 rfl d_1_takeLatest_18 ?_
  refine lv_iconst (v := 1) hx hb d_1_takeLatest_21 (by decide) ?_
  refine lv_isub hx hb d_1_takeLatest_22 ?_
  refine pf_1_28 cx hw (i := 71) (by decide) sx_71 rfl hL d_1_takeLatest_23 (fun H locs hw hL => ?_)
  refine lv_aload_n hx hb d_1_takeLatest_26 rfl (lv_at hl 0 rfl) ?_
  refine gf_1_14 cx hw (i := 71) (r := 72) (by decide) sx_71 rfl d_1_takeLatest_27 ?_
  refine lv_aload_n hx hb d_1_takeLatest_30 rfl (lv_at hl 0 rfl) ?_
  refine gf_1_20 cx hw (i := 71) (by decide) sx_71 rfl d_1_takeLatest_31 ?_
  refine hm_calli (hm_rV (i := 72) (As := [.int ((hm_up (hm_up S 71 1 ((((S 71 1) + 30) - 1) - (((S 71 1) + 30) - 1) / 30 * 30)) 71 2 (((hm_up S 71 1 ((((S 71 1) + 30) - 1) - (((S 71 1) + 30) - 1) / 30 * 30)) 71 2) - 1)) 71 1)]) (rest := []) cx hw (ct_5_get (by decide) sx_72 sx_73 h) (mw_1_37 cx.1.2.2.2.2 ⟨Nat.le_of_ble_eq_true rfl, Nat.le_of_ble_eq_true rfl⟩) (by decide) sx_72 rfl rfl hl.1 rfl (Nat.le_of_ble_eq_true rfl) d_1_takeLatest_34 ⟨Nat.zero_le _, Nat.zero_le _⟩) hL (fun r1 S1 T1 H locs h hw hL => ?_)
  exact W.iret hx hb hr (fun t ht _ => ⟨_, _, _, rfl, h, by rw [ht]; exact hw⟩) hL d_1_takeLatest_37
set_option maxHeartbeats 4000000 in
set_option maxRecDepth 20000 in
theorem ct_1_takeLatest {S : hm_S} {T : hm_T} {Q : Int32 → hm_S → hm_T → Prop} (h : wp_1_takeLatest S T Q) : hm_M l G H0 o 74 shX y_1_takeLatest prog_3_method_3_code 1 (some .int) rm_1_takeLatest S T [.ref (o + 71)] (hm_Qi G H0 o 74 shX Q) := by
  refine Met.ofW (cc := prog_3_method_3_code) (maxL := 1) (ret := some .int) (by decide) rfl ?_
  intro p e s m args below meth c s₁ B hml hv
  obtain ⟨rfl, hK, hw⟩ := hv
  have cx : hm_cx G p s m _ c prog_3_method_3_code 1 "HeapGames$History" := ⟨⟨B.exec, B.bytes, hml, findClass_of_methodNamed B.named, fun w hq => atoms_spec (ws := hm_ws y_1_takeLatest prog_3_method_3_code 1 (some .int)) B.pre w (List.mem_cons_of_mem _ hq)⟩, hK⟩
  have hl := lv_entry ([.ref (o + 71)]) (n := 1) (Nat.le_of_ble_eq_true rfl)
  rw [lg_entry_eq]
  generalize (lg_sl ([.ref (o + 71)]) ++ List.replicate (1 - (lg_sl ([.ref (o + 71)])).length) Slot.unset).toArray = ls at hl ⊢
  have hl : lv_has ls 1 [(0, .ref (o + 71))] := hl
  exact bk_1_takeLatest_0 cx B.returns B.notSynchronized h hw (hm_L0 _ _) hl
/-! ===== HeapGames$GrundyValues.forget()V ===== -/
theorem d_0_forget_0 : decode prog_2_method_2_code 0 = .ok (.aload_n 0, 1) := by decide +kernel
theorem d_0_forget_1 : decode prog_2_method_2_code 1 = .ok (.iconst 0, 1) := by decide +kernel
theorem d_0_forget_2 : decode prog_2_method_2_code 2 = .ok (.putfield 27, 3) := by decide +kernel
theorem d_0_forget_5 : decode prog_2_method_2_code 5 = .ok (.return_, 1) := by decide +kernel
def wp_0_forget (S : hm_S) (T : hm_T) (Q : hm_S → hm_T → Prop) : Prop :=
  Q (hm_up S 59 3 0) T
set_option maxHeartbeats 4000000 in
set_option maxRecDepth 20000 in
theorem bk_0_forget_0 {Q : hm_S → hm_T → Prop} (cx : hm_cx G p s m args c prog_2_method_2_code 1 "HeapGames$GrundyValues") (hr : meth.sig.returnType = none) (hlk : meth.locks = false) {S : hm_S} {T : hm_T} {H : Heap} {locs : List Loc} {ls : Array Slot} (h : wp_0_forget S T Q) (hw : hm_w G H0 o 74 shX S T H) (hL : hm_L o 74 locs) (hl : lv_has ls 1 [(0, .ref (o + 59))]) : W p l e rm_0_forget s m args below meth c H locs 0 0 (MQ below (hm_Qv G H0 o 74 shX Q) args s 0 0 (t_fr o (o + 74))) (F0 m 0 ls []) := by
  have hx := cx.1.1
  have hb := cx.1.2.1
  unfold wp_0_forget at h
  refine lv_aload_n hx hb d_0_forget_0 rfl (lv_at hl 0 rfl) ?_
  refine lv_iconst (v := 0) hx hb d_0_forget_1 (by decide) ?_
  refine pf_0_27 cx hw (i := 59) (by decide) sx_59 rfl hm_b0 hL d_0_forget_2 (fun H locs hw hL => ?_)
  exact W.vret hx hb hr (fun t ht _ => ⟨_, _, rfl, h, by rw [ht]; exact hw⟩) hL d_0_forget_5
set_option maxHeartbeats 4000000 in
set_option maxRecDepth 20000 in
theorem ct_0_forget {S : hm_S} {T : hm_T} {Q : hm_S → hm_T → Prop} (h : wp_0_forget S T Q) : hm_M l G H0 o 74 shX y_0_forget prog_2_method_2_code 1 (none) rm_0_forget S T [.ref (o + 59)] (hm_Qv G H0 o 74 shX Q) := by
  refine Met.ofW (cc := prog_2_method_2_code) (maxL := 1) (ret := none) (by decide) rfl ?_
  intro p e s m args below meth c s₁ B hml hv
  obtain ⟨rfl, hK, hw⟩ := hv
  have cx : hm_cx G p s m _ c prog_2_method_2_code 1 "HeapGames$GrundyValues" := ⟨⟨B.exec, B.bytes, hml, findClass_of_methodNamed B.named, fun w hq => atoms_spec (ws := hm_ws y_0_forget prog_2_method_2_code 1 (none)) B.pre w (List.mem_cons_of_mem _ hq)⟩, hK⟩
  have hl := lv_entry ([.ref (o + 59)]) (n := 1) (Nat.le_of_ble_eq_true rfl)
  rw [lg_entry_eq]
  generalize (lg_sl ([.ref (o + 59)]) ++ List.replicate (1 - (lg_sl ([.ref (o + 59)])).length) Slot.unset).toArray = ls at hl ⊢
  have hl : lv_has ls 1 [(0, .ref (o + 59))] := hl
  exact bk_0_forget_0 cx B.returns B.notSynchronized h hw (hm_L0 _ _) hl
/-! ===== HeapGames$GrundyValues.reachAllFrom(I)V ===== -/
theorem d_0_reachAllFrom_0 : decode prog_2_method_7_code 0 = .ok (.iconst 1, 1) := by decide +kernel
theorem d_0_reachAllFrom_1 : decode prog_2_method_7_code 1 = .ok (.istore_n 2, 1) := by decide +kernel
theorem d_0_reachAllFrom_2 : decode prog_2_method_7_code 2 = .ok (.iload_n 2, 1) := by decide +kernel
theorem d_0_reachAllFrom_3 : decode prog_2_method_7_code 3 = .ok (.bipush 10, 2) := by decide +kernel
theorem d_0_reachAllFrom_5 : decode prog_2_method_7_code 5 = .ok (.if_icmp .gt 78, 3) := by decide +kernel
theorem d_0_reachAllFrom_8 : decode prog_2_method_7_code 8 = .ok (.iload_n 2, 1) := by decide +kernel
theorem d_0_reachAllFrom_9 : decode prog_2_method_7_code 9 = .ok (.iload_n 1, 1) := by decide +kernel
theorem d_0_reachAllFrom_10 : decode prog_2_method_7_code 10 = .ok (.if_icmp .gt 73, 3) := by decide +kernel
theorem d_0_reachAllFrom_13 : decode prog_2_method_7_code 13 = .ok (.iload_n 1, 1) := by decide +kernel
theorem d_0_reachAllFrom_14 : decode prog_2_method_7_code 14 = .ok (.iload_n 2, 1) := by decide +kernel
theorem d_0_reachAllFrom_15 : decode prog_2_method_7_code 15 = .ok (.isub, 1) := by decide +kernel
theorem d_0_reachAllFrom_16 : decode prog_2_method_7_code 16 = .ok (.istore_n 3, 1) := by decide +kernel
theorem d_0_reachAllFrom_17 : decode prog_2_method_7_code 17 = .ok (.iconst 0, 1) := by decide +kernel
theorem d_0_reachAllFrom_18 : decode prog_2_method_7_code 18 = .ok (.istore 4, 2) := by decide +kernel
theorem d_0_reachAllFrom_20 : decode prog_2_method_7_code 20 = .ok (.iload 4, 2) := by decide +kernel
theorem d_0_reachAllFrom_22 : decode prog_2_method_7_code 22 = .ok (.iload_n 3, 1) := by decide +kernel
theorem d_0_reachAllFrom_23 : decode prog_2_method_7_code 23 = .ok (.iconst 2, 1) := by decide +kernel
theorem d_0_reachAllFrom_24 : decode prog_2_method_7_code 24 = .ok (.idiv, 1) := by decide +kernel
theorem d_0_reachAllFrom_25 : decode prog_2_method_7_code 25 = .ok (.if_icmp .gt 52, 3) := by decide +kernel
theorem d_0_reachAllFrom_28 : decode prog_2_method_7_code 28 = .ok (.aload_n 0, 1) := by decide +kernel
theorem d_0_reachAllFrom_29 : decode prog_2_method_7_code 29 = .ok (.getfield 23, 3) := by decide +kernel
theorem d_0_reachAllFrom_32 : decode prog_2_method_7_code 32 = .ok (.iload_n 2, 1) := by decide +kernel
theorem d_0_reachAllFrom_33 : decode prog_2_method_7_code 33 = .ok (.iload_n 1, 1) := by decide +kernel
theorem d_0_reachAllFrom_34 : decode prog_2_method_7_code 34 = .ok (.iload 4, 2) := by decide +kernel
theorem d_0_reachAllFrom_36 : decode prog_2_method_7_code 36 = .ok (.invokevirtual 61, 3) := by decide +kernel
theorem d_0_reachAllFrom_39 : decode prog_2_method_7_code 39 = .ok (.ifCond .eq 32, 3) := by decide +kernel
theorem d_0_reachAllFrom_42 : decode prog_2_method_7_code 42 = .ok (.aload_n 0, 1) := by decide +kernel
theorem d_0_reachAllFrom_43 : decode prog_2_method_7_code 43 = .ok (.getfield 20, 3) := by decide +kernel
theorem d_0_reachAllFrom_46 : decode prog_2_method_7_code 46 = .ok (.aload_n 0, 1) := by decide +kernel
theorem d_0_reachAllFrom_47 : decode prog_2_method_7_code 47 = .ok (.getfield 14, 3) := by decide +kernel
theorem d_0_reachAllFrom_50 : decode prog_2_method_7_code 50 = .ok (.iload 4, 2) := by decide +kernel
theorem d_0_reachAllFrom_52 : decode prog_2_method_7_code 52 = .ok (.invokevirtual 34, 3) := by decide +kernel
theorem d_0_reachAllFrom_55 : decode prog_2_method_7_code 55 = .ok (.aload_n 0, 1) := by decide +kernel
theorem d_0_reachAllFrom_56 : decode prog_2_method_7_code 56 = .ok (.getfield 14, 3) := by decide +kernel
theorem d_0_reachAllFrom_59 : decode prog_2_method_7_code 59 = .ok (.iload_n 3, 1) := by decide +kernel
theorem d_0_reachAllFrom_60 : decode prog_2_method_7_code 60 = .ok (.iload 4, 2) := by decide +kernel
theorem d_0_reachAllFrom_62 : decode prog_2_method_7_code 62 = .ok (.isub, 1) := by decide +kernel
theorem d_0_reachAllFrom_63 : decode prog_2_method_7_code 63 = .ok (.invokevirtual 34, 3) := by decide +kernel
theorem d_0_reachAllFrom_66 : decode prog_2_method_7_code 66 = .ok (.ixor, 1) := by decide +kernel
theorem d_0_reachAllFrom_67 : decode prog_2_method_7_code 67 = .ok (.iload_n 1, 1) := by decide +kernel
theorem d_0_reachAllFrom_68 : decode prog_2_method_7_code 68 = .ok (.invokevirtual 54, 3) := by decide +kernel
theorem d_0_reachAllFrom_71 : decode prog_2_method_7_code 71 = .ok (.iinc 4 1, 3) := by decide +kernel
theorem d_0_reachAllFrom_74 : decode prog_2_method_7_code 74 = .ok (.goto (-54), 3) := by decide +kernel
theorem d_0_reachAllFrom_77 : decode prog_2_method_7_code 77 = .ok (.iinc 2 1, 3) := by decide +kernel
theorem d_0_reachAllFrom_80 : decode prog_2_method_7_code 80 = .ok (.goto (-78), 3) := by decide +kernel
theorem d_0_reachAllFrom_83 : decode prog_2_method_7_code 83 = .ok (.return_, 1) := by decide +kernel
def wb_0_reachAllFrom_77 (Q : hm_S → hm_T → Prop) (K2 : Int32 → Int32 → hm_S → hm_T → Prop) (x1 : Int32) (x2 : Int32) (S : hm_S) (T : hm_T) : Prop :=
  K2 x1 (x2 + 1) S T
set_option maxHeartbeats 4000000 in
set_option maxRecDepth 20000 in
theorem bk_0_reachAllFrom_77 {Q : hm_S → hm_T → Prop} {K2 : Int32 → Int32 → hm_S → hm_T → Prop} (cx : hm_cx G p s m args c prog_2_method_7_code 5 "HeapGames$GrundyValues") (hr : meth.sig.returnType = none) (hlk : meth.locks = false) (k2 : ∀ (x1 : Int32) (x2 : Int32) (S : hm_S) (T : hm_T) (H : Heap) (locs : List Loc) (ls : Array Slot), K2 x1 x2 S T → hm_w G H0 o 74 shX S T H → hm_L o 74 locs → lv_has ls 5 [(0, .ref (o + 59)), (1, .int x1), (2, .int x2)] → W p l e rm_0_reachAllFrom s m args below meth c H locs 0 0 (MQ below (hm_Qv G H0 o 74 shX Q) args s 0 0 (t_fr o (o + 74))) (F0 m 2 ls [])) {x1 : Int32} {x2 : Int32} {S : hm_S} {T : hm_T} {H : Heap} {locs : List Loc} {ls : Array Slot} (h : wb_0_reachAllFrom_77 Q K2 x1 x2 S T) (hw : hm_w G H0 o 74 shX S T H) (hL : hm_L o 74 locs) (hl : lv_has ls 5 [(0, .ref (o + 59)), (1, .int x1), (2, .int x2)]) : W p l e rm_0_reachAllFrom s m args below meth c H locs 0 0 (MQ below (hm_Qv G H0 o 74 shX Q) args s 0 0 (t_fr o (o + 74))) (F0 m 77 ls []) := by
  have hx := cx.1.1
  have hb := cx.1.2.1
  unfold wb_0_reachAllFrom_77 at h
  refine lv_iinc (v := (x2 + 1)) (lv' := [(2, .int (x2 + 1)), (0, .ref (o + 59)), (1, .int x1)]) hx hb d_0_reachAllFrom_77 hl (k := 2) rfl rfl (by decide) rfl (fun ls hl => ?_)
  refine lv_goto (tgt := 2) hx hb d_0_reachAllFrom_80 (by decide) ?_
  exact k2 _ _ _ _ _ _ _ h hw hL (lv_sub hl [1, 2, 0] rfl)
def wb_0_reachAllFrom_71 (Q : hm_S → hm_T → Prop) (K2 : Int32 → Int32 → hm_S → hm_T → Prop) (K20 : Int32 → Int32 → Int32 → Int32 → hm_S → hm_T → Prop) (x1 : Int32) (x2 : Int32) (x3 : Int32) (x4 : Int32) (S : hm_S) (T : hm_T) : Prop :=
  K20 x1 x2 x3 (x4 + 1) S T
set_option maxHeartbeats 4000000 in
set_option maxRecDepth 20000 in
theorem bk_0_reachAllFrom_71 {Q : hm_S → hm_T → Prop} {K2 : Int32 → Int32 → hm_S → hm_T → Prop} {K20 : Int32 → Int32 → Int32 → Int32 → hm_S → hm_T → Prop} (cx : hm_cx G p s m args c prog_2_method_7_code 5 "HeapGames$GrundyValues") (hr : meth.sig.returnType = none) (hlk : meth.locks = false) (k2 : ∀ (x1 : Int32) (x2 : Int32) (S : hm_S) (T : hm_T) (H : Heap) (locs : List Loc) (ls : Array Slot), K2 x1 x2 S T → hm_w G H0 o 74 shX S T H → hm_L o 74 locs → lv_has ls 5 [(0, .ref (o + 59)), (1, .int x1), (2, .int x2)] → W p l e rm_0_reachAllFrom s m args below meth c H locs 0 0 (MQ below (hm_Qv G H0 o 74 shX Q) args s 0 0 (t_fr o (o + 74))) (F0 m 2 ls [])) (k20 : ∀ (x1 : Int32) (x2 : Int32) (x3 : Int32) (x4 : Int32) (S : hm_S) (T : hm_T) (H : Heap) (locs : List Loc) (ls : Array Slot), K20 x1 x2 x3 x4 S T → hm_w G H0 o 74 shX S T H → hm_L o 74 locs → lv_has ls 5 [(0, .ref (o + 59)), (1, .int x1), (2, .int x2), (3, .int x3), (4, .int x4)] → W p l e rm_0_reachAllFrom s m args below meth c H locs 0 0 (MQ below (hm_Qv G H0 o 74 shX Q) args s 0 0 (t_fr o (o + 74))) (F0 m 20 ls [])) {x1 : Int32} {x2 : Int32} {x3 : Int32} {x4 : Int32} {S : hm_S} {T : hm_T} {H : Heap} {locs : List Loc} {ls : Array Slot} (h : wb_0_reachAllFrom_71 Q K2 K20 x1 x2 x3 x4 S T) (hw : hm_w G H0 o 74 shX S T H) (hL : hm_L o 74 locs) (hl : lv_has ls 5 [(0, .ref (o + 59)), (1, .int x1), (2, .int x2), (3, .int x3), (4, .int x4)]) : W p l e rm_0_reachAllFrom s m args below meth c H locs 0 0 (MQ below (hm_Qv G H0 o 74 shX Q) args s 0 0 (t_fr o (o + 74))) (F0 m 71 ls []) := by
  have hx := cx.1.1
  have hb := cx.1.2.1
  unfold wb_0_reachAllFrom_71 at h
  refine lv_iinc (v := (x4 + 1)) (lv' := [(4, .int (x4 + 1)), (0, .ref (o + 59)), (1, .int x1), (2, .int x2), (3, .int x3)]) hx hb d_0_reachAllFrom_71 hl (k := 4) rfl rfl (by decide) rfl (fun ls hl => ?_)
  refine lv_goto (tgt := 20) hx hb d_0_reachAllFrom_74 (by decide) ?_
  exact k20 _ _ _ _ _ _ _ _ _ h hw hL (lv_sub hl [1, 2, 3, 4, 0] rfl)
def wb_0_reachAllFrom_20 (Q : hm_S → hm_T → Prop) (K2 : Int32 → Int32 → hm_S → hm_T → Prop) (K20 : Int32 → Int32 → Int32 → Int32 → hm_S → hm_T → Prop) (x1 : Int32) (x2 : Int32) (x3 : Int32) (x4 : Int32) (S : hm_S) (T : hm_T) : Prop :=
  (if (x3 / 2) < x4 then wb_0_reachAllFrom_77 Q K2 x1 x2 S T else wp_6_allows x2 x1 x4 S T (fun r1 S1 T1 => (if r1 = 0 then wb_0_reachAllFrom_71 Q K2 K20 x1 x2 x3 x4 S1 T1 else wp_5_get 60 61 x4 S1 T1 (fun r2 S2 T2 => wp_5_get 60 61 (x3 - x4) S2 T2 (fun r3 S3 T3 => wp_5_set 62 512 (r2 ^^^ r3) x1 S3 T3 (fun S4 T4 => wb_0_reachAllFrom_71 Q K2 K20 x1 x2 x3 x4 S4 T4))))))
set_option maxHeartbeats 4000000 in
set_option maxRecDepth 20000 in
theorem bk_0_reachAllFrom_20 {Q : hm_S → hm_T → Prop} {K2 : Int32 → Int32 → hm_S → hm_T → Prop} {K20 : Int32 → Int32 → Int32 → Int32 → hm_S → hm_T → Prop} (cx : hm_cx G p s m args c prog_2_method_7_code 5 "HeapGames$GrundyValues") (hr : meth.sig.returnType = none) (hlk : meth.locks = false) (k2 : ∀ (x1 : Int32) (x2 : Int32) (S : hm_S) (T : hm_T) (H : Heap) (locs : List Loc) (ls : Array Slot), K2 x1 x2 S T → hm_w G H0 o 74 shX S T H → hm_L o 74 locs → lv_has ls 5 [(0, .ref (o + 59)), (1, .int x1), (2, .int x2)] → W p l e rm_0_reachAllFrom s m args below meth c H locs 0 0 (MQ below (hm_Qv G H0 o 74 shX Q) args s 0 0 (t_fr o (o + 74))) (F0 m 2 ls [])) (k20 : ∀ (x1 : Int32) (x2 : Int32) (x3 : Int32) (x4 : Int32) (S : hm_S) (T : hm_T) (H : Heap) (locs : List Loc) (ls : Array Slot), K20 x1 x2 x3 x4 S T → hm_w G H0 o 74 shX S T H → hm_L o 74 locs → lv_has ls 5 [(0, .ref (o + 59)), (1, .int x1), (2, .int x2), (3, .int x3), (4, .int x4)] → W p l e rm_0_reachAllFrom s m args below meth c H locs 0 0 (MQ below (hm_Qv G H0 o 74 shX Q) args s 0 0 (t_fr o (o + 74))) (F0 m 20 ls [])) {x1 : Int32} {x2 : Int32} {x3 : Int32} {x4 : Int32} {S : hm_S} {T : hm_T} {H : Heap} {locs : List Loc} {ls : Array Slot} (h : wb_0_reachAllFrom_20 Q K2 K20 x1 x2 x3 x4 S T) (hw : hm_w G H0 o 74 shX S T H) (hL : hm_L o 74 locs) (hl : lv_has ls 5 [(0, .ref (o + 59)), (1, .int x1), (2, .int x2), (3, .int x3), (4, .int x4)]) : W p l e rm_0_reachAllFrom s m args below meth c H locs 0 0 (MQ below (hm_Qv G H0 o 74 shX Q) args s 0 0 (t_fr o (o + 74))) (F0 m 20 ls []) := by
  have hx := cx.1.1
  have hb := cx.1.2.1
  unfold wb_0_reachAllFrom_20 at h
  refine lv_iload hx hb d_0_reachAllFrom_20 (lv_at hl 4 rfl) ?_
  refine lv_iload_n hx hb d_0_reachAllFrom_22 rfl (lv_at hl 3 rfl) ?_
  refine lv_iconst (v := 2) hx hb d_0_reachAllFrom_23 (by decide) ?_
  refine lv_idiv hx hb d_0_reachAllFrom_24 (by decide) ?_
  refine lv_icmp_gt (tgt := 77) hx hb d_0_reachAllFrom_25 (by decide) (fun hc => ?_) (fun hc => ?_)
  · replace h := hm_pos hc h
    exact bk_0_reachAllFrom_77 cx hr hlk k2 h hw hL (lv_sub hl [0, 1, 2] rfl)
  · replace h := hm_neg hc h
    refine lv_aload_n hx hb d_0_reachAllFrom_28 rfl (lv_at hl 0 rfl) ?_
    refine gf_0_23 cx hw (i := 59) (r := 1) (by decide) sx_59 rfl d_0_reachAllFrom_29 ?_
    refine lv_iload_n hx hb d_0_reachAllFrom_32 rfl (lv_at hl 2 rfl) ?_
    refine lv_iload_n hx hb d_0_reachAllFrom_33 rfl (lv_at hl 1 rfl) ?_
    refine lv_iload hx hb d_0_reachAllFrom_34 (lv_at hl 4 rfl) ?_
    refine hm_calli (hm_rV (i := 1) (As := [.int x2, .int x1, .int x4]) (rest := []) cx hw (ct_6_allows h) (mw_0_61 cx.1.2.2.2.2 ⟨Nat.le_of_ble_eq_true rfl, Nat.le_of_ble_eq_true rfl⟩) (by decide) sx_1 rfl rfl hl.1 rfl (Nat.le_of_ble_eq_true rfl) d_0_reachAllFrom_36 ⟨Nat.zero_le _, Nat.zero_le _⟩) hL (fun r1 S1 T1 H locs h hw hL => ?_)
    refine lv_if_eq (tgt := 71) hx hb d_0_reachAllFrom_39 (by decide) (fun hc => ?_) (fun hc => ?_)
    · replace h := hm_pos hc h
      exact bk_0_reachAllFrom_71 cx hr hlk k2 k20 h hw hL (lv_sub hl [0, 1, 2, 3, 4] rfl)
    · replace h := hm_neg hc h
      refine lv_aload_n hx hb d_0_reachAllFrom_42 rfl (lv_at hl 0 rfl) ?_
      refine gf_0_20 cx hw (i := 59) (r := 62) (by decide) sx_59 rfl d_0_reachAllFrom_43 ?_
      refine lv_aload_n hx hb d_0_reachAllFrom_46 rfl (lv_at hl 0 rfl) ?_
      refine gf_0_14 cx hw (i := 59) (r := 60) (by decide) sx_59 rfl d_0_reachAllFrom_47 ?_
      refine lv_iload hx hb d_0_reachAllFrom_50 (lv_at hl 4 rfl) ?_
      refine hm_calli (hm_rV (i := 60) (As := [.int x4]) (rest := [.ref (o + 62)]) cx hw (ct_5_get (by decide) sx_60 sx_61 h) (mw_0_34 cx.1.2.2.2.2 ⟨Nat.le_of_ble_eq_true rfl, Nat.le_of_ble_eq_true rfl⟩) (by decide) sx_60 rfl rfl hl.1 rfl (Nat.le_of_ble_eq_true rfl) d_0_reachAllFrom_52 ⟨Nat.zero_le _, Nat.zero_le _⟩) hL (fun r2 S2 T2 H locs h hw hL => ?_)
      refine lv_aload_n hx hb d_0_reachAllFrom_55 rfl (lv_at hl 0 rfl) ?_
      refine gf_0_14 cx hw (i := 59) (r := 60) (by decide) sx_59 rfl d_0_reachAllFrom_56 ?_
      refine lv_iload_n hx hb d_0_reachAllFrom_59 rfl (lv_at hl 3 rfl) ?_
      refine lv_iload hx hb d_0_reachAllFrom_60 (lv_at hl 4 rfl) ?_
      refine lv_isub hx hb d_0_reachAllFrom_62 ?_
      refine hm_calli (hm_rV (i := 60) (As := [.int (x3 - x4)]) (rest := [.int r2, .ref (o + 62)]) cx hw (ct_5_get (by decide) sx_60 sx_61 h) (mw_0_34 cx.1.2.2.2.2 ⟨Nat.le_of_ble_eq_true rfl, Nat.le_of_ble_eq_true rfl⟩) (by decide) sx_60 rfl rfl hl.1 rfl (Nat.le_of_ble_eq_true rfl) d_0_reachAllFrom_63 ⟨Nat.zero_le _, Nat.zero_le _⟩) hL (fun r3 S3 T3 H locs h hw hL => ?_)
      refine lv_ixor hx hb d_0_reachAllFrom_66 ?_
      refine lv_iload_n hx hb d_0_reachAllFrom_67 rfl (lv_at hl 1 rfl) ?_
      refine hm_callv (hm_rV (i := 62) (As := [.int (r2 ^^^ r3), .int x1]) (rest := []) cx hw (ct_5_set (by decide) sx_62 sx_63 h) (mw_0_54 cx.1.2.2.2.2 ⟨Nat.le_of_ble_eq_true rfl, Nat.le_of_ble_eq_true rfl⟩) (by decide) sx_62 rfl rfl hl.1 rfl (Nat.le_of_ble_eq_true rfl) d_0_reachAllFrom_68 ⟨Nat.zero_le _, Nat.zero_le _⟩) hL (fun S4 T4 H locs h hw hL => ?_)
      exact bk_0_reachAllFrom_71 cx hr hlk k2 k20 h hw hL (lv_sub hl [0, 1, 2, 3, 4] rfl)
def wl_0_reachAllFrom_20 (Q : hm_S → hm_T → Prop) (K2 : Int32 → Int32 → hm_S → hm_T → Prop) : Nat → Int32 → Int32 → Int32 → Int32 → hm_S → hm_T → Prop
  | 0, _, _, _, _, _, _ => False
  | f + 1, x1, x2, x3, x4, S, T => wb_0_reachAllFrom_20 Q K2 (wl_0_reachAllFrom_20 Q K2 f) x1 x2 x3 x4 S T
theorem lp_0_reachAllFrom_20 {Q : hm_S → hm_T → Prop} {K2 : Int32 → Int32 → hm_S → hm_T → Prop} (cx : hm_cx G p s m args c prog_2_method_7_code 5 "HeapGames$GrundyValues") (hr : meth.sig.returnType = none) (hlk : meth.locks = false) (k2 : ∀ (x1 : Int32) (x2 : Int32) (S : hm_S) (T : hm_T) (H : Heap) (locs : List Loc) (ls : Array Slot), K2 x1 x2 S T → hm_w G H0 o 74 shX S T H → hm_L o 74 locs → lv_has ls 5 [(0, .ref (o + 59)), (1, .int x1), (2, .int x2)] → W p l e rm_0_reachAllFrom s m args below meth c H locs 0 0 (MQ below (hm_Qv G H0 o 74 shX Q) args s 0 0 (t_fr o (o + 74))) (F0 m 2 ls [])) : ∀ (f : Nat) (x1 : Int32) (x2 : Int32) (x3 : Int32) (x4 : Int32) (S : hm_S) (T : hm_T) (H : Heap) (locs : List Loc) (ls : Array Slot), wl_0_reachAllFrom_20 Q K2 f x1 x2 x3 x4 S T → hm_w G H0 o 74 shX S T H → hm_L o 74 locs → lv_has ls 5 [(0, .ref (o + 59)), (1, .int x1), (2, .int x2), (3, .int x3), (4, .int x4)] → W p l e rm_0_reachAllFrom s m args below meth c H locs 0 0 (MQ below (hm_Qv G H0 o 74 shX Q) args s 0 0 (t_fr o (o + 74))) (F0 m 20 ls []) := by
  intro f
  induction f with
  | zero => intro x1 x2 x3 x4 S T H locs ls h; exact h.elim
  | succ f ih => intro x1 x2 x3 x4 S T H locs ls h hw hL hl; exact bk_0_reachAllFrom_20 cx hr hlk k2 ih h hw hL hl
def wb_0_reachAllFrom_2 (Q : hm_S → hm_T → Prop) (K2 : Int32 → Int32 → hm_S → hm_T → Prop) (x1 : Int32) (x2 : Int32) (S : hm_S) (T : hm_T) : Prop :=
  (if 10 < x2 then Q S T else (if x1 < x2 then Q S T else ∃ f, wl_0_reachAllFrom_20 Q K2 f x1 x2 (x1 - x2) 0 S T))
set_option maxHeartbeats 4000000 in
set_option maxRecDepth 20000 in
theorem bk_0_reachAllFrom_2 {Q : hm_S → hm_T → Prop} {K2 : Int32 → Int32 → hm_S → hm_T → Prop} (cx : hm_cx G p s m args c prog_2_method_7_code 5 "HeapGames$GrundyValues") (hr : meth.sig.returnType = none) (hlk : meth.locks = false) (k2 : ∀ (x1 : Int32) (x2 : Int32) (S : hm_S) (T : hm_T) (H : Heap) (locs : List Loc) (ls : Array Slot), K2 x1 x2 S T → hm_w G H0 o 74 shX S T H → hm_L o 74 locs → lv_has ls 5 [(0, .ref (o + 59)), (1, .int x1), (2, .int x2)] → W p l e rm_0_reachAllFrom s m args below meth c H locs 0 0 (MQ below (hm_Qv G H0 o 74 shX Q) args s 0 0 (t_fr o (o + 74))) (F0 m 2 ls [])) {x1 : Int32} {x2 : Int32} {S : hm_S} {T : hm_T} {H : Heap} {locs : List Loc} {ls : Array Slot} (h : wb_0_reachAllFrom_2 Q K2 x1 x2 S T) (hw : hm_w G H0 o 74 shX S T H) (hL : hm_L o 74 locs) (hl : lv_has ls 5 [(0, .ref (o + 59)), (1, .int x1), (2, .int x2)]) : W p l e rm_0_reachAllFrom s m args below meth c H locs 0 0 (MQ below (hm_Qv G H0 o 74 shX Q) args s 0 0 (t_fr o (o + 74))) (F0 m 2 ls []) := by
  have hx := cx.1.1
  have hb := cx.1.2.1
  unfold wb_0_reachAllFrom_2 at h
  refine lv_iload_n hx hb d_0_reachAllFrom_2 rfl (lv_at hl 2 rfl) ?_
  refine lv_bipush (v := 10) hx hb d_0_reachAllFrom_3 (by decide) ?_
  refine lv_icmp_gt (tgt := 83) hx hb d_0_reachAllFrom_5 (by decide) (fun hc => ?_) (fun hc => ?_)
  · replace h := hm_pos hc h
    exact W.vret hx hb hr (fun t ht _ => ⟨_, _, rfl, h, by rw [ht]; exact hw⟩) hL d_0_reachAllFrom_83
  · replace h := hm_neg hc h
    refine lv_iload_n hx hb d_0_reachAllFrom_8 rfl (lv_at hl 2 rfl) ?_
    refine lv_iload_n hx hb d_0_reachAllFrom_9 rfl (lv_at hl 1 rfl) ?_
    refine lv_icmp_gt (tgt := 83) hx hb d_0_reachAllFrom_10 (by decide) (fun hc => ?_) (fun hc => ?_)
    · replace h := hm_pos hc h
      exact W.vret hx hb hr (fun t ht _ => ⟨_, _, rfl, h, by rw [ht]; exact hw⟩) hL d_0_reachAllFrom_83
    · replace h := hm_neg hc h
      refine lv_iload_n hx hb d_0_reachAllFrom_13 rfl (lv_at hl 1 rfl) ?_
      refine lv_iload_n hx hb d_0_reachAllFrom_14 rfl (lv_at hl 2 rfl) ?_
      refine lv_isub hx hb d_0_reachAllFrom_15 ?_
      refine lv_istore_n (lv' := [(3, .int (x1 - x2)), (0, .ref (o + 59)), (1, .int x1), (2, .int x2)]) hx hb d_0_reachAllFrom_16 rfl hl (by decide) rfl (fun ls hl => ?_)
      refine lv_iconst (v := 0) hx hb d_0_reachAllFrom_17 (by decide) ?_
      refine lv_istore (lv' := [(4, .int 0), (3, .int (x1 - x2)), (0, .ref (o + 59)), (1, .int x1), (2, .int x2)]) hx hb d_0_reachAllFrom_18 hl (by decide) rfl (fun ls hl => ?_)
      obtain ⟨f, h⟩ := h
      exact lp_0_reachAllFrom_20 cx hr hlk k2 f _ _ _ _ _ _ _ _ _ h hw hL (lv_sub hl [2, 3, 4, 1, 0] rfl)
def wl_0_reachAllFrom_2 (Q : hm_S → hm_T → Prop) : Nat → Int32 → Int32 → hm_S → hm_T → Prop
  | 0, _, _, _, _ => False
  | f + 1, x1, x2, S, T => wb_0_reachAllFrom_2 Q (wl_0_reachAllFrom_2 Q f) x1 x2 S T
theorem lp_0_reachAllFrom_2 {Q : hm_S → hm_T → Prop} (cx : hm_cx G p s m args c prog_2_method_7_code 5 "HeapGames$GrundyValues") (hr : meth.sig.returnType = none) (hlk : meth.locks = false) : ∀ (f : Nat) (x1 : Int32) (x2 : Int32) (S : hm_S) (T : hm_T) (H : Heap) (locs : List Loc) (ls : Array Slot), wl_0_reachAllFrom_2 Q f x1 x2 S T → hm_w G H0 o 74 shX S T H → hm_L o 74 locs → lv_has ls 5 [(0, .ref (o + 59)), (1, .int x1), (2, .int x2)] → W p l e rm_0_reachAllFrom s m args below meth c H locs 0 0 (MQ below (hm_Qv G H0 o 74 shX Q) args s 0 0 (t_fr o (o + 74))) (F0 m 2 ls []) := by
  intro f
  induction f with
  | zero => intro x1 x2 S T H locs ls h; exact h.elim
  | succ f ih => intro x1 x2 S T H locs ls h hw hL hl; exact bk_0_reachAllFrom_2 cx hr hlk ih h hw hL hl
def wp_0_reachAllFrom (x1 : Int32) (S : hm_S) (T : hm_T) (Q : hm_S → hm_T → Prop) : Prop :=
  ∃ f, wl_0_reachAllFrom_2 Q f x1 1 S T
set_option maxHeartbeats 4000000 in
set_option maxRecDepth 20000 in
theorem bk_0_reachAllFrom_0 {Q : hm_S → hm_T → Prop} (cx : hm_cx G p s m args c prog_2_method_7_code 5 "HeapGames$GrundyValues") (hr : meth.sig.returnType = none) (hlk : meth.locks = false) {x1 : Int32} {S : hm_S} {T : hm_T} {H : Heap} {locs : List Loc} {ls : Array Slot} (h : wp_0_reachAllFrom x1 S T Q) (hw : hm_w G H0 o 74 shX S T H) (hL : hm_L o 74 locs) (hl : lv_has ls 5 [(0, .ref (o + 59)), (1, .int x1)]) : W p l e rm_0_reachAllFrom s m args below meth c H locs 0 0 (MQ below (hm_Qv G H0 o 74 shX Q) args s 0 0 (t_fr o (o + 74))) (F0 m 0 ls []) := by
  have hx := cx.1.1
  have hb := cx.1.2.1
  unfold wp_0_reachAllFrom at h
  refine lv_iconst (v := 1) hx hb d_0_reachAllFrom_0 (by decide) ?_
  refine lv_istore_n (lv' := [(2, .int 1), (0, .ref (o + 59)), (1, .int x1)]) hx hb d_0_reachAllFrom_1 rfl hl (by decide) rfl (fun ls hl => ?_)
  obtain ⟨f, h⟩ := h
  exact lp_0_reachAllFrom_2 cx hr hlk f _ _ _ _ _ _ _ h hw hL (lv_sub hl [1, 2, 0] rfl)
set_option maxHeartbeats 4000000 in
set_option maxRecDepth 20000 in
theorem ct_0_reachAllFrom {x1 : Int32} {S : hm_S} {T : hm_T} {Q : hm_S → hm_T → Prop} (h : wp_0_reachAllFrom x1 S T Q) : hm_M l G H0 o 74 shX y_0_reachAllFrom prog_2_method_7_code 5 (none) rm_0_reachAllFrom S T [.ref (o + 59), .int x1] (hm_Qv G H0 o 74 shX Q) := by
  refine Met.ofW (cc := prog_2_method_7_code) (maxL := 5) (ret := none) (by decide) rfl ?_
  intro p e s m args below meth c s₁ B hml hv
  obtain ⟨rfl, hK, hw⟩ := hv
  have cx : hm_cx G p s m _ c prog_2_method_7_code 5 "HeapGames$GrundyValues" := ⟨⟨B.exec, B.bytes, hml, findClass_of_methodNamed B.named, fun w hq => atoms_spec (ws := hm_ws y_0_reachAllFrom prog_2_method_7_code 5 (none)) B.pre w (List.mem_cons_of_mem _ hq)⟩, hK⟩
  have hl := lv_entry ([.ref (o + 59), .int x1]) (n := 5) (Nat.le_of_ble_eq_true rfl)
  rw [lg_entry_eq]
  generalize (lg_sl ([.ref (o + 59), .int x1]) ++ List.replicate (5 - (lg_sl ([.ref (o + 59), .int x1])).length) Slot.unset).toArray = ls at hl ⊢
  have hl : lv_has ls 5 [(0, .ref (o + 59)), (1, .int x1)] := hl
  exact bk_0_reachAllFrom_0 cx B.returns B.notSynchronized h hw (hm_L0 _ _) hl
/-! ===== HeapGames$GrundyValues.leastNotReachedFrom(I)I ===== -/
theorem d_0_leastNotReachedFrom_0 : decode prog_2_method_8_code 0 = .ok (.iconst 0, 1) := by decide +kernel
theorem d_0_leastNotReachedFrom_1 : decode prog_2_method_8_code 1 = .ok (.istore_n 2, 1) := by decide +kernel
theorem d_0_leastNotReachedFrom_2 : decode prog_2_method_8_code 2 = .ok (.iload_n 2, 1) := by decide +kernel
theorem d_0_leastNotReachedFrom_3 : decode prog_2_method_8_code 3 = .ok (.sipush 512, 3) := by decide +kernel
theorem d_0_leastNotReachedFrom_6 : decode prog_2_method_8_code 6 = .ok (.if_icmp .ge 21, 3) := by decide +kernel
theorem d_0_leastNotReachedFrom_9 : decode prog_2_method_8_code 9 = .ok (.aload_n 0, 1) := by decide +kernel
theorem d_0_leastNotReachedFrom_10 : decode prog_2_method_8_code 10 = .ok (.getfield 20, 3) := by decide +kernel
theorem d_0_leastNotReachedFrom_13 : decode prog_2_method_8_code 13 = .ok (.iload_n 2, 1) := by decide +kernel
theorem d_0_leastNotReachedFrom_14 : decode prog_2_method_8_code 14 = .ok (.invokevirtual 34, 3) := by decide +kernel
theorem d_0_leastNotReachedFrom_17 : decode prog_2_method_8_code 17 = .ok (.iload_n 1, 1) := by decide +kernel
theorem d_0_leastNotReachedFrom_18 : decode prog_2_method_8_code 18 = .ok (.if_icmp .ne 9, 3) := by decide +kernel
theorem d_0_leastNotReachedFrom_21 : decode prog_2_method_8_code 21 = .ok (.iinc 2 1, 3) := by decide +kernel
theorem d_0_leastNotReachedFrom_24 : decode prog_2_method_8_code 24 = .ok (.goto (-22), 3) := by decide +kernel
theorem d_0_leastNotReachedFrom_27 : decode prog_2_method_8_code 27 = .ok (.iload_n 2, 1) := by decide +kernel
theorem d_0_leastNotReachedFrom_28 : decode prog_2_method_8_code 28 = .ok (.ireturn, 1) := by decide +kernel
def wb_0_leastNotReachedFrom_2 (Q : Int32 → hm_S → hm_T → Prop) (K2 : Int32 → Int32 → hm_S → hm_T → Prop) (x1 : Int32) (x2 : Int32) (S : hm_S) (T : hm_T) : Prop :=
  (if 512 ≤ x2 then Q x2 S T else wp_5_get 62 512 x2 S T (fun r1 S1 T1 => (if r1 = x1 then K2 x1 (x2 + 1) S1 T1 else Q x2 S1 T1)))
set_option maxHeartbeats 4000000 in
set_option maxRecDepth 20000 in
theorem bk_0_leastNotReachedFrom_2 {Q : Int32 → hm_S → hm_T → Prop} {K2 : Int32 → Int32 → hm_S → hm_T → Prop} (cx : hm_cx G p s m args c prog_2_method_8_code 3 "HeapGames$GrundyValues") (hr : meth.sig.returnType = some .int) (hlk : meth.locks = false) (k2 : ∀ (x1 : Int32) (x2 : Int32) (S : hm_S) (T : hm_T) (H : Heap) (locs : List Loc) (ls : Array Slot), K2 x1 x2 S T → hm_w G H0 o 74 shX S T H → hm_L o 74 locs → lv_has ls 3 [(0, .ref (o + 59)), (1, .int x1), (2, .int x2)] → W p l e rm_0_leastNotReachedFrom s m args below meth c H locs 0 0 (MQ below (hm_Qi G H0 o 74 shX Q) args s 0 0 (t_fr o (o + 74))) (F0 m 2 ls [])) {x1 : Int32} {x2 : Int32} {S : hm_S} {T : hm_T} {H : Heap} {locs : List Loc} {ls : Array Slot} (h : wb_0_leastNotReachedFrom_2 Q K2 x1 x2 S T) (hw : hm_w G H0 o 74 shX S T H) (hL : hm_L o 74 locs) (hl : lv_has ls 3 [(0, .ref (o + 59)), (1, .int x1), (2, .int x2)]) : W p l e rm_0_leastNotReachedFrom s m args below meth c H locs 0 0 (MQ below (hm_Qi G H0 o 74 shX Q) args s 0 0 (t_fr o (o + 74))) (F0 m 2 ls []) := by
  have hx := cx.1.1
  have hb := cx.1.2.1
  unfold wb_0_leastNotReachedFrom_2 at h
  refine lv_iload_n hx hb d_0_leastNotReachedFrom_2 rfl (lv_at hl 2 rfl) ?_
  refine lv_sipush (v := 512) hx hb d_0_leastNotReachedFrom_3 (by decide) ?_
  refine lv_icmp_ge (tgt := 27) hx hb d_0_leastNotReachedFrom_6 (by decide) (fun hc => ?_) (fun hc => ?_)
  · replace h := hm_pos hc h
    refine lv_iload_n hx hb d_0_leastNotReachedFrom_27 rfl (lv_at hl 2 rfl) ?_
    exact W.iret hx hb hr (fun t ht _ => ⟨_, _, _, rfl, h, by rw [ht]; exact hw⟩) hL d_0_leastNotReachedFrom_28
  · replace h := hm_neg hc h
    refine lv_aload_n hx hb d_0_leastNotReachedFrom_9 rfl (lv_at hl 0 rfl) ?_
    refine gf_0_20 cx hw (i := 59) (r := 62) (by decide) sx_59 rfl d_0_leastNotReachedFrom_10 ?_
    refine lv_iload_n hx hb d_0_leastNotReachedFrom_13 rfl (lv_at hl 2 rfl) ?_
    refine hm_calli (hm_rV (i := 62) (As := [.int x2]) (rest := []) cx hw (ct_5_get (by decide) sx_62 sx_63 h) (mw_0_34 cx.1.2.2.2.2 ⟨Nat.le_of_ble_eq_true rfl, Nat.le_of_ble_eq_true rfl⟩) (by decide) sx_62 rfl rfl hl.1 rfl (Nat.le_of_ble_eq_true rfl) d_0_leastNotReachedFrom_14 ⟨Nat.zero_le _, Nat.zero_le _⟩) hL (fun r1 S1 T1 H locs h hw hL => ?_)
    refine lv_iload_n hx hb d_0_leastNotReachedFrom_17 rfl (lv_at hl 1 rfl) ?_
    refine lv_icmp_ne (tgt := 27) hx hb d_0_leastNotReachedFrom_18 (by decide) (fun hc => ?_) (fun hc => ?_)
    · replace h := hm_neg hc h
      refine lv_iload_n hx hb d_0_leastNotReachedFrom_27 rfl (lv_at hl 2 rfl) ?_
      exact W.iret hx hb hr (fun t ht _ => ⟨_, _, _, rfl, h, by rw [ht]; exact hw⟩) hL d_0_leastNotReachedFrom_28
    · replace h := hm_pos hc h
      refine lv_iinc (v := (x2 + 1)) (lv' := [(2, .int (x2 + 1)), (0, .ref (o + 59)), (1, .int x1)]) hx hb d_0_leastNotReachedFrom_21 hl (k := 2) rfl rfl (by decide) rfl (fun ls hl => ?_)
      refine lv_goto (tgt := 2) hx hb d_0_leastNotReachedFrom_24 (by decide) ?_
      exact k2 _ _ _ _ _ _ _ h hw hL (lv_sub hl [1, 2, 0] rfl)
def wl_0_leastNotReachedFrom_2 (Q : Int32 → hm_S → hm_T → Prop) : Nat → Int32 → Int32 → hm_S → hm_T → Prop
  | 0, _, _, _, _ => False
  | f + 1, x1, x2, S, T => wb_0_leastNotReachedFrom_2 Q (wl_0_leastNotReachedFrom_2 Q f) x1 x2 S T
theorem lp_0_leastNotReachedFrom_2 {Q : Int32 → hm_S → hm_T → Prop} (cx : hm_cx G p s m args c prog_2_method_8_code 3 "HeapGames$GrundyValues") (hr : meth.sig.returnType = some .int) (hlk : meth.locks = false) : ∀ (f : Nat) (x1 : Int32) (x2 : Int32) (S : hm_S) (T : hm_T) (H : Heap) (locs : List Loc) (ls : Array Slot), wl_0_leastNotReachedFrom_2 Q f x1 x2 S T → hm_w G H0 o 74 shX S T H → hm_L o 74 locs → lv_has ls 3 [(0, .ref (o + 59)), (1, .int x1), (2, .int x2)] → W p l e rm_0_leastNotReachedFrom s m args below meth c H locs 0 0 (MQ below (hm_Qi G H0 o 74 shX Q) args s 0 0 (t_fr o (o + 74))) (F0 m 2 ls []) := by
  intro f
  induction f with
  | zero => intro x1 x2 S T H locs ls h; exact h.elim
  | succ f ih => intro x1 x2 S T H locs ls h hw hL hl; exact bk_0_leastNotReachedFrom_2 cx hr hlk ih h hw hL hl
def wp_0_leastNotReachedFrom (x1 : Int32) (S : hm_S) (T : hm_T) (Q : Int32 → hm_S → hm_T → Prop) : Prop :=
  ∃ f, wl_0_leastNotReachedFrom_2 Q f x1 0 S T
set_option maxHeartbeats 4000000 in
set_option maxRecDepth 20000 in
theorem bk_0_leastNotReachedFrom_0 {Q : Int32 → hm_S → hm_T → Prop} (cx : hm_cx G p s m args c prog_2_method_8_code 3 "HeapGames$GrundyValues") (hr : meth.sig.returnType = some .int) (hlk : meth.locks = false) {x1 : Int32} {S : hm_S} {T : hm_T} {H : Heap} {locs : List Loc} {ls : Array Slot} (h : wp_0_leastNotReachedFrom x1 S T Q) (hw : hm_w G H0 o 74 shX S T H) (hL : hm_L o 74 locs) (hl : lv_has ls 3 [(0, .ref (o + 59)), (1, .int x1)]) : W p l e rm_0_leastNotReachedFrom s m args below meth c H locs 0 0 (MQ below (hm_Qi G H0 o 74 shX Q) args s 0 0 (t_fr o (o + 74))) (F0 m 0 ls []) := by
  have hx := cx.1.1
  have hb := cx.1.2.1
  unfold wp_0_leastNotReachedFrom at h
  refine lv_iconst (v := 0) hx hb d_0_leastNotReachedFrom_0 (by decide) ?_
  refine lv_istore_n (lv' := [(2, .int 0), (0, .ref (o + 59)), (1, .int x1)]) hx hb d_0_leastNotReachedFrom_1 rfl hl (by decide) rfl (fun ls hl => ?_)
  obtain ⟨f, h⟩ := h
  exact lp_0_leastNotReachedFrom_2 cx hr hlk f _ _ _ _ _ _ _ h hw hL (lv_sub hl [1, 2, 0] rfl)
set_option maxHeartbeats 4000000 in
set_option maxRecDepth 20000 in
theorem ct_0_leastNotReachedFrom {x1 : Int32} {S : hm_S} {T : hm_T} {Q : Int32 → hm_S → hm_T → Prop} (h : wp_0_leastNotReachedFrom x1 S T Q) : hm_M l G H0 o 74 shX y_0_leastNotReachedFrom prog_2_method_8_code 3 (some .int) rm_0_leastNotReachedFrom S T [.ref (o + 59), .int x1] (hm_Qi G H0 o 74 shX Q) := by
  refine Met.ofW (cc := prog_2_method_8_code) (maxL := 3) (ret := some .int) (by decide) rfl ?_
  intro p e s m args below meth c s₁ B hml hv
  obtain ⟨rfl, hK, hw⟩ := hv
  have cx : hm_cx G p s m _ c prog_2_method_8_code 3 "HeapGames$GrundyValues" := ⟨⟨B.exec, B.bytes, hml, findClass_of_methodNamed B.named, fun w hq => atoms_spec (ws := hm_ws y_0_leastNotReachedFrom prog_2_method_8_code 3 (some .int)) B.pre w (List.mem_cons_of_mem _ hq)⟩, hK⟩
  have hl := lv_entry ([.ref (o + 59), .int x1]) (n := 3) (Nat.le_of_ble_eq_true rfl)
  rw [lg_entry_eq]
  generalize (lg_sl ([.ref (o + 59), .int x1]) ++ List.replicate (3 - (lg_sl ([.ref (o + 59), .int x1])).length) Slot.unset).toArray = ls at hl ⊢
  have hl : lv_has ls 3 [(0, .ref (o + 59)), (1, .int x1)] := hl
  exact bk_0_leastNotReachedFrom_0 cx B.returns B.notSynchronized h hw (hm_L0 _ _) hl
/-! ===== HeapGames$GrundyValues.startOfPeriod(I)I ===== -/
theorem d_0_startOfPeriod_0 : decode prog_2_method_10_code 0 = .ok (.bipush 60, 2) := by decide +kernel
theorem d_0_startOfPeriod_2 : decode prog_2_method_10_code 2 = .ok (.iload_n 1, 1) := by decide +kernel
theorem d_0_startOfPeriod_3 : decode prog_2_method_10_code 3 = .ok (.isub, 1) := by decide +kernel
theorem d_0_startOfPeriod_4 : decode prog_2_method_10_code 4 = .ok (.iconst 1, 1) := by decide +kernel
theorem d_0_startOfPeriod_5 : decode prog_2_method_10_code 5 = .ok (.iadd, 1) := by decide +kernel
theorem d_0_startOfPeriod_6 : decode prog_2_method_10_code 6 = .ok (.istore_n 2, 1) := by decide +kernel
theorem d_0_startOfPeriod_7 : decode prog_2_method_10_code 7 = .ok (.iload_n 2, 1) := by decide +kernel
theorem d_0_startOfPeriod_8 : decode prog_2_method_10_code 8 = .ok (.ifCond .le 34, 3) := by decide +kernel
theorem d_0_startOfPeriod_11 : decode prog_2_method_10_code 11 = .ok (.aload_n 0, 1) := by decide +kernel
theorem d_0_startOfPeriod_12 : decode prog_2_method_10_code 12 = .ok (.getfield 14, 3) := by decide +kernel
theorem d_0_startOfPeriod_15 : decode prog_2_method_10_code 15 = .ok (.iload_n 2, 1) := by decide +kernel
theorem d_0_startOfPeriod_16 : decode prog_2_method_10_code 16 = .ok (.iconst 1, 1) := by decide +kernel
theorem d_0_startOfPeriod_17 : decode prog_2_method_10_code 17 = .ok (.isub, 1) := by decide +kernel
theorem d_0_startOfPeriod_18 : decode prog_2_method_10_code 18 = .ok (.invokevirtual 34, 3) := by decide +kernel
theorem d_0_startOfPeriod_21 : decode prog_2_method_10_code 21 = .ok (.aload_n 0, 1) := by decide +kernel
theorem d_0_startOfPeriod_22 : decode prog_2_method_10_code 22 = .ok (.getfield 14, 3) := by decide +kernel
theorem d_0_startOfPeriod_25 : decode prog_2_method_10_code 25 = .ok (.iload_n 2, 1) := by decide +kernel
theorem d_0_startOfPeriod_26 : decode prog_2_method_10_code 26 = .ok (.iconst 1, 1) := by decide +kernel
theorem d_0_startOfPeriod_27 : decode prog_2_method_10_code 27 = .ok (.isub, 1) := by decide +kernel
theorem d_0_startOfPeriod_28 : decode prog_2_method_10_code 28 = .ok (.iload_n 1, 1) := by decide +kernel
theorem d_0_startOfPeriod_29 : decode prog_2_method_10_code 29 = .ok (.iadd, 1) := by decide +kernel
theorem d_0_startOfPeriod_30 : decode prog_2_method_10_code 30 = .ok (.invokevirtual 34, 3) := by decide +kernel
theorem d_0_startOfPeriod_33 : decode prog_2_method_10_code 33 = .ok (.if_icmp .ne 9, 3) := by decide +kernel
theorem d_0_startOfPeriod_36 : decode prog_2_method_10_code 36 = .ok (.iinc 2 (-1), 3) := by decide +kernel
theorem d_0_startOfPeriod_39 : decode prog_2_method_10_code 39 = .ok (.goto (-32), 3) := by decide +kernel
theorem d_0_startOfPeriod_42 : decode prog_2_method_10_code 42 = .ok (.iload_n 2, 1) := by decide +kernel
theorem d_0_startOfPeriod_43 : decode prog_2_method_10_code 43 = .ok (.ireturn, 1) := by decide +kernel
def wb_0_startOfPeriod_7 (Q : Int32 → hm_S → hm_T → Prop) (K7 : Int32 → Int32 → hm_S → hm_T → Prop) (x1 : Int32) (x2 : Int32) (S : hm_S) (T : hm_T) : Prop :=
  (if x2 ≤ 0 then Q x2 S T else wp_5_get 60 61 (x2 - 1) S T (fun r1 S1 T1 => wp_5_get 60 61 ((x2 - 1) + x1) S1 T1 (fun r2 S2 T2 => (if r1 = r2 then K7 x1 (x2 + (-1)) S2 T2 else Q x2 S2 T2))))
set_option maxHeartbeats 4000000 in
set_option maxRecDepth 20000 in
theorem bk_0_startOfPeriod_7 {Q : Int32 → hm_S → hm_T → Prop} {K7 : Int32 → Int32 → hm_S → hm_T → Prop} (cx : hm_cx G p s m args c prog_2_method_10_code 3 "HeapGames$GrundyValues") (hr : meth.sig.returnType = some .int) (hlk : meth.locks = false) (k7 : ∀ (x1 : Int32) (x2 : Int32) (S : hm_S) (T : hm_T) (H : Heap) (locs : List Loc) (ls : Array Slot), K7 x1 x2 S T → hm_w G H0 o 74 shX S T H → hm_L o 74 locs → lv_has ls 3 [(0, .ref (o + 59)), (1, .int x1), (2, .int x2)] → W p l e rm_0_startOfPeriod s m args below meth c H locs 0 0 (MQ below (hm_Qi G H0 o 74 shX Q) args s 0 0 (t_fr o (o + 74))) (F0 m 7 ls [])) {x1 : Int32} {x2 : Int32} {S : hm_S} {T : hm_T} {H : Heap} {locs : List Loc} {ls : Array Slot} (h : wb_0_startOfPeriod_7 Q K7 x1 x2 S T) (hw : hm_w G H0 o 74 shX S T H) (hL : hm_L o 74 locs) (hl : lv_has ls 3 [(0, .ref (o + 59)), (1, .int x1), (2, .int x2)]) : W p l e rm_0_startOfPeriod s m args below meth c H locs 0 0 (MQ below (hm_Qi G H0 o 74 shX Q) args s 0 0 (t_fr o (o + 74))) (F0 m 7 ls []) := by
  have hx := cx.1.1
  have hb := cx.1.2.1
  unfold wb_0_startOfPeriod_7 at h
  refine lv_iload_n hx hb d_0_startOfPeriod_7 rfl (lv_at hl 2 rfl) ?_
  refine lv_if_le (tgt := 42) hx hb d_0_startOfPeriod_8 (by decide) (fun hc => ?_) (fun hc => ?_)
  · replace h := hm_pos hc h
    refine lv_iload_n hx hb d_0_startOfPeriod_42 rfl (lv_at hl 2 rfl) ?_
    exact W.iret hx hb hr (fun t ht _ => ⟨_, _, _, rfl, h, by rw [ht]; exact hw⟩) hL d_0_startOfPeriod_43
  · replace h := hm_neg hc h
    refine lv_aload_n hx hb d_0_startOfPeriod_11 rfl (lv_at hl 0 rfl) ?_
    refine gf_0_14 cx hw (i := 59) (r := 60) (by decide) sx_59 rfl d_0_startOfPeriod_12 ?_
    refine lv_iload_n hx hb d_0_startOfPeriod_15 rfl (lv_at hl 2 rfl) ?_
    refine lv_iconst (v := 1) hx hb d_0_startOfPeriod_16 (by decide) ?_
    refine lv_isub hx hb d_0_startOfPeriod_17 ?_
    refine hm_calli (hm_rV (i := 60) (As := [.int (x2 - 1)]) (rest := []) cx hw (ct_5_get (by decide) sx_60 sx_61 h) (mw_0_34 cx.1.2.2.2.2 ⟨Nat.le_of_ble_eq_true rfl, Nat.le_of_ble_eq_true rfl⟩) (by decide) sx_60 rfl rfl hl.1 rfl (Nat.le_of_ble_eq_true rfl) d_0_startOfPeriod_18 ⟨Nat.zero_le _, Nat.zero_le _⟩) hL (fun r1 S1 T1 H locs h hw hL => ?_)
    refine lv_aload_n hx hb d_0_startOfPeriod_21 rfl (lv_at hl 0 rfl) ?_
    refine gf_0_14 cx hw (i := 59) (r := 60) (by decide) sx_59 rfl d_0_startOfPeriod_22 ?_
    refine lv_iload_n hx hb d_0_startOfPeriod_25 rfl (lv_at hl 2 rfl) ?_
    refine lv_iconst (v := 1) hx hb d_0_startOfPeriod_26 (by decide) ?_
    refine lv_isub hx hb d_0_startOfPeriod_27 ?_
    refine lv_iload_n hx hb d_0_startOfPeriod_28 rfl (lv_at hl 1 rfl) ?_
    refine lv_iadd hx hb d_0_startOfPeriod_29 ?_
    refine hm_calli (hm_rV (i := 60) (As := [.int ((x2 - 1) + x1)]) (rest := [.int r1]) cx hw (ct_5_get (by decide) sx_60 sx_61 h) (mw_0_34 cx.1.2.2.2.2 ⟨Nat.le_of_ble_eq_true rfl, Nat.le_of_ble_eq_true rfl⟩) (by decide) sx_60 rfl rfl hl.1 rfl (Nat.le_of_ble_eq_true rfl) d_0_startOfPeriod_30 ⟨Nat.zero_le _, Nat.zero_le _⟩) hL (fun r2 S2 T2 H locs h hw hL => ?_)
    refine lv_icmp_ne (tgt := 42) hx hb d_0_startOfPeriod_33 (by decide) (fun hc => ?_) (fun hc => ?_)
    · replace h := hm_neg hc h
      refine lv_iload_n hx hb d_0_startOfPeriod_42 rfl (lv_at hl 2 rfl) ?_
      exact W.iret hx hb hr (fun t ht _ => ⟨_, _, _, rfl, h, by rw [ht]; exact hw⟩) hL d_0_startOfPeriod_43
    · replace h := hm_pos hc h
      refine lv_iinc (v := (x2 + (-1))) (lv' := [(2, .int (x2 + (-1))), (0, .ref (o + 59)), (1, .int x1)]) hx hb d_0_startOfPeriod_36 hl (k := 2) rfl rfl (by decide) rfl (fun ls hl => ?_)
      refine lv_goto (tgt := 7) hx hb d_0_startOfPeriod_39 (by decide) ?_
      exact k7 _ _ _ _ _ _ _ h hw hL (lv_sub hl [1, 2, 0] rfl)
def wl_0_startOfPeriod_7 (Q : Int32 → hm_S → hm_T → Prop) : Nat → Int32 → Int32 → hm_S → hm_T → Prop
  | 0, _, _, _, _ => False
  | f + 1, x1, x2, S, T => wb_0_startOfPeriod_7 Q (wl_0_startOfPeriod_7 Q f) x1 x2 S T
theorem lp_0_startOfPeriod_7 {Q : Int32 → hm_S → hm_T → Prop} (cx : hm_cx G p s m args c prog_2_method_10_code 3 "HeapGames$GrundyValues") (hr : meth.sig.returnType = some .int) (hlk : meth.locks = false) : ∀ (f : Nat) (x1 : Int32) (x2 : Int32) (S : hm_S) (T : hm_T) (H : Heap) (locs : List Loc) (ls : Array Slot), wl_0_startOfPeriod_7 Q f x1 x2 S T → hm_w G H0 o 74 shX S T H → hm_L o 74 locs → lv_has ls 3 [(0, .ref (o + 59)), (1, .int x1), (2, .int x2)] → W p l e rm_0_startOfPeriod s m args below meth c H locs 0 0 (MQ below (hm_Qi G H0 o 74 shX Q) args s 0 0 (t_fr o (o + 74))) (F0 m 7 ls []) := by
  intro f
  induction f with
  | zero => intro x1 x2 S T H locs ls h; exact h.elim
  | succ f ih => intro x1 x2 S T H locs ls h hw hL hl; exact bk_0_startOfPeriod_7 cx hr hlk ih h hw hL hl
def wp_0_startOfPeriod (x1 : Int32) (S : hm_S) (T : hm_T) (Q : Int32 → hm_S → hm_T → Prop) : Prop :=
  ∃ f, wl_0_startOfPeriod_7 Q f x1 ((60 - x1) + 1) S T
set_option maxHeartbeats 4000000 in
set_option maxRecDepth 20000 in
theorem bk_0_startOfPeriod_0 {Q : Int32 → hm_S → hm_T → Prop} (cx : hm_cx G p s m args c prog_2_method_10_code 3 "HeapGames$GrundyValues") (hr : meth.sig.returnType = some .int) (hlk : meth.locks = false) {x1 : Int32} {S : hm_S} {T : hm_T} {H : Heap} {locs : List Loc} {ls : Array Slot} (h : wp_0_startOfPeriod x1 S T Q) (hw : hm_w G H0 o 74 shX S T H) (hL : hm_L o 74 locs) (hl : lv_has ls 3 [(0, .ref (o + 59)), (1, .int x1)]) : W p l e rm_0_startOfPeriod s m args below meth c H locs 0 0 (MQ below (hm_Qi G H0 o 74 shX Q) args s 0 0 (t_fr o (o + 74))) (F0 m 0 ls []) := by
  have hx := cx.1.1
  have hb := cx.1.2.1
  unfold wp_0_startOfPeriod at h
  refine lv_bipush (v := 60) hx hb d_0_startOfPeriod_0 (by decide) ?_
  refine lv_iload_n hx hb d_0_startOfPeriod_2 rfl (lv_at hl 1 rfl) ?_
  refine lv_isub hx hb d_0_startOfPeriod_3 ?_
  refine lv_iconst (v := 1) hx hb d_0_startOfPeriod_4 (by decide) ?_
  refine lv_iadd hx hb d_0_startOfPeriod_5 ?_
  refine lv_istore_n (lv' := [(2, .int ((60 - x1) + 1)), (0, .ref (o + 59)), (1, .int x1)]) hx hb d_0_startOfPeriod_6 rfl hl (by decide) rfl (fun ls hl => ?_)
  obtain ⟨f, h⟩ := h
  exact lp_0_startOfPeriod_7 cx hr hlk f _ _ _ _ _ _ _ h hw hL (lv_sub hl [1, 2, 0] rfl)
set_option maxHeartbeats 4000000 in
set_option maxRecDepth 20000 in
theorem ct_0_startOfPeriod {x1 : Int32} {S : hm_S} {T : hm_T} {Q : Int32 → hm_S → hm_T → Prop} (h : wp_0_startOfPeriod x1 S T Q) : hm_M l G H0 o 74 shX y_0_startOfPeriod prog_2_method_10_code 3 (some .int) rm_0_startOfPeriod S T [.ref (o + 59), .int x1] (hm_Qi G H0 o 74 shX Q) := by
  refine Met.ofW (cc := prog_2_method_10_code) (maxL := 3) (ret := some .int) (by decide) rfl ?_
  intro p e s m args below meth c s₁ B hml hv
  obtain ⟨rfl, hK, hw⟩ := hv
  have cx : hm_cx G p s m _ c prog_2_method_10_code 3 "HeapGames$GrundyValues" := ⟨⟨B.exec, B.bytes, hml, findClass_of_methodNamed B.named, fun w hq => atoms_spec (ws := hm_ws y_0_startOfPeriod prog_2_method_10_code 3 (some .int)) B.pre w (List.mem_cons_of_mem _ hq)⟩, hK⟩
  have hl := lv_entry ([.ref (o + 59), .int x1]) (n := 3) (Nat.le_of_ble_eq_true rfl)
  rw [lg_entry_eq]
  generalize (lg_sl ([.ref (o + 59), .int x1]) ++ List.replicate (3 - (lg_sl ([.ref (o + 59), .int x1])).length) Slot.unset).toArray = ls at hl ⊢
  have hl : lv_has ls 3 [(0, .ref (o + 59)), (1, .int x1)] := hl
  exact bk_0_startOfPeriod_0 cx B.returns B.notSynchronized h hw (hm_L0 _ _) hl
/-! ===== HeapGames$GrundyValues.findPeriod()V ===== -/
theorem d_0_findPeriod_0 : decode prog_2_method_9_code 0 = .ok (.aload_n 0, 1) := by decide +kernel
theorem d_0_findPeriod_1 : decode prog_2_method_9_code 1 = .ok (.iconst (-1), 1) := by decide +kernel
theorem d_0_findPeriod_2 : decode prog_2_method_9_code 2 = .ok (.putfield 38, 3) := by decide +kernel
theorem d_0_findPeriod_5 : decode prog_2_method_9_code 5 = .ok (.aload_n 0, 1) := by decide +kernel
theorem d_0_findPeriod_6 : decode prog_2_method_9_code 6 = .ok (.iconst (-1), 1) := by decide +kernel
theorem d_0_findPeriod_7 : decode prog_2_method_9_code 7 = .ok (.putfield 42, 3) := by decide +kernel
theorem d_0_findPeriod_10 : decode prog_2_method_9_code 10 = .ok (.iconst 1, 1) := by decide +kernel
theorem d_0_findPeriod_11 : decode prog_2_method_9_code 11 = .ok (.istore_n 1, 1) := by decide +kernel
theorem d_0_findPeriod_12 : decode prog_2_method_9_code 12 = .ok (.iload_n 1, 1) := by decide +kernel
theorem d_0_findPeriod_13 : decode prog_2_method_9_code 13 = .ok (.bipush 20, 2) := by decide +kernel
theorem d_0_findPeriod_15 : decode prog_2_method_9_code 15 = .ok (.if_icmp .gt 32, 3) := by decide +kernel
theorem d_0_findPeriod_18 : decode prog_2_method_9_code 18 = .ok (.aload_n 0, 1) := by decide +kernel
theorem d_0_findPeriod_19 : decode prog_2_method_9_code 19 = .ok (.iload_n 1, 1) := by decide +kernel
theorem d_0_findPeriod_20 : decode prog_2_method_9_code 20 = .ok (.invokevirtual 67, 3) := by decide +kernel
theorem d_0_findPeriod_23 : decode prog_2_method_9_code 23 = .ok (.istore_n 2, 1) := by decide +kernel
theorem d_0_findPeriod_24 : decode prog_2_method_9_code 24 = .ok (.iload_n 2, 1) := by decide +kernel
theorem d_0_findPeriod_25 : decode prog_2_method_9_code 25 = .ok (.bipush 20, 2) := by decide +kernel
theorem d_0_findPeriod_27 : decode prog_2_method_9_code 27 = .ok (.if_icmp .gt 14, 3) := by decide +kernel
theorem d_0_findPeriod_30 : decode prog_2_method_9_code 30 = .ok (.aload_n 0, 1) := by decide +kernel
theorem d_0_findPeriod_31 : decode prog_2_method_9_code 31 = .ok (.iload_n 1, 1) := by decide +kernel
theorem d_0_findPeriod_32 : decode prog_2_method_9_code 32 = .ok (.putfield 38, 3) := by decide +kernel
theorem d_0_findPeriod_35 : decode prog_2_method_9_code 35 = .ok (.aload_n 0, 1) := by decide +kernel
theorem d_0_findPeriod_36 : decode prog_2_method_9_code 36 = .ok (.iload_n 2, 1) := by decide +kernel
theorem d_0_findPeriod_37 : decode prog_2_method_9_code 37 = .ok (.putfield 42, 3) := by decide +kernel
theorem d_0_findPeriod_40 : decode prog_2_method_9_code 40 = .ok (.return_, 1) := by decide +kernel
theorem d_0_findPeriod_41 : decode prog_2_method_9_code 41 = .ok (.iinc 1 1, 3) := by decide +kernel
theorem d_0_findPeriod_44 : decode prog_2_method_9_code 44 = .ok (.goto (-32), 3) := by decide +kernel
theorem d_0_findPeriod_47 : decode prog_2_method_9_code 47 = .ok (.return_, 1) := by decide +kernel
def wb_0_findPeriod_30 (Q : hm_S → hm_T → Prop) (x1 : Int32) (x2 : Int32) (S : hm_S) (T : hm_T) : Prop :=
  Q (hm_up (hm_up S 59 4 x1) 59 5 x2) T
set_option maxHeartbeats 4000000 in
set_option maxRecDepth 20000 in
theorem bk_0_findPeriod_30 {Q : hm_S → hm_T → Prop} (cx : hm_cx G p s m args c prog_2_method_9_code 3 "HeapGames$GrundyValues") (hr : meth.sig.returnType = none) (hlk : meth.locks = false) {x1 : Int32} {x2 : Int32} {S : hm_S} {T : hm_T} {H : Heap} {locs : List Loc} {ls : Array Slot} (h : wb_0_findPeriod_30 Q x1 x2 S T) (hw : hm_w G H0 o 74 shX S T H) (hL : hm_L o 74 locs) (hl : lv_has ls 3 [(0, .ref (o + 59)), (1, .int x1), (2, .int x2)]) : W p l e rm_0_findPeriod s m args below meth c H locs 0 0 (MQ below (hm_Qv G H0 o 74 shX Q) args s 0 0 (t_fr o (o + 74))) (F0 m 30 ls []) := by
  have hx := cx.1.1
  have hb := cx.1.2.1
  unfold wb_0_findPeriod_30 at h
  refine lv_aload_n hx hb d_0_findPeriod_30 rfl (lv_at hl 0 rfl) ?_
  refine lv_iload_n hx hb d_0_findPeriod_31 rfl (lv_at hl 1 rfl) ?_
  refine pf_0_38 cx hw (i := 59) (by decide) sx_59 rfl hL d_0_findPeriod_32 (fun H locs hw hL => ?_)
  refine lv_aload_n hx hb d_0_findPeriod_35 rfl (lv_at hl 0 rfl) ?_
  refine lv_iload_n hx hb d_0_findPeriod_36 rfl (lv_at hl 2 rfl) ?_
  refine pf_0_42 cx hw (i := 59) (by decide) sx_59 rfl hL d_0_findPeriod_37 (fun H locs hw hL => ?_)
  exact W.vret hx hb hr (fun t ht _ => ⟨_, _, rfl, h, by rw [ht]; exact hw⟩) hL d_0_findPeriod_40
def wb_0_findPeriod_12 (Q : hm_S → hm_T → Prop) (K12 : Int32 → hm_S → hm_T → Prop) (x1 : Int32) (S : hm_S) (T : hm_T) : Prop :=
  (if 20 < x1 then Q S T else wp_0_startOfPeriod x1 S T (fun r1 S1 T1 => (if 20 < r1 then K12 (x1 + 1) S1 T1 else wb_0_findPeriod_30 Q x1 r1 S1 T1)))
set_option maxHeartbeats 4000000 in
set_option maxRecDepth 20000 in
theorem bk_0_findPeriod_12 {Q : hm_S → hm_T → Prop} {K12 : Int32 → hm_S → hm_T → Prop} (cx : hm_cx G p s m args c prog_2_method_9_code 3 "HeapGames$GrundyValues") (hr : meth.sig.returnType = none) (hlk : meth.locks = false) (k12 : ∀ (x1 : Int32) (S : hm_S) (T : hm_T) (H : Heap) (locs : List Loc) (ls : Array Slot), K12 x1 S T → hm_w G H0 o 74 shX S T H → hm_L o 74 locs → lv_has ls 3 [(0, .ref (o + 59)), (1, .int x1)] → W p l e rm_0_findPeriod s m args below meth c H locs 0 0 (MQ below (hm_Qv G H0 o 74 shX Q) args s 0 0 (t_fr o (o + 74))) (F0 m 12 ls [])) {x1 : Int32} {S : hm_S} {T : hm_T} {H : Heap} {locs : List Loc} {ls : Array Slot} (h : wb_0_findPeriod_12 Q K12 x1 S T) (hw : hm_w G H0 o 74 shX S T H) (hL : hm_L o 74 locs) (hl : lv_has ls 3 [(0, .ref (o + 59)), (1, .int x1)]) : W p l e rm_0_findPeriod s m args below meth c H locs 0 0 (MQ below (hm_Qv G H0 o 74 shX Q) args s 0 0 (t_fr o (o + 74))) (F0 m 12 ls []) := by
  have hx := cx.1.1
  have hb := cx.1.2.1
  unfold wb_0_findPeriod_12 at h
  refine lv_iload_n hx hb d_0_findPeriod_12 rfl (lv_at hl 1 rfl) ?_
  refine lv_bipush (v := 20) hx hb d_0_findPeriod_13 (by decide) ?_
  refine lv_icmp_gt (tgt := 47) hx hb d_0_findPeriod_15 (by decide) (fun hc => ?_) (fun hc => ?_)
  · replace h := hm_pos hc h
    exact W.vret hx hb hr (fun t ht _ => ⟨_, _, rfl, h, by rw [ht]; exact hw⟩) hL d_0_findPeriod_47
  · replace h := hm_neg hc h
    refine lv_aload_n hx hb d_0_findPeriod_18 rfl (lv_at hl 0 rfl) ?_
    refine lv_iload_n hx hb d_0_findPeriod_19 rfl (lv_at hl 1 rfl) ?_
    refine hm_calli (hm_rV (i := 59) (As := [.int x1]) (rest := []) cx hw (ct_0_startOfPeriod h) (mw_0_67 cx.1.2.2.2.2 ⟨Nat.le_of_ble_eq_true rfl, Nat.le_of_ble_eq_true rfl⟩) (by decide) sx_59 rfl rfl hl.1 rfl (Nat.le_of_ble_eq_true rfl) d_0_findPeriod_20 ⟨Nat.zero_le _, Nat.zero_le _⟩) hL (fun r1 S1 T1 H locs h hw hL => ?_)
    refine lv_istore_n (lv' := [(2, .int r1), (0, .ref (o + 59)), (1, .int x1)]) hx hb d_0_findPeriod_23 rfl hl (by decide) rfl (fun ls hl => ?_)
    refine lv_iload_n hx hb d_0_findPeriod_24 rfl (lv_at hl 0 rfl) ?_
    refine lv_bipush (v := 20) hx hb d_0_findPeriod_25 (by decide) ?_
    refine lv_icmp_gt (tgt := 41) hx hb d_0_findPeriod_27 (by decide) (fun hc => ?_) (fun hc => ?_)
    · replace h := hm_pos hc h
      refine lv_iinc (v := (x1 + 1)) (lv' := [(1, .int (x1 + 1)), (2, .int r1), (0, .ref (o + 59))]) hx hb d_0_findPeriod_41 hl (k := 2) rfl rfl (by decide) rfl (fun ls hl => ?_)
      refine lv_goto (tgt := 12) hx hb d_0_findPeriod_44 (by decide) ?_
      exact k12 _ _ _ _ _ _ h hw hL (lv_sub hl [2, 0] rfl)
    · replace h := hm_neg hc h
      exact bk_0_findPeriod_30 cx hr hlk h hw hL (lv_sub hl [1, 2, 0] rfl)
def wl_0_findPeriod_12 (Q : hm_S → hm_T → Prop) : Nat → Int32 → hm_S → hm_T → Prop
  | 0, _, _, _ => False
  | f + 1, x1, S, T => wb_0_findPeriod_12 Q (wl_0_findPeriod_12 Q f) x1 S T
theorem lp_0_findPeriod_12 {Q : hm_S → hm_T → Prop} (cx : hm_cx G p s m args c prog_2_method_9_code 3 "HeapGames$GrundyValues") (hr : meth.sig.returnType = none) (hlk : meth.locks = false) : ∀ (f : Nat) (x1 : Int32) (S : hm_S) (T : hm_T) (H : Heap) (locs : List Loc) (ls : Array Slot), wl_0_findPeriod_12 Q f x1 S T → hm_w G H0 o 74 shX S T H → hm_L o 74 locs → lv_has ls 3 [(0, .ref (o + 59)), (1, .int x1)] → W p l e rm_0_findPeriod s m args below meth c H locs 0 0 (MQ below (hm_Qv G H0 o 74 shX Q) args s 0 0 (t_fr o (o + 74))) (F0 m 12 ls []) := by
  intro f
  induction f with
  | zero => intro x1 S T H locs ls h; exact h.elim
  | succ f ih => intro x1 S T H locs ls h hw hL hl; exact bk_0_findPeriod_12 cx hr hlk ih h hw hL hl
def wp_0_findPeriod (S : hm_S) (T : hm_T) (Q : hm_S → hm_T → Prop) : Prop :=
  ∃ f, wl_0_findPeriod_12 Q f 1 (hm_up (hm_up S 59 4 (-1)) 59 5 (-1)) T
set_option maxHeartbeats 4000000 in
set_option maxRecDepth 20000 in
theorem bk_0_findPeriod_0 {Q : hm_S → hm_T → Prop} (cx : hm_cx G p s m args c prog_2_method_9_code 3 "HeapGames$GrundyValues") (hr : meth.sig.returnType = none) (hlk : meth.locks = false) {S : hm_S} {T : hm_T} {H : Heap} {locs : List Loc} {ls : Array Slot} (h : wp_0_findPeriod S T Q) (hw : hm_w G H0 o 74 shX S T H) (hL : hm_L o 74 locs) (hl : lv_has ls 3 [(0, .ref (o + 59))]) : W p l e rm_0_findPeriod s m args below meth c H locs 0 0 (MQ below (hm_Qv G H0 o 74 shX Q) args s 0 0 (t_fr o (o + 74))) (F0 m 0 ls []) := by
  have hx := cx.1.1
  have hb := cx.1.2.1
  unfold wp_0_findPeriod at h
  refine lv_aload_n hx hb d_0_findPeriod_0 rfl (lv_at hl 0 rfl) ?_
  refine lv_iconst (v := (-1)) hx hb d_0_findPeriod_1 (by decide) ?_
  refine pf_0_38 cx hw (i := 59) (by decide) sx_59 rfl hL d_0_findPeriod_2 (fun H locs hw hL => ?_)
  refine lv_aload_n hx hb d_0_findPeriod_5 rfl (lv_at hl 0 rfl) ?_
  refine lv_iconst (v := (-1)) hx hb d_0_findPeriod_6 (by decide) ?_
  refine pf_0_42 cx hw (i := 59) (by decide) sx_59 rfl hL d_0_findPeriod_7 (fun H locs hw hL => ?_)
  refine lv_iconst (v := 1) hx hb d_0_findPeriod_10 (by decide) ?_
  refine lv_istore_n (lv' := [(1, .int 1), (0, .ref (o + 59))]) hx hb d_0_findPeriod_11 rfl hl (by decide) rfl (fun ls hl => ?_)
  obtain ⟨f, h⟩ := h
  exact lp_0_findPeriod_12 cx hr hlk f _ _ _ _ _ _ h hw hL (lv_sub hl [1, 0] rfl)
set_option maxHeartbeats 4000000 in
set_option maxRecDepth 20000 in
theorem ct_0_findPeriod {S : hm_S} {T : hm_T} {Q : hm_S → hm_T → Prop} (h : wp_0_findPeriod S T Q) : hm_M l G H0 o 74 shX y_0_findPeriod prog_2_method_9_code 3 (none) rm_0_findPeriod S T [.ref (o + 59)] (hm_Qv G H0 o 74 shX Q) := by
  refine Met.ofW (cc := prog_2_method_9_code) (maxL := 3) (ret := none) (by decide) rfl ?_
  intro p e s m args below meth c s₁ B hml hv
  obtain ⟨rfl, hK, hw⟩ := hv
  have cx : hm_cx G p s m _ c prog_2_method_9_code 3 "HeapGames$GrundyValues" := ⟨⟨B.exec, B.bytes, hml, findClass_of_methodNamed B.named, fun w hq => atoms_spec (ws := hm_ws y_0_findPeriod prog_2_method_9_code 3 (none)) B.pre w (List.mem_cons_of_mem _ hq)⟩, hK⟩
  have hl := lv_entry ([.ref (o + 59)]) (n := 3) (Nat.le_of_ble_eq_true rfl)
  rw [lg_entry_eq]
  generalize (lg_sl ([.ref (o + 59)]) ++ List.replicate (3 - (lg_sl ([.ref (o + 59)])).length) Slot.unset).toArray = ls at hl ⊢
  have hl : lv_has ls 3 [(0, .ref (o + 59))] := hl
  exact bk_0_findPeriod_0 cx B.returns B.notSynchronized h hw (hm_L0 _ _) hl
/-! ===== HeapGames$GrundyValues.find()V ===== -/
theorem d_0_find_0 : decode prog_2_method_6_code 0 = .ok (.aload_n 0, 1) := by decide +kernel
theorem d_0_find_1 : decode prog_2_method_6_code 1 = .ok (.getfield 27, 3) := by decide +kernel
theorem d_0_find_4 : decode prog_2_method_6_code 4 = .ok (.ifCond .eq 4, 3) := by decide +kernel
theorem d_0_find_7 : decode prog_2_method_6_code 7 = .ok (.return_, 1) := by decide +kernel
theorem d_0_find_8 : decode prog_2_method_6_code 8 = .ok (.aload_n 0, 1) := by decide +kernel
theorem d_0_find_9 : decode prog_2_method_6_code 9 = .ok (.getfield 20, 3) := by decide +kernel
theorem d_0_find_12 : decode prog_2_method_6_code 12 = .ok (.invokevirtual 45, 3) := by decide +kernel
theorem d_0_find_15 : decode prog_2_method_6_code 15 = .ok (.iconst 1, 1) := by decide +kernel
theorem d_0_find_16 : decode prog_2_method_6_code 16 = .ok (.istore_n 1, 1) := by decide +kernel
theorem d_0_find_17 : decode prog_2_method_6_code 17 = .ok (.iload_n 1, 1) := by decide +kernel
theorem d_0_find_18 : decode prog_2_method_6_code 18 = .ok (.bipush 60, 2) := by decide +kernel
theorem d_0_find_20 : decode prog_2_method_6_code 20 = .ok (.if_icmp .gt 27, 3) := by decide +kernel
theorem d_0_find_23 : decode prog_2_method_6_code 23 = .ok (.aload_n 0, 1) := by decide +kernel
theorem d_0_find_24 : decode prog_2_method_6_code 24 = .ok (.iload_n 1, 1) := by decide +kernel
theorem d_0_find_25 : decode prog_2_method_6_code 25 = .ok (.invokevirtual 48, 3) := by decide +kernel
theorem d_0_find_28 : decode prog_2_method_6_code 28 = .ok (.aload_n 0, 1) := by decide +kernel
theorem d_0_find_29 : decode prog_2_method_6_code 29 = .ok (.getfield 14, 3) := by decide +kernel
theorem d_0_find_32 : decode prog_2_method_6_code 32 = .ok (.iload_n 1, 1) := by decide +kernel
theorem d_0_find_33 : decode prog_2_method_6_code 33 = .ok (.aload_n 0, 1) := by decide +kernel
theorem d_0_find_34 : decode prog_2_method_6_code 34 = .ok (.iload_n 1, 1) := by decide +kernel
theorem d_0_find_35 : decode prog_2_method_6_code 35 = .ok (.invokevirtual 51, 3) := by decide +kernel
theorem d_0_find_38 : decode prog_2_method_6_code 38 = .ok (.invokevirtual 54, 3) := by decide +kernel
theorem d_0_find_41 : decode prog_2_method_6_code 41 = .ok (.iinc 1 1, 3) := by decide +kernel
theorem d_0_find_44 : decode prog_2_method_6_code 44 = .ok (.goto (-27), 3) := by decide +kernel
theorem d_0_find_47 : decode prog_2_method_6_code 47 = .ok (.aload_n 0, 1) := by decide +kernel
theorem d_0_find_48 : decode prog_2_method_6_code 48 = .ok (.invokevirtual 58, 3) := by decide +kernel
theorem d_0_find_51 : decode prog_2_method_6_code 51 = .ok (.aload_n 0, 1) := by decide +kernel
theorem d_0_find_52 : decode prog_2_method_6_code 52 = .ok (.iconst 1, 1) := by decide +kernel
theorem d_0_find_53 : decode prog_2_method_6_code 53 = .ok (.putfield 27, 3) := by decide +kernel
theorem d_0_find_56 : decode prog_2_method_6_code 56 = .ok (.return_, 1) := by decide +kernel
def wb_0_find_47 (Q : hm_S → hm_T → Prop) (S : hm_S) (T : hm_T) : Prop :=
  wp_0_findPeriod S T (fun S2 T2 => Q (hm_up S2 59 3 1) T2)
set_option maxHeartbeats 4000000 in
set_option maxRecDepth 20000 in
theorem bk_0_find_47 {Q : hm_S → hm_T → Prop} (cx : hm_cx G p s m args c prog_2_method_6_code 2 "HeapGames$GrundyValues") (hr : meth.sig.returnType = none) (hlk : meth.locks = false) {S : hm_S} {T : hm_T} {H : Heap} {locs : List Loc} {ls : Array Slot} (h : wb_0_find_47 Q S T) (hw : hm_w G H0 o 74 shX S T H) (hL : hm_L o 74 locs) (hl : lv_has ls 2 [(0, .ref (o + 59))]) : W p l e rm_0_find s m args below meth c H locs 0 0 (MQ below (hm_Qv G H0 o 74 shX Q) args s 0 0 (t_fr o (o + 74))) (F0 m 47 ls []) := by
  have hx := cx.1.1
  have hb := cx.1.2.1
  unfold wb_0_find_47 at h
  refine lv_aload_n hx hb d_0_find_47 rfl (lv_at hl 0 rfl) ?_
  refine hm_callv (hm_rV (i := 59) (As := []) (rest := []) cx hw (ct_0_findPeriod h) (mw_0_58 cx.1.2.2.2.2 ⟨Nat.le_of_ble_eq_true rfl, Nat.le_of_ble_eq_true rfl⟩) (by decide) sx_59 rfl rfl hl.1 rfl (Nat.le_of_ble_eq_true rfl) d_0_find_48 ⟨Nat.zero_le _, Nat.zero_le _⟩) hL (fun S2 T2 H locs h hw hL => ?_)
  refine lv_aload_n hx hb d_0_find_51 rfl (lv_at hl 0 rfl) ?_
  refine lv_iconst (v := 1) hx hb d_0_find_52 (by decide) ?_
  refine pf_0_27 cx hw (i := 59) (by decide) sx_59 rfl hm_b1 hL d_0_find_53 (fun H locs hw hL => ?_)
  exact W.vret hx hb hr (fun t ht _ => ⟨_, _, rfl, h, by rw [ht]; exact hw⟩) hL d_0_find_56
def wb_0_find_17 (Q : hm_S → hm_T → Prop) (K17 : Int32 → hm_S → hm_T → Prop) (x1 : Int32) (S : hm_S) (T : hm_T) : Prop :=
  (if 60 < x1 then wb_0_find_47 Q S T else wp_0_reachAllFrom x1 S T (fun S3 T3 => wp_0_leastNotReachedFrom x1 S3 T3 (fun r4 S4 T4 => wp_5_set 60 61 x1 r4 S4 T4 (fun S5 T5 => K17 (x1 + 1) S5 T5))))
set_option maxHeartbeats 4000000 in
set_option maxRecDepth 20000 in
theorem bk_0_find_17 {Q : hm_S → hm_T → Prop} {K17 : Int32 → hm_S → hm_T → Prop} (cx : hm_cx G p s m args c prog_2_method_6_code 2 "HeapGames$GrundyValues") (hr : meth.sig.returnType = none) (hlk : meth.locks = false) (k17 : ∀ (x1 : Int32) (S : hm_S) (T : hm_T) (H : Heap) (locs : List Loc) (ls : Array Slot), K17 x1 S T → hm_w G H0 o 74 shX S T H → hm_L o 74 locs → lv_has ls 2 [(0, .ref (o + 59)), (1, .int x1)] → W p l e rm_0_find s m args below meth c H locs 0 0 (MQ below (hm_Qv G H0 o 74 shX Q) args s 0 0 (t_fr o (o + 74))) (F0 m 17 ls [])) {x1 : Int32} {S : hm_S} {T : hm_T} {H : Heap} {locs : List Loc} {ls : Array Slot} (h : wb_0_find_17 Q K17 x1 S T) (hw : hm_w G H0 o 74 shX S T H) (hL : hm_L o 74 locs) (hl : lv_has ls 2 [(0, .ref (o + 59)), (1, .int x1)]) : W p l e rm_0_find s m args below meth c H locs 0 0 (MQ below (hm_Qv G H0 o 74 shX Q) args s 0 0 (t_fr o (o + 74))) (F0 m 17 ls []) := by
  have hx := cx.1.1
  have hb := cx.1.2.1
  unfold wb_0_find_17 at h
  refine lv_iload_n hx hb d_0_find_17 rfl (lv_at hl 1 rfl) ?_
  refine lv_bipush (v := 60) hx hb d_0_find_18 (by decide) ?_
  refine lv_icmp_gt (tgt := 47) hx hb d_0_find_20 (by decide) (fun hc => ?_) (fun hc => ?_)
  · replace h := hm_pos hc h
    exact bk_0_find_47 cx hr hlk h hw hL (lv_sub hl [0] rfl)
  · replace h := hm_neg hc h
    refine lv_aload_n hx hb d_0_find_23 rfl (lv_at hl 0 rfl) ?_
    refine lv_iload_n hx hb d_0_find_24 rfl (lv_at hl 1 rfl) ?_
    refine hm_callv (hm_rV (i := 59) (As := [.int x1]) (rest := []) cx hw (ct_0_reachAllFrom h) (mw_0_48 cx.1.2.2.2.2 ⟨Nat.le_of_ble_eq_true rfl, Nat.le_of_ble_eq_true rfl⟩) (by decide) sx_59 rfl rfl hl.1 rfl (Nat.le_of_ble_eq_true rfl) d_0_find_25 ⟨Nat.zero_le _, Nat.zero_le _⟩) hL (fun S3 T3 H locs h hw hL => ?_)
    refine lv_aload_n hx hb d_0_find_28 rfl (lv_at hl 0 rfl) ?_
    refine gf_0_14 cx hw (i := 59) (r := 60) (by decide) sx_59 rfl d_0_find_29 ?_
    refine lv_iload_n hx hb d_0_find_32 rfl (lv_at hl 1 rfl) ?_
    refine lv_aload_n hx hb d_0_find_33 rfl (lv_at hl 0 rfl) ?_
    refine lv_iload_n hx hb d_0_find_34 rfl (lv_at hl 1 rfl) ?_
    refine hm_calli (hm_rV (i := 59) (As := [.int x1]) (rest := [.int x1, .ref (o + 60)]) cx hw (ct_0_leastNotReachedFrom h) (mw_0_51 cx.1.2.2.2.2 ⟨Nat.le_of_ble_eq_true rfl, Nat.le_of_ble_eq_true rfl⟩) (by decide) sx_59 rfl rfl hl.1 rfl (Nat.le_of_ble_eq_true rfl) d_0_find_35 ⟨Nat.zero_le _, Nat.zero_le _⟩) hL (fun r4 S4 T4 H locs h hw hL => ?_)
    refine hm_callv (hm_rV (i := 60) (As := [.int x1, .int r4]) (rest := []) cx hw (ct_5_set (by decide) sx_60 sx_61 h) (mw_0_54 cx.1.2.2.2.2 ⟨Nat.le_of_ble_eq_true rfl, Nat.le_of_ble_eq_true rfl⟩) (by decide) sx_60 rfl rfl hl.1 rfl (Nat.le_of_ble_eq_true rfl) d_0_find_38 ⟨Nat.zero_le _, Nat.zero_le _⟩) hL (fun S5 T5 H locs h hw hL => ?_)
    refine lv_iinc (v := (x1 + 1)) (lv' := [(1, .int (x1 + 1)), (0, .ref (o + 59))]) hx hb d_0_find_41 hl (k := 1) rfl rfl (by decide) rfl (fun ls hl => ?_)
    refine lv_goto (tgt := 17) hx hb d_0_find_44 (by decide) ?_
    exact k17 _ _ _ _ _ _ h hw hL (lv_sub hl [1, 0] rfl)
def wl_0_find_17 (Q : hm_S → hm_T → Prop) : Nat → Int32 → hm_S → hm_T → Prop
  | 0, _, _, _ => False
  | f + 1, x1, S, T => wb_0_find_17 Q (wl_0_find_17 Q f) x1 S T
theorem lp_0_find_17 {Q : hm_S → hm_T → Prop} (cx : hm_cx G p s m args c prog_2_method_6_code 2 "HeapGames$GrundyValues") (hr : meth.sig.returnType = none) (hlk : meth.locks = false) : ∀ (f : Nat) (x1 : Int32) (S : hm_S) (T : hm_T) (H : Heap) (locs : List Loc) (ls : Array Slot), wl_0_find_17 Q f x1 S T → hm_w G H0 o 74 shX S T H → hm_L o 74 locs → lv_has ls 2 [(0, .ref (o + 59)), (1, .int x1)] → W p l e rm_0_find s m args below meth c H locs 0 0 (MQ below (hm_Qv G H0 o 74 shX Q) args s 0 0 (t_fr o (o + 74))) (F0 m 17 ls []) := by
  intro f
  induction f with
  | zero => intro x1 S T H locs ls h; exact h.elim
  | succ f ih => intro x1 S T H locs ls h hw hL hl; exact bk_0_find_17 cx hr hlk ih h hw hL hl
def wp_0_find (S : hm_S) (T : hm_T) (Q : hm_S → hm_T → Prop) : Prop :=
  (if (S 59 3) = 0 then wp_5_clear 62 512 S T (fun S1 T1 => ∃ f, wl_0_find_17 Q f 1 S1 T1) else Q S T)
set_option maxHeartbeats 4000000 in
set_option maxRecDepth 20000 in
theorem bk_0_find_0 {Q : hm_S → hm_T → Prop} (cx : hm_cx G p s m args c prog_2_method_6_code 2 "HeapGames$GrundyValues") (hr : meth.sig.returnType = none) (hlk : meth.locks = false) {S : hm_S} {T : hm_T} {H : Heap} {locs : List Loc} {ls : Array Slot} (h : wp_0_find S T Q) (hw : hm_w G H0 o 74 shX S T H) (hL : hm_L o 74 locs) (hl : lv_has ls 2 [(0, .ref (o + 59))]) : W p l e rm_0_find s m args below meth c H locs 0 0 (MQ below (hm_Qv G H0 o 74 shX Q) args s 0 0 (t_fr o (o + 74))) (F0 m 0 ls []) := by
  have hx := cx.1.1
  have hb := cx.1.2.1
  unfold wp_0_find at h
  refine lv_aload_n hx hb d_0_find_0 rfl (lv_at hl 0 rfl) ?_
  refine gf_0_27 cx hw (i := 59) (by decide) sx_59 rfl d_0_find_1 ?_
  refine lv_if_eq (tgt := 8) hx hb d_0_find_4 (by decide) (fun hc => ?_) (fun hc => ?_)
  · replace h := hm_pos hc h
    refine lv_aload_n hx hb d_0_find_8 rfl (lv_at hl 0 rfl) ?_
    refine gf_0_20 cx hw (i := 59) (r := 62) (by decide) sx_59 rfl d_0_find_9 ?_
    refine hm_callv (hm_rV (i := 62) (As := []) (rest := []) cx hw (ct_5_clear (by decide) sx_62 sx_63 h) (mw_0_45 cx.1.2.2.2.2 ⟨Nat.le_of_ble_eq_true rfl, Nat.le_of_ble_eq_true rfl⟩) (by decide) sx_62 rfl rfl hl.1 rfl (Nat.le_of_ble_eq_true rfl) d_0_find_12 ⟨Nat.zero_le _, Nat.zero_le _⟩) hL (fun S1 T1 H locs h hw hL => ?_)
    refine lv_iconst (v := 1) hx hb d_0_find_15 (by decide) ?_
    refine lv_istore_n (lv' := [(1, .int 1), (0, .ref (o + 59))]) hx hb d_0_find_16 rfl hl (by decide) rfl (fun ls hl => ?_)
    obtain ⟨f, h⟩ := h
    exact lp_0_find_17 cx hr hlk f _ _ _ _ _ _ h hw hL (lv_sub hl [1, 0] rfl)
  · replace h := hm_neg hc h
    exact W.vret hx hb hr (fun t ht _ => ⟨_, _, rfl, h, by rw [ht]; exact hw⟩) hL d_0_find_7
set_option maxHeartbeats 4000000 in
set_option maxRecDepth 20000 in
theorem ct_0_find {S : hm_S} {T : hm_T} {Q : hm_S → hm_T → Prop} (h : wp_0_find S T Q) : hm_M l G H0 o 74 shX y_0_find prog_2_method_6_code 2 (none) rm_0_find S T [.ref (o + 59)] (hm_Qv G H0 o 74 shX Q) := by
  refine Met.ofW (cc := prog_2_method_6_code) (maxL := 2) (ret := none) (by decide) rfl ?_
  intro p e s m args below meth c s₁ B hml hv
  obtain ⟨rfl, hK, hw⟩ := hv
  have cx : hm_cx G p s m _ c prog_2_method_6_code 2 "HeapGames$GrundyValues" := ⟨⟨B.exec, B.bytes, hml, findClass_of_methodNamed B.named, fun w hq => atoms_spec (ws := hm_ws y_0_find prog_2_method_6_code 2 (none)) B.pre w (List.mem_cons_of_mem _ hq)⟩, hK⟩
  have hl := lv_entry ([.ref (o + 59)]) (n := 2) (Nat.le_of_ble_eq_true rfl)
  rw [lg_entry_eq]
  generalize (lg_sl ([.ref (o + 59)]) ++ List.replicate (2 - (lg_sl ([.ref (o + 59)])).length) Slot.unset).toArray = ls at hl ⊢
  have hl : lv_has ls 2 [(0, .ref (o + 59))] := hl
  exact bk_0_find_0 cx B.returns B.notSynchronized h hw (hm_L0 _ _) hl
/-! ===== HeapGames$GrundyValues.valueOf(I)I ===== -/
theorem d_0_valueOf_0 : decode prog_2_method_3_code 0 = .ok (.aload_n 0, 1) := by decide +kernel
theorem d_0_valueOf_1 : decode prog_2_method_3_code 1 = .ok (.invokevirtual 31, 3) := by decide +kernel
theorem d_0_valueOf_4 : decode prog_2_method_3_code 4 = .ok (.aload_n 0, 1) := by decide +kernel
theorem d_0_valueOf_5 : decode prog_2_method_3_code 5 = .ok (.getfield 14, 3) := by decide +kernel
theorem d_0_valueOf_8 : decode prog_2_method_3_code 8 = .ok (.iload_n 1, 1) := by decide +kernel
theorem d_0_valueOf_9 : decode prog_2_method_3_code 9 = .ok (.invokevirtual 34, 3) := by decide +kernel
theorem d_0_valueOf_12 : decode prog_2_method_3_code 12 = .ok (.ireturn, 1) := by decide +kernel
def wp_0_valueOf (x1 : Int32) (S : hm_S) (T : hm_T) (Q : Int32 → hm_S → hm_T → Prop) : Prop :=
  wp_0_find S T (fun S1 T1 => wp_5_get 60 61 x1 S1 T1 (fun r2 S2 T2 => Q r2 S2 T2))
set_option maxHeartbeats 4000000 in
set_option maxRecDepth 20000 in
theorem bk_0_valueOf_0 {Q : Int32 → hm_S → hm_T → Prop} (cx : hm_cx G p s m args c prog_2_method_3_code 2 "HeapGames$GrundyValues") (hr : meth.sig.returnType = some .int) (hlk : meth.locks = false) {x1 : Int32} {S : hm_S} {T : hm_T} {H : Heap} {locs : List Loc} {ls : Array Slot} (h : wp_0_valueOf x1 S T Q) (hw : hm_w G H0 o 74 shX S T H) (hL : hm_L o 74 locs) (hl : lv_has ls 2 [(0, .ref (o + 59)), (1, .int x1)]) : W p l e rm_0_valueOf s m args below meth c H locs 0 0 (MQ below (hm_Qi G H0 o 74 shX Q) args s 0 0 (t_fr o (o + 74))) (F0 m 0 ls []) := by
  have hx := cx.1.1
  have hb := cx.1.2.1
  unfold wp_0_valueOf at h
  refine lv_aload_n hx hb d_0_valueOf_0 rfl (lv_at hl 0 rfl) ?_
  refine hm_callv (hm_rV (i := 59) (As := []) (rest := []) cx hw (ct_0_find h) (mw_0_31 cx.1.2.2.2.2 ⟨Nat.le_of_ble_eq_true rfl, Nat.le_of_ble_eq_true rfl⟩) (by decide) sx_59 rfl rfl hl.1 rfl (Nat.le_of_ble_eq_true rfl) d_0_valueOf_1 ⟨Nat.zero_le _, Nat.zero_le _⟩) hL (fun S1 T1 H locs h hw hL => ?_)
  refine lv_aload_n hx hb d_0_valueOf_4 rfl (lv_at hl 0 rfl) ?_
  refine gf_0_14 cx hw (i := 59) (r := 60) (by decide) sx_59 rfl d_0_valueOf_5 ?_
  refine lv_iload_n hx hb d_0_valueOf_8 rfl (lv_at hl 1 rfl) ?_
  refine hm_calli (hm_rV (i := 60) (As := [.int x1]) (rest := []) cx hw (ct_5_get (by decide) sx_60 sx_61 h) (mw_0_34 cx.1.2.2.2.2 ⟨Nat.le_of_ble_eq_true rfl, Nat.le_of_ble_eq_true rfl⟩) (by decide) sx_60 rfl rfl hl.1 rfl (Nat.le_of_ble_eq_true rfl) d_0_valueOf_9 ⟨Nat.zero_le _, Nat.zero_le _⟩) hL (fun r2 S2 T2 H locs h hw hL => ?_)
  exact W.iret hx hb hr (fun t ht _ => ⟨_, _, _, rfl, h, by rw [ht]; exact hw⟩) hL d_0_valueOf_12
set_option maxHeartbeats 4000000 in
set_option maxRecDepth 20000 in
theorem ct_0_valueOf {x1 : Int32} {S : hm_S} {T : hm_T} {Q : Int32 → hm_S → hm_T → Prop} (h : wp_0_valueOf x1 S T Q) : hm_M l G H0 o 74 shX y_0_valueOf prog_2_method_3_code 2 (some .int) rm_0_valueOf S T [.ref (o + 59), .int x1] (hm_Qi G H0 o 74 shX Q) := by
  refine Met.ofW (cc := prog_2_method_3_code) (maxL := 2) (ret := some .int) (by decide) rfl ?_
  intro p e s m args below meth c s₁ B hml hv
  obtain ⟨rfl, hK, hw⟩ := hv
  have cx : hm_cx G p s m _ c prog_2_method_3_code 2 "HeapGames$GrundyValues" := ⟨⟨B.exec, B.bytes, hml, findClass_of_methodNamed B.named, fun w hq => atoms_spec (ws := hm_ws y_0_valueOf prog_2_method_3_code 2 (some .int)) B.pre w (List.mem_cons_of_mem _ hq)⟩, hK⟩
  have hl := lv_entry ([.ref (o + 59), .int x1]) (n := 2) (Nat.le_of_ble_eq_true rfl)
  rw [lg_entry_eq]
  generalize (lg_sl ([.ref (o + 59), .int x1]) ++ List.replicate (2 - (lg_sl ([.ref (o + 59), .int x1])).length) Slot.unset).toArray = ls at hl ⊢
  have hl : lv_has ls 2 [(0, .ref (o + 59)), (1, .int x1)] := hl
  exact bk_0_valueOf_0 cx B.returns B.notSynchronized h hw (hm_L0 _ _) hl
/-! ===== HeapGames$GrundyValues.periodLength()I ===== -/
theorem d_0_periodLength_0 : decode prog_2_method_4_code 0 = .ok (.aload_n 0, 1) := by decide +kernel
theorem d_0_periodLength_1 : decode prog_2_method_4_code 1 = .ok (.invokevirtual 31, 3) := by decide +kernel
theorem d_0_periodLength_4 : decode prog_2_method_4_code 4 = .ok (.aload_n 0, 1) := by decide +kernel
theorem d_0_periodLength_5 : decode prog_2_method_4_code 5 = .ok (.getfield 38, 3) := by decide +kernel
theorem d_0_periodLength_8 : decode prog_2_method_4_code 8 = .ok (.ireturn, 1) := by decide +kernel
def wp_0_periodLength (S : hm_S) (T : hm_T) (Q : Int32 → hm_S → hm_T → Prop) : Prop :=
  wp_0_find S T (fun S1 T1 => Q (S1 59 4) S1 T1)
set_option maxHeartbeats 4000000 in
set_option maxRecDepth 20000 in
theorem bk_0_periodLength_0 {Q : Int32 → hm_S → hm_T → Prop} (cx : hm_cx G p s m args c prog_2_method_4_code 1 "HeapGames$GrundyValues") (hr : meth.sig.returnType = some .int) (hlk : meth.locks = false) {S : hm_S} {T : hm_T} {H : Heap} {locs : List Loc} {ls : Array Slot} (h : wp_0_periodLength S T Q) (hw : hm_w G H0 o 74 shX S T H) (hL : hm_L o 74 locs) (hl : lv_has ls 1 [(0, .ref (o + 59))]) : W p l e rm_0_periodLength s m args below meth c H locs 0 0 (MQ below (hm_Qi G H0 o 74 shX Q) args s 0 0 (t_fr o (o + 74))) (F0 m 0 ls []) := by
  have hx := cx.1.1
  have hb := cx.1.2.1
  unfold wp_0_periodLength at h
  refine lv_aload_n hx hb d_0_periodLength_0 rfl (lv_at hl 0 rfl) ?_
  refine hm_callv (hm_rV (i := 59) (As := []) (rest := []) cx hw (ct_0_find h) (mw_0_31 cx.1.2.2.2.2 ⟨Nat.le_of_ble_eq_true rfl, Nat.le_of_ble_eq_true rfl⟩) (by decide) sx_59 rfl rfl hl.1 rfl (Nat.le_of_ble_eq_true rfl) d_0_periodLength_1 ⟨Nat.zero_le _, Nat.zero_le _⟩) hL (fun S1 T1 H locs h hw hL => ?_)
  refine lv_aload_n hx hb d_0_periodLength_4 rfl (lv_at hl 0 rfl) ?_
  refine gf_0_38 cx hw (i := 59) (by decide) sx_59 rfl d_0_periodLength_5 ?_
  exact W.iret hx hb hr (fun t ht _ => ⟨_, _, _, rfl, h, by rw [ht]; exact hw⟩) hL d_0_periodLength_8
set_option maxHeartbeats 4000000 in
set_option maxRecDepth 20000 in
theorem ct_0_periodLength {S : hm_S} {T : hm_T} {Q : Int32 → hm_S → hm_T → Prop} (h : wp_0_periodLength S T Q) : hm_M l G H0 o 74 shX y_0_periodLength prog_2_method_4_code 1 (some .int) rm_0_periodLength S T [.ref (o + 59)] (hm_Qi G H0 o 74 shX Q) := by
  refine Met.ofW (cc := prog_2_method_4_code) (maxL := 1) (ret := some .int) (by decide) rfl ?_
  intro p e s m args below meth c s₁ B hml hv
  obtain ⟨rfl, hK, hw⟩ := hv
  have cx : hm_cx G p s m _ c prog_2_method_4_code 1 "HeapGames$GrundyValues" := ⟨⟨B.exec, B.bytes, hml, findClass_of_methodNamed B.named, fun w hq => atoms_spec (ws := hm_ws y_0_periodLength prog_2_method_4_code 1 (some .int)) B.pre w (List.mem_cons_of_mem _ hq)⟩, hK⟩
  have hl := lv_entry ([.ref (o + 59)]) (n := 1) (Nat.le_of_ble_eq_true rfl)
  rw [lg_entry_eq]
  generalize (lg_sl ([.ref (o + 59)]) ++ List.replicate (1 - (lg_sl ([.ref (o + 59)])).length) Slot.unset).toArray = ls at hl ⊢
  have hl : lv_has ls 1 [(0, .ref (o + 59))] := hl
  exact bk_0_periodLength_0 cx B.returns B.notSynchronized h hw (hm_L0 _ _) hl
/-! ===== HeapGames$GrundyValues.periodStart()I ===== -/
theorem d_0_periodStart_0 : decode prog_2_method_5_code 0 = .ok (.aload_n 0, 1) := by decide +kernel
theorem d_0_periodStart_1 : decode prog_2_method_5_code 1 = .ok (.invokevirtual 31, 3) := by decide +kernel
theorem d_0_periodStart_4 : decode prog_2_method_5_code 4 = .ok (.aload_n 0, 1) := by decide +kernel
theorem d_0_periodStart_5 : decode prog_2_method_5_code 5 = .ok (.getfield 42, 3) := by decide +kernel
theorem d_0_periodStart_8 : decode prog_2_method_5_code 8 = .ok (.ireturn, 1) := by decide +kernel
def wp_0_periodStart (S : hm_S) (T : hm_T) (Q : Int32 → hm_S → hm_T → Prop) : Prop :=
  wp_0_find S T (fun S1 T1 => Q (S1 59 5) S1 T1)
set_option maxHeartbeats 4000000 in
set_option maxRecDepth 20000 in
theorem bk_0_periodStart_0 {Q : Int32 → hm_S → hm_T → Prop} (cx : hm_cx G p s m args c prog_2_method_5_code 1 "HeapGames$GrundyValues") (hr : meth.sig.returnType = some .int) (hlk : meth.locks = false) {S : hm_S} {T : hm_T} {H : Heap} {locs : List Loc} {ls : Array Slot} (h : wp_0_periodStart S T Q) (hw : hm_w G H0 o 74 shX S T H) (hL : hm_L o 74 locs) (hl : lv_has ls 1 [(0, .ref (o + 59))]) : W p l e rm_0_periodStart s m args below meth c H locs 0 0 (MQ below (hm_Qi G H0 o 74 shX Q) args s 0 0 (t_fr o (o + 74))) (F0 m 0 ls []) := by
  have hx := cx.1.1
  have hb := cx.1.2.1
  unfold wp_0_periodStart at h
  refine lv_aload_n hx hb d_0_periodStart_0 rfl (lv_at hl 0 rfl) ?_
  refine hm_callv (hm_rV (i := 59) (As := []) (rest := []) cx hw (ct_0_find h) (mw_0_31 cx.1.2.2.2.2 ⟨Nat.le_of_ble_eq_true rfl, Nat.le_of_ble_eq_true rfl⟩) (by decide) sx_59 rfl rfl hl.1 rfl (Nat.le_of_ble_eq_true rfl) d_0_periodStart_1 ⟨Nat.zero_le _, Nat.zero_le _⟩) hL (fun S1 T1 H locs h hw hL => ?_)
  refine lv_aload_n hx hb d_0_periodStart_4 rfl (lv_at hl 0 rfl) ?_
  refine gf_0_42 cx hw (i := 59) (by decide) sx_59 rfl d_0_periodStart_5 ?_
  exact W.iret hx hb hr (fun t ht _ => ⟨_, _, _, rfl, h, by rw [ht]; exact hw⟩) hL d_0_periodStart_8
set_option maxHeartbeats 4000000 in
set_option maxRecDepth 20000 in
theorem ct_0_periodStart {S : hm_S} {T : hm_T} {Q : Int32 → hm_S → hm_T → Prop} (h : wp_0_periodStart S T Q) : hm_M l G H0 o 74 shX y_0_periodStart prog_2_method_5_code 1 (some .int) rm_0_periodStart S T [.ref (o + 59)] (hm_Qi G H0 o 74 shX Q) := by
  refine Met.ofW (cc := prog_2_method_5_code) (maxL := 1) (ret := some .int) (by decide) rfl ?_
  intro p e s m args below meth c s₁ B hml hv
  obtain ⟨rfl, hK, hw⟩ := hv
  have cx : hm_cx G p s m _ c prog_2_method_5_code 1 "HeapGames$GrundyValues" := ⟨⟨B.exec, B.bytes, hml, findClass_of_methodNamed B.named, fun w hq => atoms_spec (ws := hm_ws y_0_periodStart prog_2_method_5_code 1 (some .int)) B.pre w (List.mem_cons_of_mem _ hq)⟩, hK⟩
  have hl := lv_entry ([.ref (o + 59)]) (n := 1) (Nat.le_of_ble_eq_true rfl)
  rw [lg_entry_eq]
  generalize (lg_sl ([.ref (o + 59)]) ++ List.replicate (1 - (lg_sl ([.ref (o + 59)])).length) Slot.unset).toArray = ls at hl ⊢
  have hl : lv_has ls 1 [(0, .ref (o + 59))] := hl
  exact bk_0_periodStart_0 cx B.returns B.notSynchronized h hw (hm_L0 _ _) hl
end WK
