section WK
variable {p : Program} {l : Launch} {e : Env} {s : State} {m : MethodId} {args : Array Value} {below : List Frame} {meth : Method} {c : Code} {G : hm_G} {H0 : Heap} {o n : Nat} {sh : hm_Sh}
/-! ===== HeapGames.mix(JI)J ===== -/
theorem d_10_mix_0 : decode prog_1_method_41_code 0 = .ok (.ldc2_w 276, 3) := by decide +kernel
theorem d_10_mix_3 : decode prog_1_method_41_code 3 = .ok (.lload_n 0, 1) := by decide +kernel
theorem d_10_mix_4 : decode prog_1_method_41_code 4 = .ok (.lmul, 1) := by decide +kernel
theorem d_10_mix_5 : decode prog_1_method_41_code 5 = .ok (.iload_n 2, 1) := by decide +kernel
theorem d_10_mix_6 : decode prog_1_method_41_code 6 = .ok (.i2l, 1) := by decide +kernel
theorem d_10_mix_7 : decode prog_1_method_41_code 7 = .ok (.ladd, 1) := by decide +kernel
theorem d_10_mix_8 : decode prog_1_method_41_code 8 = .ok (.lreturn, 1) := by decide +kernel
def wp_10_mix (y0 : Int64) (x2 : Int32) (S : hm_S) (T : hm_T) (Q : Int64 → hm_S → hm_T → Prop) : Prop :=
  Q ((31 * y0) + (Int32.toInt64 x2)) S T
set_option maxHeartbeats 4000000 in
set_option maxRecDepth 20000 in
theorem bk_10_mix_0 {Q : Int64 → hm_S → hm_T → Prop} (cx : hm_cx G p s m args c prog_1_method_41_code 3 "HeapGames") (hr : meth.sig.returnType = some .long) (hlk : meth.locks = false) {y0 : Int64} {x2 : Int32} {S : hm_S} {T : hm_T} {H : Heap} {locs : List Loc} {ls : Array Slot} (h : wp_10_mix y0 x2 S T Q) (hw : hm_w G H0 o n sh S T H) (hL : hm_L o n locs) (hl : lv_has ls 3 [(0, .long y0), (2, .int x2)]) : W p l e rm_10_mix s m args below meth c H locs 0 0 (MQ below (hm_Ql G H0 o n sh Q) args s 0 0 (t_fr o (o + n))) (F0 m 0 ls []) := by
  have hx := cx.1.1
  have hb := cx.1.2.1
  unfold wp_10_mix at h
  refine lv_ldc2 (v := 31) hx hb cx.1.2.2.2.1 (cx.1.2.2.2.2 _ hq_978) d_10_mix_0 ?_
  refine lv_lload_n hx hb d_10_mix_3 rfl (lv_at hl 0 rfl) ?_
  refine lv_lmul hx hb d_10_mix_4 ?_
  refine lv_iload_n hx hb d_10_mix_5 rfl (lv_at hl 1 rfl) ?_
  refine lv_i2l (v := (Int32.toInt64 x2)) hx hb d_10_mix_6 rfl ?_
  refine lv_ladd hx hb d_10_mix_7 ?_
  exact W.lret hx hb hr (fun t ht _ => ⟨_, _, _, rfl, h, by rw [ht]; exact hw⟩) hL d_10_mix_8
set_option maxHeartbeats 4000000 in
set_option maxRecDepth 20000 in
theorem ct_10_mix {y0 : Int64} {x2 : Int32} {S : hm_S} {T : hm_T} {Q : Int64 → hm_S → hm_T → Prop} (h : wp_10_mix y0 x2 S T Q) : hm_M l G H0 o n sh y_10_mix prog_1_method_41_code 3 (some .long) rm_10_mix S T [.long y0, .int x2] (hm_Ql G H0 o n sh Q) := by
  refine Met.ofW (cc := prog_1_method_41_code) (maxL := 3) (ret := some .long) (by decide) rfl ?_
  intro p e s m args below meth c s₁ B hml hv
  obtain ⟨rfl, hK, hw⟩ := hv
  have cx : hm_cx G p s m _ c prog_1_method_41_code 3 "HeapGames" := ⟨⟨B.exec, B.bytes, hml, findClass_of_methodNamed B.named, fun w hq => atoms_spec (ws := hm_ws y_10_mix prog_1_method_41_code 3 (some .long)) B.pre w (List.mem_cons_of_mem _ hq)⟩, hK⟩
  have hl := lv_entry ([.long y0, .int x2]) (n := 3) (Nat.le_of_ble_eq_true rfl)
  rw [lg_entry_eq]
  generalize (lg_sl ([.long y0, .int x2]) ++ List.replicate (3 - (lg_sl ([.long y0, .int x2])).length) Slot.unset).toArray = ls at hl ⊢
  have hl : lv_has ls 3 [(0, .long y0), (2, .int x2)] := hl
  exact bk_10_mix_0 cx B.returns B.notSynchronized h hw (hm_L0 _ _) hl
/-! ===== HeapGames.positionOf(II)I ===== -/
theorem d_10_positionOf_0 : decode prog_1_method_42_code 0 = .ok (.iconst 2, 1) := by decide +kernel
theorem d_10_positionOf_1 : decode prog_1_method_42_code 1 = .ok (.iload_n 0, 1) := by decide +kernel
theorem d_10_positionOf_2 : decode prog_1_method_42_code 2 = .ok (.imul, 1) := by decide +kernel
theorem d_10_positionOf_3 : decode prog_1_method_42_code 3 = .ok (.iload_n 1, 1) := by decide +kernel
theorem d_10_positionOf_4 : decode prog_1_method_42_code 4 = .ok (.iadd, 1) := by decide +kernel
theorem d_10_positionOf_5 : decode prog_1_method_42_code 5 = .ok (.ireturn, 1) := by decide +kernel
def wp_10_positionOf (x0 : Int32) (x1 : Int32) (S : hm_S) (T : hm_T) (Q : Int32 → hm_S → hm_T → Prop) : Prop :=
  Q ((2 * x0) + x1) S T
set_option maxHeartbeats 4000000 in
set_option maxRecDepth 20000 in
theorem bk_10_positionOf_0 {Q : Int32 → hm_S → hm_T → Prop} (cx : hm_cx G p s m args c prog_1_method_42_code 2 "HeapGames") (hr : meth.sig.returnType = some .int) (hlk : meth.locks = false) {x0 : Int32} {x1 : Int32} {S : hm_S} {T : hm_T} {H : Heap} {locs : List Loc} {ls : Array Slot} (h : wp_10_positionOf x0 x1 S T Q) (hw : hm_w G H0 o n sh S T H) (hL : hm_L o n locs) (hl : lv_has ls 2 [(0, .int x0), (1, .int x1)]) : W p l e rm_10_positionOf s m args below meth c H locs 0 0 (MQ below (hm_Qi G H0 o n sh Q) args s 0 0 (t_fr o (o + n))) (F0 m 0 ls []) := by
  have hx := cx.1.1
  have hb := cx.1.2.1
  unfold wp_10_positionOf at h
  refine lv_iconst (v := 2) hx hb d_10_positionOf_0 (by decide) ?_
  refine lv_iload_n hx hb d_10_positionOf_1 rfl (lv_at hl 0 rfl) ?_
  refine lv_imul hx hb d_10_positionOf_2 ?_
  refine lv_iload_n hx hb d_10_positionOf_3 rfl (lv_at hl 1 rfl) ?_
  refine lv_iadd hx hb d_10_positionOf_4 ?_
  exact W.iret hx hb hr (fun t ht _ => ⟨_, _, _, rfl, h, by rw [ht]; exact hw⟩) hL d_10_positionOf_5
set_option maxHeartbeats 4000000 in
set_option maxRecDepth 20000 in
theorem ct_10_positionOf {x0 : Int32} {x1 : Int32} {S : hm_S} {T : hm_T} {Q : Int32 → hm_S → hm_T → Prop} (h : wp_10_positionOf x0 x1 S T Q) : hm_M l G H0 o n sh y_10_positionOf prog_1_method_42_code 2 (some .int) rm_10_positionOf S T [.int x0, .int x1] (hm_Qi G H0 o n sh Q) := by
  refine Met.ofW (cc := prog_1_method_42_code) (maxL := 2) (ret := some .int) (by decide) rfl ?_
  intro p e s m args below meth c s₁ B hml hv
  obtain ⟨rfl, hK, hw⟩ := hv
  have cx : hm_cx G p s m _ c prog_1_method_42_code 2 "HeapGames" := ⟨⟨B.exec, B.bytes, hml, findClass_of_methodNamed B.named, fun w hq => atoms_spec (ws := hm_ws y_10_positionOf prog_1_method_42_code 2 (some .int)) B.pre w (List.mem_cons_of_mem _ hq)⟩, hK⟩
  have hl := lv_entry ([.int x0, .int x1]) (n := 2) (Nat.le_of_ble_eq_true rfl)
  rw [lg_entry_eq]
  generalize (lg_sl ([.int x0, .int x1]) ++ List.replicate (2 - (lg_sl ([.int x0, .int x1])).length) Slot.unset).toArray = ls at hl ⊢
  have hl : lv_has ls 2 [(0, .int x0), (1, .int x1)] := hl
  exact bk_10_positionOf_0 cx B.returns B.notSynchronized h hw (hm_L0 _ _) hl
/-! ===== HeapGames.layoutOf(I)I ===== -/
theorem d_10_layoutOf_0 : decode prog_1_method_43_code 0 = .ok (.iload_n 0, 1) := by decide +kernel
theorem d_10_layoutOf_1 : decode prog_1_method_43_code 1 = .ok (.iconst 1, 1) := by decide +kernel
theorem d_10_layoutOf_2 : decode prog_1_method_43_code 2 = .ok (.ishr, 1) := by decide +kernel
theorem d_10_layoutOf_3 : decode prog_1_method_43_code 3 = .ok (.ireturn, 1) := by decide +kernel
def wp_10_layoutOf (x0 : Int32) (S : hm_S) (T : hm_T) (Q : Int32 → hm_S → hm_T → Prop) : Prop :=
  Q (x0 >>> (1 &&& 31)) S T
set_option maxHeartbeats 4000000 in
set_option maxRecDepth 20000 in
theorem bk_10_layoutOf_0 {Q : Int32 → hm_S → hm_T → Prop} (cx : hm_cx G p s m args c prog_1_method_43_code 1 "HeapGames") (hr : meth.sig.returnType = some .int) (hlk : meth.locks = false) {x0 : Int32} {S : hm_S} {T : hm_T} {H : Heap} {locs : List Loc} {ls : Array Slot} (h : wp_10_layoutOf x0 S T Q) (hw : hm_w G H0 o n sh S T H) (hL : hm_L o n locs) (hl : lv_has ls 1 [(0, .int x0)]) : W p l e rm_10_layoutOf s m args below meth c H locs 0 0 (MQ below (hm_Qi G H0 o n sh Q) args s 0 0 (t_fr o (o + n))) (F0 m 0 ls []) := by
  have hx := cx.1.1
  have hb := cx.1.2.1
  unfold wp_10_layoutOf at h
  refine lv_iload_n hx hb d_10_layoutOf_0 rfl (lv_at hl 0 rfl) ?_
  refine lv_iconst (v := 1) hx hb d_10_layoutOf_1 (by decide) ?_
  refine lv_ishr hx hb d_10_layoutOf_2 ?_
  exact W.iret hx hb hr (fun t ht _ => ⟨_, _, _, rfl, h, by rw [ht]; exact hw⟩) hL d_10_layoutOf_3
set_option maxHeartbeats 4000000 in
set_option maxRecDepth 20000 in
theorem ct_10_layoutOf {x0 : Int32} {S : hm_S} {T : hm_T} {Q : Int32 → hm_S → hm_T → Prop} (h : wp_10_layoutOf x0 S T Q) : hm_M l G H0 o n sh y_10_layoutOf prog_1_method_43_code 1 (some .int) rm_10_layoutOf S T [.int x0] (hm_Qi G H0 o n sh Q) := by
  refine Met.ofW (cc := prog_1_method_43_code) (maxL := 1) (ret := some .int) (by decide) rfl ?_
  intro p e s m args below meth c s₁ B hml hv
  obtain ⟨rfl, hK, hw⟩ := hv
  have cx : hm_cx G p s m _ c prog_1_method_43_code 1 "HeapGames" := ⟨⟨B.exec, B.bytes, hml, findClass_of_methodNamed B.named, fun w hq => atoms_spec (ws := hm_ws y_10_layoutOf prog_1_method_43_code 1 (some .int)) B.pre w (List.mem_cons_of_mem _ hq)⟩, hK⟩
  have hl := lv_entry ([.int x0]) (n := 1) (Nat.le_of_ble_eq_true rfl)
  rw [lg_entry_eq]
  generalize (lg_sl ([.int x0]) ++ List.replicate (1 - (lg_sl ([.int x0])).length) Slot.unset).toArray = ls at hl ⊢
  have hl : lv_has ls 1 [(0, .int x0)] := hl
  exact bk_10_layoutOf_0 cx B.returns B.notSynchronized h hw (hm_L0 _ _) hl
/-! ===== HeapGames.passOf(I)I ===== -/
theorem d_10_passOf_0 : decode prog_1_method_44_code 0 = .ok (.iload_n 0, 1) := by decide +kernel
theorem d_10_passOf_1 : decode prog_1_method_44_code 1 = .ok (.iconst 1, 1) := by decide +kernel
theorem d_10_passOf_2 : decode prog_1_method_44_code 2 = .ok (.iand, 1) := by decide +kernel
theorem d_10_passOf_3 : decode prog_1_method_44_code 3 = .ok (.ireturn, 1) := by decide +kernel
def wp_10_passOf (x0 : Int32) (S : hm_S) (T : hm_T) (Q : Int32 → hm_S → hm_T → Prop) : Prop :=
  Q (x0 &&& 1) S T
set_option maxHeartbeats 4000000 in
set_option maxRecDepth 20000 in
theorem bk_10_passOf_0 {Q : Int32 → hm_S → hm_T → Prop} (cx : hm_cx G p s m args c prog_1_method_44_code 1 "HeapGames") (hr : meth.sig.returnType = some .int) (hlk : meth.locks = false) {x0 : Int32} {S : hm_S} {T : hm_T} {H : Heap} {locs : List Loc} {ls : Array Slot} (h : wp_10_passOf x0 S T Q) (hw : hm_w G H0 o n sh S T H) (hL : hm_L o n locs) (hl : lv_has ls 1 [(0, .int x0)]) : W p l e rm_10_passOf s m args below meth c H locs 0 0 (MQ below (hm_Qi G H0 o n sh Q) args s 0 0 (t_fr o (o + n))) (F0 m 0 ls []) := by
  have hx := cx.1.1
  have hb := cx.1.2.1
  unfold wp_10_passOf at h
  refine lv_iload_n hx hb d_10_passOf_0 rfl (lv_at hl 0 rfl) ?_
  refine lv_iconst (v := 1) hx hb d_10_passOf_1 (by decide) ?_
  refine lv_iand hx hb d_10_passOf_2 ?_
  exact W.iret hx hb hr (fun t ht _ => ⟨_, _, _, rfl, h, by rw [ht]; exact hw⟩) hL d_10_passOf_3
set_option maxHeartbeats 4000000 in
set_option maxRecDepth 20000 in
theorem ct_10_passOf {x0 : Int32} {S : hm_S} {T : hm_T} {Q : Int32 → hm_S → hm_T → Prop} (h : wp_10_passOf x0 S T Q) : hm_M l G H0 o n sh y_10_passOf prog_1_method_44_code 1 (some .int) rm_10_passOf S T [.int x0] (hm_Qi G H0 o n sh Q) := by
  refine Met.ofW (cc := prog_1_method_44_code) (maxL := 1) (ret := some .int) (by decide) rfl ?_
  intro p e s m args below meth c s₁ B hml hv
  obtain ⟨rfl, hK, hw⟩ := hv
  have cx : hm_cx G p s m _ c prog_1_method_44_code 1 "HeapGames" := ⟨⟨B.exec, B.bytes, hml, findClass_of_methodNamed B.named, fun w hq => atoms_spec (ws := hm_ws y_10_passOf prog_1_method_44_code 1 (some .int)) B.pre w (List.mem_cons_of_mem _ hq)⟩, hK⟩
  have hl := lv_entry ([.int x0]) (n := 1) (Nat.le_of_ble_eq_true rfl)
  rw [lg_entry_eq]
  generalize (lg_sl ([.int x0]) ++ List.replicate (1 - (lg_sl ([.int x0])).length) Slot.unset).toArray = ls at hl ⊢
  have hl : lv_has ls 1 [(0, .int x0)] := hl
  exact bk_10_passOf_0 cx B.returns B.notSynchronized h hw (hm_L0 _ _) hl
/-! ===== HeapGames.kindOfHeap(II)I ===== -/
theorem d_10_kindOfHeap_0 : decode prog_1_method_45_code 0 = .ok (.iconst 2, 1) := by decide +kernel
theorem d_10_kindOfHeap_1 : decode prog_1_method_45_code 1 = .ok (.iload_n 0, 1) := by decide +kernel
theorem d_10_kindOfHeap_2 : decode prog_1_method_45_code 2 = .ok (.iconst 1, 1) := by decide +kernel
theorem d_10_kindOfHeap_3 : decode prog_1_method_45_code 3 = .ok (.isub, 1) := by decide +kernel
theorem d_10_kindOfHeap_4 : decode prog_1_method_45_code 4 = .ok (.imul, 1) := by decide +kernel
theorem d_10_kindOfHeap_5 : decode prog_1_method_45_code 5 = .ok (.iload_n 1, 1) := by decide +kernel
theorem d_10_kindOfHeap_6 : decode prog_1_method_45_code 6 = .ok (.iadd, 1) := by decide +kernel
theorem d_10_kindOfHeap_7 : decode prog_1_method_45_code 7 = .ok (.ireturn, 1) := by decide +kernel
def wp_10_kindOfHeap (x0 : Int32) (x1 : Int32) (S : hm_S) (T : hm_T) (Q : Int32 → hm_S → hm_T → Prop) : Prop :=
  Q ((2 * (x0 - 1)) + x1) S T
set_option maxHeartbeats 4000000 in
set_option maxRecDepth 20000 in
theorem bk_10_kindOfHeap_0 {Q : Int32 → hm_S → hm_T → Prop} (cx : hm_cx G p s m args c prog_1_method_45_code 2 "HeapGames") (hr : meth.sig.returnType = some .int) (hlk : meth.locks = false) {x0 : Int32} {x1 : Int32} {S : hm_S} {T : hm_T} {H : Heap} {locs : List Loc} {ls : Array Slot} (h : wp_10_kindOfHeap x0 x1 S T Q) (hw : hm_w G H0 o n sh S T H) (hL : hm_L o n locs) (hl : lv_has ls 2 [(0, .int x0), (1, .int x1)]) : W p l e rm_10_kindOfHeap s m args below meth c H locs 0 0 (MQ below (hm_Qi G H0 o n sh Q) args s 0 0 (t_fr o (o + n))) (F0 m 0 ls []) := by
  have hx := cx.1.1
  have hb := cx.1.2.1
  unfold wp_10_kindOfHeap at h
  refine lv_iconst (v := 2) hx hb d_10_kindOfHeap_0 (by decide) ?_
  refine lv_iload_n hx hb d_10_kindOfHeap_1 rfl (lv_at hl 0 rfl) ?_
  refine lv_iconst (v := 1) hx hb d_10_kindOfHeap_2 (by decide) ?_
  refine lv_isub hx hb d_10_kindOfHeap_3 ?_
  refine lv_imul hx hb d_10_kindOfHeap_4 ?_
  refine lv_iload_n hx hb d_10_kindOfHeap_5 rfl (lv_at hl 1 rfl) ?_
  refine lv_iadd hx hb d_10_kindOfHeap_6 ?_
  exact W.iret hx hb hr (fun t ht _ => ⟨_, _, _, rfl, h, by rw [ht]; exact hw⟩) hL d_10_kindOfHeap_7
set_option maxHeartbeats 4000000 in
set_option maxRecDepth 20000 in
theorem ct_10_kindOfHeap {x0 : Int32} {x1 : Int32} {S : hm_S} {T : hm_T} {Q : Int32 → hm_S → hm_T → Prop} (h : wp_10_kindOfHeap x0 x1 S T Q) : hm_M l G H0 o n sh y_10_kindOfHeap prog_1_method_45_code 2 (some .int) rm_10_kindOfHeap S T [.int x0, .int x1] (hm_Qi G H0 o n sh Q) := by
  refine Met.ofW (cc := prog_1_method_45_code) (maxL := 2) (ret := some .int) (by decide) rfl ?_
  intro p e s m args below meth c s₁ B hml hv
  obtain ⟨rfl, hK, hw⟩ := hv
  have cx : hm_cx G p s m _ c prog_1_method_45_code 2 "HeapGames" := ⟨⟨B.exec, B.bytes, hml, findClass_of_methodNamed B.named, fun w hq => atoms_spec (ws := hm_ws y_10_kindOfHeap prog_1_method_45_code 2 (some .int)) B.pre w (List.mem_cons_of_mem _ hq)⟩, hK⟩
  have hl := lv_entry ([.int x0, .int x1]) (n := 2) (Nat.le_of_ble_eq_true rfl)
  rw [lg_entry_eq]
  generalize (lg_sl ([.int x0, .int x1]) ++ List.replicate (2 - (lg_sl ([.int x0, .int x1])).length) Slot.unset).toArray = ls at hl ⊢
  have hl : lv_has ls 2 [(0, .int x0), (1, .int x1)] := hl
  exact bk_10_kindOfHeap_0 cx B.returns B.notSynchronized h hw (hm_L0 _ _) hl
/-! ===== HeapGames.sizeOfKind(I)I ===== -/
theorem d_10_sizeOfKind_0 : decode prog_1_method_46_code 0 = .ok (.iload_n 0, 1) := by decide +kernel
theorem d_10_sizeOfKind_1 : decode prog_1_method_46_code 1 = .ok (.iconst 1, 1) := by decide +kernel
theorem d_10_sizeOfKind_2 : decode prog_1_method_46_code 2 = .ok (.ishr, 1) := by decide +kernel
theorem d_10_sizeOfKind_3 : decode prog_1_method_46_code 3 = .ok (.iconst 1, 1) := by decide +kernel
theorem d_10_sizeOfKind_4 : decode prog_1_method_46_code 4 = .ok (.iadd, 1) := by decide +kernel
theorem d_10_sizeOfKind_5 : decode prog_1_method_46_code 5 = .ok (.ireturn, 1) := by decide +kernel
def wp_10_sizeOfKind (x0 : Int32) (S : hm_S) (T : hm_T) (Q : Int32 → hm_S → hm_T → Prop) : Prop :=
  Q ((x0 >>> (1 &&& 31)) + 1) S T
set_option maxHeartbeats 4000000 in
set_option maxRecDepth 20000 in
theorem bk_10_sizeOfKind_0 {Q : Int32 → hm_S → hm_T → Prop} (cx : hm_cx G p s m args c prog_1_method_46_code 1 "HeapGames") (hr : meth.sig.returnType = some .int) (hlk : meth.locks = false) {x0 : Int32} {S : hm_S} {T : hm_T} {H : Heap} {locs : List Loc} {ls : Array Slot} (h : wp_10_sizeOfKind x0 S T Q) (hw : hm_w G H0 o n sh S T H) (hL : hm_L o n locs) (hl : lv_has ls 1 [(0, .int x0)]) : W p l e rm_10_sizeOfKind s m args below meth c H locs 0 0 (MQ below (hm_Qi G H0 o n sh Q) args s 0 0 (t_fr o (o + n))) (F0 m 0 ls []) := by
  have hx := cx.1.1
  have hb := cx.1.2.1
  unfold wp_10_sizeOfKind at h
  refine lv_iload_n hx hb d_10_sizeOfKind_0 rfl (lv_at hl 0 rfl) ?_
  refine lv_iconst (v := 1) hx hb d_10_sizeOfKind_1 (by decide) ?_
  refine lv_ishr hx hb d_10_sizeOfKind_2 ?_
  refine lv_iconst (v := 1) hx hb d_10_sizeOfKind_3 (by decide) ?_
  refine lv_iadd hx hb d_10_sizeOfKind_4 ?_
  exact W.iret hx hb hr (fun t ht _ => ⟨_, _, _, rfl, h, by rw [ht]; exact hw⟩) hL d_10_sizeOfKind_5
set_option maxHeartbeats 4000000 in
set_option maxRecDepth 20000 in
theorem ct_10_sizeOfKind {x0 : Int32} {S : hm_S} {T : hm_T} {Q : Int32 → hm_S → hm_T → Prop} (h : wp_10_sizeOfKind x0 S T Q) : hm_M l G H0 o n sh y_10_sizeOfKind prog_1_method_46_code 1 (some .int) rm_10_sizeOfKind S T [.int x0] (hm_Qi G H0 o n sh Q) := by
  refine Met.ofW (cc := prog_1_method_46_code) (maxL := 1) (ret := some .int) (by decide) rfl ?_
  intro p e s m args below meth c s₁ B hml hv
  obtain ⟨rfl, hK, hw⟩ := hv
  have cx : hm_cx G p s m _ c prog_1_method_46_code 1 "HeapGames" := ⟨⟨B.exec, B.bytes, hml, findClass_of_methodNamed B.named, fun w hq => atoms_spec (ws := hm_ws y_10_sizeOfKind prog_1_method_46_code 1 (some .int)) B.pre w (List.mem_cons_of_mem _ hq)⟩, hK⟩
  have hl := lv_entry ([.int x0]) (n := 1) (Nat.le_of_ble_eq_true rfl)
  rw [lg_entry_eq]
  generalize (lg_sl ([.int x0]) ++ List.replicate (1 - (lg_sl ([.int x0])).length) Slot.unset).toArray = ls at hl ⊢
  have hl : lv_has ls 1 [(0, .int x0)] := hl
  exact bk_10_sizeOfKind_0 cx B.returns B.notSynchronized h hw (hm_L0 _ _) hl
/-! ===== HeapGames.boundOfKind(I)I ===== -/
theorem d_10_boundOfKind_0 : decode prog_1_method_47_code 0 = .ok (.iload_n 0, 1) := by decide +kernel
theorem d_10_boundOfKind_1 : decode prog_1_method_47_code 1 = .ok (.iconst 1, 1) := by decide +kernel
theorem d_10_boundOfKind_2 : decode prog_1_method_47_code 2 = .ok (.iand, 1) := by decide +kernel
theorem d_10_boundOfKind_3 : decode prog_1_method_47_code 3 = .ok (.ireturn, 1) := by decide +kernel
def wp_10_boundOfKind (x0 : Int32) (S : hm_S) (T : hm_T) (Q : Int32 → hm_S → hm_T → Prop) : Prop :=
  Q (x0 &&& 1) S T
set_option maxHeartbeats 4000000 in
set_option maxRecDepth 20000 in
theorem bk_10_boundOfKind_0 {Q : Int32 → hm_S → hm_T → Prop} (cx : hm_cx G p s m args c prog_1_method_47_code 1 "HeapGames") (hr : meth.sig.returnType = some .int) (hlk : meth.locks = false) {x0 : Int32} {S : hm_S} {T : hm_T} {H : Heap} {locs : List Loc} {ls : Array Slot} (h : wp_10_boundOfKind x0 S T Q) (hw : hm_w G H0 o n sh S T H) (hL : hm_L o n locs) (hl : lv_has ls 1 [(0, .int x0)]) : W p l e rm_10_boundOfKind s m args below meth c H locs 0 0 (MQ below (hm_Qi G H0 o n sh Q) args s 0 0 (t_fr o (o + n))) (F0 m 0 ls []) := by
  have hx := cx.1.1
  have hb := cx.1.2.1
  unfold wp_10_boundOfKind at h
  refine lv_iload_n hx hb d_10_boundOfKind_0 rfl (lv_at hl 0 rfl) ?_
  refine lv_iconst (v := 1) hx hb d_10_boundOfKind_1 (by decide) ?_
  refine lv_iand hx hb d_10_boundOfKind_2 ?_
  exact W.iret hx hb hr (fun t ht _ => ⟨_, _, _, rfl, h, by rw [ht]; exact hw⟩) hL d_10_boundOfKind_3
set_option maxHeartbeats 4000000 in
set_option maxRecDepth 20000 in
theorem ct_10_boundOfKind {x0 : Int32} {S : hm_S} {T : hm_T} {Q : Int32 → hm_S → hm_T → Prop} (h : wp_10_boundOfKind x0 S T Q) : hm_M l G H0 o n sh y_10_boundOfKind prog_1_method_47_code 1 (some .int) rm_10_boundOfKind S T [.int x0] (hm_Qi G H0 o n sh Q) := by
  refine Met.ofW (cc := prog_1_method_47_code) (maxL := 1) (ret := some .int) (by decide) rfl ?_
  intro p e s m args below meth c s₁ B hml hv
  obtain ⟨rfl, hK, hw⟩ := hv
  have cx : hm_cx G p s m _ c prog_1_method_47_code 1 "HeapGames" := ⟨⟨B.exec, B.bytes, hml, findClass_of_methodNamed B.named, fun w hq => atoms_spec (ws := hm_ws y_10_boundOfKind prog_1_method_47_code 1 (some .int)) B.pre w (List.mem_cons_of_mem _ hq)⟩, hK⟩
  have hl := lv_entry ([.int x0]) (n := 1) (Nat.le_of_ble_eq_true rfl)
  rw [lg_entry_eq]
  generalize (lg_sl ([.int x0]) ++ List.replicate (1 - (lg_sl ([.int x0])).length) Slot.unset).toArray = ls at hl ⊢
  have hl : lv_has ls 1 [(0, .int x0)] := hl
  exact bk_10_boundOfKind_0 cx B.returns B.notSynchronized h hw (hm_L0 _ _) hl
end WK
