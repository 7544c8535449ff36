section WK
variable {p : Program} {l : Launch} {e : Env} {s : State} {m : MethodId} {args : Array Value} {below : List Frame} {meth : Method} {c : Code} {G : hm_G} {H0 : Heap} {o n : Nat} {sh : hm_Sh}
/-! ===== HeapGames$Text.append(I)V ===== -/
theorem d_9_append_0 : decode prog_11_method_2_code 0 = .ok (.aload_n 0, 1) := by decide +kernel
theorem d_9_append_1 : decode prog_11_method_2_code 1 = .ok (.getfield 14, 3) := by decide +kernel
theorem d_9_append_4 : decode prog_11_method_2_code 4 = .ok (.aload_n 0, 1) := by decide +kernel
theorem d_9_append_5 : decode prog_11_method_2_code 5 = .ok (.getfield 20, 3) := by decide +kernel
theorem d_9_append_8 : decode prog_11_method_2_code 8 = .ok (.iload_n 1, 1) := by decide +kernel
theorem d_9_append_9 : decode prog_11_method_2_code 9 = .ok (.invokevirtual 24, 3) := by decide +kernel
theorem d_9_append_12 : decode prog_11_method_2_code 12 = .ok (.aload_n 0, 1) := by decide +kernel
theorem d_9_append_13 : decode prog_11_method_2_code 13 = .ok (.dup, 1) := by decide +kernel
theorem d_9_append_14 : decode prog_11_method_2_code 14 = .ok (.getfield 20, 3) := by decide +kernel
theorem d_9_append_17 : decode prog_11_method_2_code 17 = .ok (.iconst 1, 1) := by decide +kernel
theorem d_9_append_18 : decode prog_11_method_2_code 18 = .ok (.iadd, 1) := by decide +kernel
theorem d_9_append_19 : decode prog_11_method_2_code 19 = .ok (.putfield 20, 3) := by decide +kernel
theorem d_9_append_22 : decode prog_11_method_2_code 22 = .ok (.return_, 1) := by decide +kernel
def wp_9_append (x1 : Int32) (S : hm_S) (T : hm_T) (Q : hm_S → hm_T → Prop) : Prop :=
  wp_5_set 65 40 (S 64 1) x1 S T (fun S1 T1 => Q (hm_up S1 64 1 ((S1 64 1) + 1)) T1)
set_option maxHeartbeats 4000000 in
set_option maxRecDepth 20000 in
theorem bk_9_append_0 {Q : hm_S → hm_T → Prop} (cx : hm_cx G p s m args c prog_11_method_2_code 2 "HeapGames$Text") (hr : meth.sig.returnType = none) (hlk : meth.locks = false) {x1 : Int32} {S : hm_S} {T : hm_T} {H : Heap} {locs : List Loc} {ls : Array Slot} (h : wp_9_append x1 S T Q) (hw : hm_w G H0 o 74 shX S T H) (hL : hm_L o 74 locs) (hl : lv_has ls 2 [(0, .ref (o + 64)), (1, .int x1)]) : W p l e rm_9_append s m args below meth c H locs 0 0 (MQ below (hm_Qv G H0 o 74 shX Q) args s 0 0 (t_fr o (o + 74))) (F0 m 0 ls []) := by
  have hx := cx.1.1
  have hb := cx.1.2.1
  unfold wp_9_append at h
  refine lv_aload_n hx hb d_9_append_0 rfl (lv_at hl 0 rfl) ?_
  refine gf_9_14 cx hw (i := 64) (r := 65) (by decide) sx_64 rfl d_9_append_1 ?_
  refine lv_aload_n hx hb d_9_append_4 rfl (lv_at hl 0 rfl) ?_
  refine gf_9_20 cx hw (i := 64) (by decide) sx_64 rfl d_9_append_5 ?_
  refine lv_iload_n hx hb d_9_append_8 rfl (lv_at hl 1 rfl) ?_
  refine hm_callv (hm_rV (i := 65) (As := [.int (S 64 1), .int x1]) (rest := []) cx hw (ct_5_set (by decide) sx_65 sx_66 h) (mw_9_24 cx.1.2.2.2.2 ⟨Nat.le_of_ble_eq_true rfl, Nat.le_of_ble_eq_true rfl⟩) (by decide) sx_65 rfl rfl hl.1 rfl (Nat.le_of_ble_eq_true rfl) d_9_append_9 ⟨Nat.zero_le _, Nat.zero_le _⟩) hL (fun S1 T1 H locs h hw hL => ?_)
  refine lv_aload_n hx hb d_9_append_12 rfl (lv_at hl 0 rfl) ?_
  refine lv_dup hx hb d_9_append_13 rfl ?_
  refine gf_9_20 cx hw (i := 64) (by decide) sx_64 rfl d_9_append_14 ?_
  refine lv_iconst (v := 1) hx hb d_9_append_17 (by decide) ?_
  refine lv_iadd hx hb d_9_append_18 ?_
  refine pf_9_20 cx hw (i := 64) (by decide) sx_64 rfl hL d_9_append_19 (fun H locs hw hL => ?_)
  exact W.vret hx hb hr (fun t ht _ => ⟨_, _, rfl, h, by rw [ht]; exact hw⟩) hL d_9_append_22
set_option maxHeartbeats 4000000 in
set_option maxRecDepth 20000 in
theorem ct_9_append {x1 : Int32} {S : hm_S} {T : hm_T} {Q : hm_S → hm_T → Prop} (h : wp_9_append x1 S T Q) : hm_M l G H0 o 74 shX y_9_append prog_11_method_2_code 2 (none) rm_9_append S T [.ref (o + 64), .int x1] (hm_Qv G H0 o 74 shX Q) := by
  refine Met.ofW (cc := prog_11_method_2_code) (maxL := 2) (ret := none) (by decide) rfl ?_
  intro p e s m args below meth c s₁ B hml hv
  obtain ⟨rfl, hK, hw⟩ := hv
  have cx : hm_cx G p s m _ c prog_11_method_2_code 2 "HeapGames$Text" := ⟨⟨B.exec, B.bytes, hml, findClass_of_methodNamed B.named, fun w hq => atoms_spec (ws := hm_ws y_9_append prog_11_method_2_code 2 (none)) B.pre w (List.mem_cons_of_mem _ hq)⟩, hK⟩
  have hl := lv_entry ([.ref (o + 64), .int x1]) (n := 2) (Nat.le_of_ble_eq_true rfl)
  rw [lg_entry_eq]
  generalize (lg_sl ([.ref (o + 64), .int x1]) ++ List.replicate (2 - (lg_sl ([.ref (o + 64), .int x1])).length) Slot.unset).toArray = ls at hl ⊢
  have hl : lv_has ls 2 [(0, .ref (o + 64)), (1, .int x1)] := hl
  exact bk_9_append_0 cx B.returns B.notSynchronized h hw (hm_L0 _ _) hl
/-! ===== HeapGames$Text.clear()V ===== -/
theorem d_9_clear_0 : decode prog_11_method_3_code 0 = .ok (.aload_n 0, 1) := by decide +kernel
theorem d_9_clear_1 : decode prog_11_method_3_code 1 = .ok (.iconst 0, 1) := by decide +kernel
theorem d_9_clear_2 : decode prog_11_method_3_code 2 = .ok (.putfield 20, 3) := by decide +kernel
theorem d_9_clear_5 : decode prog_11_method_3_code 5 = .ok (.return_, 1) := by decide +kernel
def wp_9_clear (S : hm_S) (T : hm_T) (Q : hm_S → hm_T → Prop) : Prop :=
  Q (hm_up S 64 1 0) T
set_option maxHeartbeats 4000000 in
set_option maxRecDepth 20000 in
theorem bk_9_clear_0 {Q : hm_S → hm_T → Prop} (cx : hm_cx G p s m args c prog_11_method_3_code 1 "HeapGames$Text") (hr : meth.sig.returnType = none) (hlk : meth.locks = false) {S : hm_S} {T : hm_T} {H : Heap} {locs : List Loc} {ls : Array Slot} (h : wp_9_clear S T Q) (hw : hm_w G H0 o 74 shX S T H) (hL : hm_L o 74 locs) (hl : lv_has ls 1 [(0, .ref (o + 64))]) : W p l e rm_9_clear s m args below meth c H locs 0 0 (MQ below (hm_Qv G H0 o 74 shX Q) args s 0 0 (t_fr o (o + 74))) (F0 m 0 ls []) := by
  have hx := cx.1.1
  have hb := cx.1.2.1
  unfold wp_9_clear at h
  refine lv_aload_n hx hb d_9_clear_0 rfl (lv_at hl 0 rfl) ?_
  refine lv_iconst (v := 0) hx hb d_9_clear_1 (by decide) ?_
  refine pf_9_20 cx hw (i := 64) (by decide) sx_64 rfl hL d_9_clear_2 (fun H locs hw hL => ?_)
  exact W.vret hx hb hr (fun t ht _ => ⟨_, _, rfl, h, by rw [ht]; exact hw⟩) hL d_9_clear_5
set_option maxHeartbeats 4000000 in
set_option maxRecDepth 20000 in
theorem ct_9_clear {S : hm_S} {T : hm_T} {Q : hm_S → hm_T → Prop} (h : wp_9_clear S T Q) : hm_M l G H0 o 74 shX y_9_clear prog_11_method_3_code 1 (none) rm_9_clear S T [.ref (o + 64)] (hm_Qv G H0 o 74 shX Q) := by
  refine Met.ofW (cc := prog_11_method_3_code) (maxL := 1) (ret := none) (by decide) rfl ?_
  intro p e s m args below meth c s₁ B hml hv
  obtain ⟨rfl, hK, hw⟩ := hv
  have cx : hm_cx G p s m _ c prog_11_method_3_code 1 "HeapGames$Text" := ⟨⟨B.exec, B.bytes, hml, findClass_of_methodNamed B.named, fun w hq => atoms_spec (ws := hm_ws y_9_clear prog_11_method_3_code 1 (none)) B.pre w (List.mem_cons_of_mem _ hq)⟩, hK⟩
  have hl := lv_entry ([.ref (o + 64)]) (n := 1) (Nat.le_of_ble_eq_true rfl)
  rw [lg_entry_eq]
  generalize (lg_sl ([.ref (o + 64)]) ++ List.replicate (1 - (lg_sl ([.ref (o + 64)])).length) Slot.unset).toArray = ls at hl ⊢
  have hl : lv_has ls 1 [(0, .ref (o + 64))] := hl
  exact bk_9_clear_0 cx B.returns B.notSynchronized h hw (hm_L0 _ _) hl
/-! ===== HeapGames$Text.letterAt(I)I ===== -/
theorem d_9_letterAt_0 : decode prog_11_method_4_code 0 = .ok (.iload_n 1, 1) := by decide +kernel
theorem d_9_letterAt_1 : decode prog_11_method_4_code 1 = .ok (.aload_n 0, 1) := by decide +kernel
theorem d_9_letterAt_2 : decode prog_11_method_4_code 2 = .ok (.getfield 20, 3) := by decide +kernel
theorem d_9_letterAt_5 : decode prog_11_method_4_code 5 = .ok (.if_icmp .ge 14, 3) := by decide +kernel
theorem d_9_letterAt_8 : decode prog_11_method_4_code 8 = .ok (.aload_n 0, 1) := by decide +kernel
theorem d_9_letterAt_9 : decode prog_11_method_4_code 9 = .ok (.getfield 14, 3) := by decide +kernel
theorem d_9_letterAt_12 : decode prog_11_method_4_code 12 = .ok (.iload_n 1, 1) := by decide +kernel
theorem d_9_letterAt_13 : decode prog_11_method_4_code 13 = .ok (.invokevirtual 28, 3) := by decide +kernel
theorem d_9_letterAt_16 : decode prog_11_method_4_code 16 = .ok (.goto 4, 3) := by decide +kernel
theorem d_9_letterAt_19 : decode prog_11_method_4_code 19 = .ok (.iconst (-1), 1) := by decide +kernel
theorem d_9_letterAt_20 : decode prog_11_method_4_code 20 = .ok (.ireturn, 1) := by decide +kernel
def wp_9_letterAt (x1 : Int32) (S : hm_S) (T : hm_T) (Q : Int32 → hm_S → hm_T → Prop) : Prop :=
  (if (S 64 1) ≤ x1 then Q (-1) S T else wp_5_get 65 40 x1 S T (fun r1 S1 T1 => Q r1 S1 T1))
set_option maxHeartbeats 4000000 in
set_option maxRecDepth 20000 in
theorem bk_9_letterAt_0 {Q : Int32 → hm_S → hm_T → Prop} (cx : hm_cx G p s m args c prog_11_method_4_code 2 "HeapGames$Text") (hr : meth.sig.returnType = some .int) (hlk : meth.locks = false) {x1 : Int32} {S : hm_S} {T : hm_T} {H : Heap} {locs : List Loc} {ls : Array Slot} (h : wp_9_letterAt x1 S T Q) (hw : hm_w G H0 o 74 shX S T H) (hL : hm_L o 74 locs) (hl : lv_has ls 2 [(0, .ref (o + 64)), (1, .int x1)]) : W p l e rm_9_letterAt s m args below meth c H locs 0 0 (MQ below (hm_Qi G H0 o 74 shX Q) args s 0 0 (t_fr o (o + 74))) (F0 m 0 ls []) := by
  have hx := cx.1.1
  have hb := cx.1.2.1
  unfold wp_9_letterAt at h
  refine lv_iload_n hx hb d_9_letterAt_0 rfl (lv_at hl 1 rfl) ?_
  refine lv_aload_n hx hb d_9_letterAt_1 rfl (lv_at hl 0 rfl) ?_
  refine gf_9_20 cx hw (i := 64) (by decide) sx_64 rfl d_9_letterAt_2 ?_
  refine lv_icmp_ge (tgt := 19) hx hb d_9_letterAt_5 (by decide) (fun hc => ?_) (fun hc => ?_)
  · replace h := hm_pos hc h
    refine lv_iconst (v := (-1)) hx hb d_9_letterAt_19 (by decide) ?_
    exact W.iret hx hb hr (fun t ht _ => ⟨_, _, _, rfl, h, by rw [ht]; exact hw⟩) hL d_9_letterAt_20
  · replace h := hm_neg hc h
    refine lv_aload_n hx hb d_9_letterAt_8 rfl (lv_at hl 0 rfl) ?_
    refine gf_9_14 cx hw (i := 64) (r := 65) (by decide) sx_64 rfl d_9_letterAt_9 ?_
    refine lv_iload_n hx hb d_9_letterAt_12 rfl (lv_at hl 1 rfl) ?_
    refine hm_calli (hm_rV (i := 65) (As := [.int x1]) (rest := []) cx hw (ct_5_get (by decide) sx_65 sx_66 h) (mw_9_28 cx.1.2.2.2.2 ⟨Nat.le_of_ble_eq_true rfl, Nat.le_of_ble_eq_true rfl⟩) (by decide) sx_65 rfl rfl hl.1 rfl (Nat.le_of_ble_eq_true rfl) d_9_letterAt_13 ⟨Nat.zero_le _, Nat.zero_le _⟩) hL (fun r1 S1 T1 H locs h hw hL => ?_)
    refine lv_goto (tgt := 20) hx hb d_9_letterAt_16 (by decide) ?_
    exact W.iret hx hb hr (fun t ht _ => ⟨_, _, _, rfl, h, by rw [ht]; exact hw⟩) hL d_9_letterAt_20
set_option maxHeartbeats 4000000 in
set_option maxRecDepth 20000 in
theorem ct_9_letterAt {x1 : Int32} {S : hm_S} {T : hm_T} {Q : Int32 → hm_S → hm_T → Prop} (h : wp_9_letterAt x1 S T Q) : hm_M l G H0 o 74 shX y_9_letterAt prog_11_method_4_code 2 (some .int) rm_9_letterAt S T [.ref (o + 64), .int x1] (hm_Qi G H0 o 74 shX Q) := by
  refine Met.ofW (cc := prog_11_method_4_code) (maxL := 2) (ret := some .int) (by decide) rfl ?_
  intro p e s m args below meth c s₁ B hml hv
  obtain ⟨rfl, hK, hw⟩ := hv
  have cx : hm_cx G p s m _ c prog_11_method_4_code 2 "HeapGames$Text" := ⟨⟨B.exec, B.bytes, hml, findClass_of_methodNamed B.named, fun w hq => atoms_spec (ws := hm_ws y_9_letterAt prog_11_method_4_code 2 (some .int)) B.pre w (List.mem_cons_of_mem _ hq)⟩, hK⟩
  have hl := lv_entry ([.ref (o + 64), .int x1]) (n := 2) (Nat.le_of_ble_eq_true rfl)
  rw [lg_entry_eq]
  generalize (lg_sl ([.ref (o + 64), .int x1]) ++ List.replicate (2 - (lg_sl ([.ref (o + 64), .int x1])).length) Slot.unset).toArray = ls at hl ⊢
  have hl : lv_has ls 2 [(0, .ref (o + 64)), (1, .int x1)] := hl
  exact bk_9_letterAt_0 cx B.returns B.notSynchronized h hw (hm_L0 _ _) hl
/-! ===== HeapGames$Text.skipBlanks()V ===== -/
theorem d_9_skipBlanks_0 : decode prog_11_method_10_code 0 = .ok (.aload_n 0, 1) := by decide +kernel
theorem d_9_skipBlanks_1 : decode prog_11_method_10_code 1 = .ok (.getfield 32, 3) := by decide +kernel
theorem d_9_skipBlanks_4 : decode prog_11_method_10_code 4 = .ok (.aload_n 0, 1) := by decide +kernel
theorem d_9_skipBlanks_5 : decode prog_11_method_10_code 5 = .ok (.getfield 20, 3) := by decide +kernel
theorem d_9_skipBlanks_8 : decode prog_11_method_10_code 8 = .ok (.if_icmp .ge 32, 3) := by decide +kernel
theorem d_9_skipBlanks_11 : decode prog_11_method_10_code 11 = .ok (.aload_n 0, 1) := by decide +kernel
theorem d_9_skipBlanks_12 : decode prog_11_method_10_code 12 = .ok (.getfield 14, 3) := by decide +kernel
theorem d_9_skipBlanks_15 : decode prog_11_method_10_code 15 = .ok (.aload_n 0, 1) := by decide +kernel
theorem d_9_skipBlanks_16 : decode prog_11_method_10_code 16 = .ok (.getfield 32, 3) := by decide +kernel
theorem d_9_skipBlanks_19 : decode prog_11_method_10_code 19 = .ok (.invokevirtual 28, 3) := by decide +kernel
theorem d_9_skipBlanks_22 : decode prog_11_method_10_code 22 = .ok (.bipush 32, 2) := by decide +kernel
theorem d_9_skipBlanks_24 : decode prog_11_method_10_code 24 = .ok (.if_icmp .ne 16, 3) := by decide +kernel
theorem d_9_skipBlanks_27 : decode prog_11_method_10_code 27 = .ok (.aload_n 0, 1) := by decide +kernel
theorem d_9_skipBlanks_28 : decode prog_11_method_10_code 28 = .ok (.dup, 1) := by decide +kernel
theorem d_9_skipBlanks_29 : decode prog_11_method_10_code 29 = .ok (.getfield 32, 3) := by decide +kernel
theorem d_9_skipBlanks_32 : decode prog_11_method_10_code 32 = .ok (.iconst 1, 1) := by decide +kernel
theorem d_9_skipBlanks_33 : decode prog_11_method_10_code 33 = .ok (.iadd, 1) := by decide +kernel
theorem d_9_skipBlanks_34 : decode prog_11_method_10_code 34 = .ok (.putfield 32, 3) := by decide +kernel
theorem d_9_skipBlanks_37 : decode prog_11_method_10_code 37 = .ok (.goto (-37), 3) := by decide +kernel
theorem d_9_skipBlanks_40 : decode prog_11_method_10_code 40 = .ok (.return_, 1) := by decide +kernel
def wb_9_skipBlanks_0 (Q : hm_S → hm_T → Prop) (K0 : hm_S → hm_T → Prop) (S : hm_S) (T : hm_T) : Prop :=
  (if (S 64 1) ≤ (S 64 2) then Q S T else wp_5_get 65 40 (S 64 2) S T (fun r1 S1 T1 => (if r1 = 32 then K0 (hm_up S1 64 2 ((S1 64 2) + 1)) T1 else Q S1 T1)))
set_option maxHeartbeats 4000000 in
set_option maxRecDepth 20000 in
theorem bk_9_skipBlanks_0 {Q : hm_S → hm_T → Prop} {K0 : hm_S → hm_T → Prop} (cx : hm_cx G p s m args c prog_11_method_10_code 1 "HeapGames$Text") (hr : meth.sig.returnType = none) (hlk : meth.locks = false) (k0 : ∀ (S : hm_S) (T : hm_T) (H : Heap) (locs : List Loc) (ls : Array Slot), K0 S T → hm_w G H0 o 74 shX S T H → hm_L o 74 locs → lv_has ls 1 [(0, .ref (o + 64))] → W p l e rm_9_skipBlanks s m args below meth c H locs 0 0 (MQ below (hm_Qv G H0 o 74 shX Q) args s 0 0 (t_fr o (o + 74))) (F0 m 0 ls [])) {S : hm_S} {T : hm_T} {H : Heap} {locs : List Loc} {ls : Array Slot} (h : wb_9_skipBlanks_0 Q K0 S T) (hw : hm_w G H0 o 74 shX S T H) (hL : hm_L o 74 locs) (hl : lv_has ls 1 [(0, .ref (o + 64))]) : W p l e rm_9_skipBlanks s m args below meth c H locs 0 0 (MQ below (hm_Qv G H0 o 74 shX Q) args s 0 0 (t_fr o (o + 74))) (F0 m 0 ls []) := by
  have hx := cx.1.1
  have hb := cx.1.2.1
  unfold wb_9_skipBlanks_0 at h
  refine lv_aload_n hx hb d_9_skipBlanks_0 rfl (lv_at hl 0 rfl) ?_
  refine gf_9_32 cx hw (i := 64) (by decide) sx_64 rfl d_9_skipBlanks_1 ?_
  refine lv_aload_n hx hb d_9_skipBlanks_4 rfl (lv_at hl 0 rfl) ?_
  refine gf_9_20 cx hw (i := 64) (by decide) sx_64 rfl d_9_skipBlanks_5 ?_
  refine lv_icmp_ge (tgt := 40) hx hb d_9_skipBlanks_8 (by decide) (fun hc => ?_) (fun hc => ?_)
  · replace h := hm_pos hc h
    exact W.vret hx hb hr (fun t ht _ => ⟨_, _, rfl, h, by rw [ht]; exact hw⟩) hL d_9_skipBlanks_40
  · replace h := hm_neg hc h
    refine lv_aload_n hx hb d_9_skipBlanks_11 rfl (lv_at hl 0 rfl) ?_
    refine gf_9_14 cx hw (i := 64) (r := 65) (by decide) sx_64 rfl d_9_skipBlanks_12 ?_
    refine lv_aload_n hx hb d_9_skipBlanks_15 rfl (lv_at hl 0 rfl) ?_
    refine gf_9_32 cx hw (i := 64) (by decide) sx_64 rfl d_9_skipBlanks_16 ?_
    refine hm_calli (hm_rV (i := 65) (As := [.int (S 64 2)]) (rest := []) cx hw (ct_5_get (by decide) sx_65 sx_66 h) (mw_9_28 cx.1.2.2.2.2 ⟨Nat.le_of_ble_eq_true rfl, Nat.le_of_ble_eq_true rfl⟩) (by decide) sx_65 rfl rfl hl.1 rfl (Nat.le_of_ble_eq_true rfl) d_9_skipBlanks_19 ⟨Nat.zero_le _, Nat.zero_le _⟩) hL (fun r1 S1 T1 H locs h hw hL => ?_)
    refine lv_bipush (v := 32) hx hb d_9_skipBlanks_22 (by decide) ?_
    refine lv_icmp_ne (tgt := 40) hx hb d_9_skipBlanks_24 (by decide) (fun hc => ?_) (fun hc => ?_)
    · replace h := hm_neg hc h
      exact W.vret hx hb hr (fun t ht _ => ⟨_, _, rfl, h, by rw [ht]; exact hw⟩) hL d_9_skipBlanks_40
    · replace h := hm_pos hc h
      refine lv_aload_n hx hb d_9_skipBlanks_27 rfl (lv_at hl 0 rfl) ?_
      refine lv_dup hx hb d_9_skipBlanks_28 rfl ?_
      refine gf_9_32 cx hw (i := 64) (by decide) sx_64 rfl d_9_skipBlanks_29 ?_
      refine lv_iconst (v := 1) hx hb d_9_skipBlanks_32 (by decide) ?_
      refine lv_iadd hx hb d_9_skipBlanks_33 ?_
      refine pf_9_32 cx hw (i := 64) (by decide) sx_64 rfl hL d_9_skipBlanks_34 (fun H locs hw hL => ?_)
      refine lv_goto (tgt := 0) hx hb d_9_skipBlanks_37 (by decide) ?_
      exact k0 _ _ _ _ _ h hw hL (lv_sub hl [0] rfl)
def wl_9_skipBlanks_0 (Q : hm_S → hm_T → Prop) : Nat → hm_S → hm_T → Prop
  | 0, _, _ => False
  | f + 1, S, T => wb_9_skipBlanks_0 Q (wl_9_skipBlanks_0 Q f) S T
theorem lp_9_skipBlanks_0 {Q : hm_S → hm_T → Prop} (cx : hm_cx G p s m args c prog_11_method_10_code 1 "HeapGames$Text") (hr : meth.sig.returnType = none) (hlk : meth.locks = false) : ∀ (f : Nat) (S : hm_S) (T : hm_T) (H : Heap) (locs : List Loc) (ls : Array Slot), wl_9_skipBlanks_0 Q f S T → hm_w G H0 o 74 shX S T H → hm_L o 74 locs → lv_has ls 1 [(0, .ref (o + 64))] → W p l e rm_9_skipBlanks s m args below meth c H locs 0 0 (MQ below (hm_Qv G H0 o 74 shX Q) args s 0 0 (t_fr o (o + 74))) (F0 m 0 ls []) := by
  intro f
  induction f with
  | zero => intro S T H locs ls h; exact h.elim
  | succ f ih => intro S T H locs ls h hw hL hl; exact bk_9_skipBlanks_0 cx hr hlk ih h hw hL hl
def wp_9_skipBlanks (S : hm_S) (T : hm_T) (Q : hm_S → hm_T → Prop) : Prop := ∃ f, wl_9_skipBlanks_0 Q f S T
set_option maxHeartbeats 4000000 in
set_option maxRecDepth 20000 in
theorem ct_9_skipBlanks {S : hm_S} {T : hm_T} {Q : hm_S → hm_T → Prop} (h : wp_9_skipBlanks S T Q) : hm_M l G H0 o 74 shX y_9_skipBlanks prog_11_method_10_code 1 (none) rm_9_skipBlanks S T [.ref (o + 64)] (hm_Qv G H0 o 74 shX Q) := by
  refine Met.ofW (cc := prog_11_method_10_code) (maxL := 1) (ret := none) (by decide) rfl ?_
  intro p e s m args below meth c s₁ B hml hv
  obtain ⟨rfl, hK, hw⟩ := hv
  have cx : hm_cx G p s m _ c prog_11_method_10_code 1 "HeapGames$Text" := ⟨⟨B.exec, B.bytes, hml, findClass_of_methodNamed B.named, fun w hq => atoms_spec (ws := hm_ws y_9_skipBlanks prog_11_method_10_code 1 (none)) B.pre w (List.mem_cons_of_mem _ hq)⟩, hK⟩
  have hl := lv_entry ([.ref (o + 64)]) (n := 1) (Nat.le_of_ble_eq_true rfl)
  rw [lg_entry_eq]
  generalize (lg_sl ([.ref (o + 64)]) ++ List.replicate (1 - (lg_sl ([.ref (o + 64)])).length) Slot.unset).toArray = ls at hl ⊢
  have hl : lv_has ls 1 [(0, .ref (o + 64))] := hl
  obtain ⟨f, h⟩ := h
  exact lp_9_skipBlanks_0 cx B.returns B.notSynchronized f _ _ _ _ _ h hw (hm_L0 _ _) hl
/-! ===== HeapGames$Text.startReading()V ===== -/
theorem d_9_startReading_0 : decode prog_11_method_5_code 0 = .ok (.aload_n 0, 1) := by decide +kernel
theorem d_9_startReading_1 : decode prog_11_method_5_code 1 = .ok (.iconst 0, 1) := by decide +kernel
theorem d_9_startReading_2 : decode prog_11_method_5_code 2 = .ok (.putfield 32, 3) := by decide +kernel
theorem d_9_startReading_5 : decode prog_11_method_5_code 5 = .ok (.aload_n 0, 1) := by decide +kernel
theorem d_9_startReading_6 : decode prog_11_method_5_code 6 = .ok (.invokevirtual 35, 3) := by decide +kernel
theorem d_9_startReading_9 : decode prog_11_method_5_code 9 = .ok (.return_, 1) := by decide +kernel
def wp_9_startReading (S : hm_S) (T : hm_T) (Q : hm_S → hm_T → Prop) : Prop :=
  wp_9_skipBlanks (hm_up S 64 2 0) T (fun S1 T1 => Q S1 T1)
set_option maxHeartbeats 4000000 in
set_option maxRecDepth 20000 in
theorem bk_9_startReading_0 {Q : hm_S → hm_T → Prop} (cx : hm_cx G p s m args c prog_11_method_5_code 1 "HeapGames$Text") (hr : meth.sig.returnType = none) (hlk : meth.locks = false) {S : hm_S} {T : hm_T} {H : Heap} {locs : List Loc} {ls : Array Slot} (h : wp_9_startReading S T Q) (hw : hm_w G H0 o 74 shX S T H) (hL : hm_L o 74 locs) (hl : lv_has ls 1 [(0, .ref (o + 64))]) : W p l e rm_9_startReading s m args below meth c H locs 0 0 (MQ below (hm_Qv G H0 o 74 shX Q) args s 0 0 (t_fr o (o + 74))) (F0 m 0 ls []) := by
  have hx := cx.1.1
  have hb := cx.1.2.1
  unfold wp_9_startReading at h
  refine lv_aload_n hx hb d_9_startReading_0 rfl (lv_at hl 0 rfl) ?_
  refine lv_iconst (v := 0) hx hb d_9_startReading_1 (by decide) ?_
  refine pf_9_32 cx hw (i := 64) (by decide) sx_64 rfl hL d_9_startReading_2 (fun H locs hw hL => ?_)
  refine lv_aload_n hx hb d_9_startReading_5 rfl (lv_at hl 0 rfl) ?_
  refine hm_callv (hm_rV (i := 64) (As := []) (rest := []) cx hw (ct_9_skipBlanks h) (mw_9_35 cx.1.2.2.2.2 ⟨Nat.le_of_ble_eq_true rfl, Nat.le_of_ble_eq_true rfl⟩) (by decide) sx_64 rfl rfl hl.1 rfl (Nat.le_of_ble_eq_true rfl) d_9_startReading_6 ⟨Nat.zero_le _, Nat.zero_le _⟩) hL (fun S1 T1 H locs h hw hL => ?_)
  exact W.vret hx hb hr (fun t ht _ => ⟨_, _, rfl, h, by rw [ht]; exact hw⟩) hL d_9_startReading_9
set_option maxHeartbeats 4000000 in
set_option maxRecDepth 20000 in
theorem ct_9_startReading {S : hm_S} {T : hm_T} {Q : hm_S → hm_T → Prop} (h : wp_9_startReading S T Q) : hm_M l G H0 o 74 shX y_9_startReading prog_11_method_5_code 1 (none) rm_9_startReading S T [.ref (o + 64)] (hm_Qv G H0 o 74 shX Q) := by
  refine Met.ofW (cc := prog_11_method_5_code) (maxL := 1) (ret := none) (by decide) rfl ?_
  intro p e s m args below meth c s₁ B hml hv
  obtain ⟨rfl, hK, hw⟩ := hv
  have cx : hm_cx G p s m _ c prog_11_method_5_code 1 "HeapGames$Text" := ⟨⟨B.exec, B.bytes, hml, findClass_of_methodNamed B.named, fun w hq => atoms_spec (ws := hm_ws y_9_startReading prog_11_method_5_code 1 (none)) B.pre w (List.mem_cons_of_mem _ hq)⟩, hK⟩
  have hl := lv_entry ([.ref (o + 64)]) (n := 1) (Nat.le_of_ble_eq_true rfl)
  rw [lg_entry_eq]
  generalize (lg_sl ([.ref (o + 64)]) ++ List.replicate (1 - (lg_sl ([.ref (o + 64)])).length) Slot.unset).toArray = ls at hl ⊢
  have hl : lv_has ls 1 [(0, .ref (o + 64))] := hl
  exact bk_9_startReading_0 cx B.returns B.notSynchronized h hw (hm_L0 _ _) hl
/-! ===== HeapGames$Text.next()I ===== -/
theorem d_9_next_0 : decode prog_11_method_6_code 0 = .ok (.aload_n 0, 1) := by decide +kernel
theorem d_9_next_1 : decode prog_11_method_6_code 1 = .ok (.aload_n 0, 1) := by decide +kernel
theorem d_9_next_2 : decode prog_11_method_6_code 2 = .ok (.getfield 32, 3) := by decide +kernel
theorem d_9_next_5 : decode prog_11_method_6_code 5 = .ok (.invokevirtual 38, 3) := by decide +kernel
theorem d_9_next_8 : decode prog_11_method_6_code 8 = .ok (.ireturn, 1) := by decide +kernel
def wp_9_next (S : hm_S) (T : hm_T) (Q : Int32 → hm_S → hm_T → Prop) : Prop :=
  wp_9_letterAt (S 64 2) S T (fun r1 S1 T1 => Q r1 S1 T1)
set_option maxHeartbeats 4000000 in
set_option maxRecDepth 20000 in
theorem bk_9_next_0 {Q : Int32 → hm_S → hm_T → Prop} (cx : hm_cx G p s m args c prog_11_method_6_code 1 "HeapGames$Text") (hr : meth.sig.returnType = some .int) (hlk : meth.locks = false) {S : hm_S} {T : hm_T} {H : Heap} {locs : List Loc} {ls : Array Slot} (h : wp_9_next S T Q) (hw : hm_w G H0 o 74 shX S T H) (hL : hm_L o 74 locs) (hl : lv_has ls 1 [(0, .ref (o + 64))]) : W p l e rm_9_next s m args below meth c H locs 0 0 (MQ below (hm_Qi G H0 o 74 shX Q) args s 0 0 (t_fr o (o + 74))) (F0 m 0 ls []) := by
  have hx := cx.1.1
  have hb := cx.1.2.1
  unfold wp_9_next at h
  refine lv_aload_n hx hb d_9_next_0 rfl (lv_at hl 0 rfl) ?_
  refine lv_aload_n hx hb d_9_next_1 rfl (lv_at hl 0 rfl) ?_
  refine gf_9_32 cx hw (i := 64) (by decide) sx_64 rfl d_9_next_2 ?_
  refine hm_calli (hm_rV (i := 64) (As := [.int (S 64 2)]) (rest := []) cx hw (ct_9_letterAt h) (mw_9_38 cx.1.2.2.2.2 ⟨Nat.le_of_ble_eq_true rfl, Nat.le_of_ble_eq_true rfl⟩) (by decide) sx_64 rfl rfl hl.1 rfl (Nat.le_of_ble_eq_true rfl) d_9_next_5 ⟨Nat.zero_le _, Nat.zero_le _⟩) hL (fun r1 S1 T1 H locs h hw hL => ?_)
  exact W.iret hx hb hr (fun t ht _ => ⟨_, _, _, rfl, h, by rw [ht]; exact hw⟩) hL d_9_next_8
set_option maxHeartbeats 4000000 in
set_option maxRecDepth 20000 in
theorem ct_9_next {S : hm_S} {T : hm_T} {Q : Int32 → hm_S → hm_T → Prop} (h : wp_9_next S T Q) : hm_M l G H0 o 74 shX y_9_next prog_11_method_6_code 1 (some .int) rm_9_next S T [.ref (o + 64)] (hm_Qi G H0 o 74 shX Q) := by
  refine Met.ofW (cc := prog_11_method_6_code) (maxL := 1) (ret := some .int) (by decide) rfl ?_
  intro p e s m args below meth c s₁ B hml hv
  obtain ⟨rfl, hK, hw⟩ := hv
  have cx : hm_cx G p s m _ c prog_11_method_6_code 1 "HeapGames$Text" := ⟨⟨B.exec, B.bytes, hml, findClass_of_methodNamed B.named, fun w hq => atoms_spec (ws := hm_ws y_9_next prog_11_method_6_code 1 (some .int)) B.pre w (List.mem_cons_of_mem _ hq)⟩, hK⟩
  have hl := lv_entry ([.ref (o + 64)]) (n := 1) (Nat.le_of_ble_eq_true rfl)
  rw [lg_entry_eq]
  generalize (lg_sl ([.ref (o + 64)]) ++ List.replicate (1 - (lg_sl ([.ref (o + 64)])).length) Slot.unset).toArray = ls at hl ⊢
  have hl : lv_has ls 1 [(0, .ref (o + 64))] := hl
  exact bk_9_next_0 cx B.returns B.notSynchronized h hw (hm_L0 _ _) hl
/-! ===== HeapGames$Text.nextDigit()I ===== -/
theorem d_9_nextDigit_0 : decode prog_11_method_7_code 0 = .ok (.aload_n 0, 1) := by decide +kernel
theorem d_9_nextDigit_1 : decode prog_11_method_7_code 1 = .ok (.invokevirtual 41, 3) := by decide +kernel
theorem d_9_nextDigit_4 : decode prog_11_method_7_code 4 = .ok (.bipush 48, 2) := by decide +kernel
theorem d_9_nextDigit_6 : decode prog_11_method_7_code 6 = .ok (.isub, 1) := by decide +kernel
theorem d_9_nextDigit_7 : decode prog_11_method_7_code 7 = .ok (.istore_n 1, 1) := by decide +kernel
theorem d_9_nextDigit_8 : decode prog_11_method_7_code 8 = .ok (.iload_n 1, 1) := by decide +kernel
theorem d_9_nextDigit_9 : decode prog_11_method_7_code 9 = .ok (.ifCond .lt 13, 3) := by decide +kernel
theorem d_9_nextDigit_12 : decode prog_11_method_7_code 12 = .ok (.iload_n 1, 1) := by decide +kernel
theorem d_9_nextDigit_13 : decode prog_11_method_7_code 13 = .ok (.bipush 9, 2) := by decide +kernel
theorem d_9_nextDigit_15 : decode prog_11_method_7_code 15 = .ok (.if_icmp .gt 7, 3) := by decide +kernel
theorem d_9_nextDigit_18 : decode prog_11_method_7_code 18 = .ok (.iload_n 1, 1) := by decide +kernel
theorem d_9_nextDigit_19 : decode prog_11_method_7_code 19 = .ok (.goto 4, 3) := by decide +kernel
theorem d_9_nextDigit_22 : decode prog_11_method_7_code 22 = .ok (.iconst (-1), 1) := by decide +kernel
theorem d_9_nextDigit_23 : decode prog_11_method_7_code 23 = .ok (.ireturn, 1) := by decide +kernel
def wp_9_nextDigit (S : hm_S) (T : hm_T) (Q : Int32 → hm_S → hm_T → Prop) : Prop :=
  wp_9_next S T (fun r1 S1 T1 => (if (r1 - 48) < 0 then Q (-1) S1 T1 else (if 9 < (r1 - 48) then Q (-1) S1 T1 else Q (r1 - 48) S1 T1)))
set_option maxHeartbeats 4000000 in
set_option maxRecDepth 20000 in
theorem bk_9_nextDigit_0 {Q : Int32 → hm_S → hm_T → Prop} (cx : hm_cx G p s m args c prog_11_method_7_code 2 "HeapGames$Text") (hr : meth.sig.returnType = some .int) (hlk : meth.locks = false) {S : hm_S} {T : hm_T} {H : Heap} {locs : List Loc} {ls : Array Slot} (h : wp_9_nextDigit S T Q) (hw : hm_w G H0 o 74 shX S T H) (hL : hm_L o 74 locs) (hl : lv_has ls 2 [(0, .ref (o + 64))]) : W p l e rm_9_nextDigit s m args below meth c H locs 0 0 (MQ below (hm_Qi G H0 o 74 shX Q) args s 0 0 (t_fr o (o + 74))) (F0 m 0 ls []) := by
  have hx := cx.1.1
  have hb := cx.1.2.1
  unfold wp_9_nextDigit at h
  refine lv_aload_n hx hb d_9_nextDigit_0 rfl (lv_at hl 0 rfl) ?_
  refine hm_calli (hm_rV (i := 64) (As := []) (rest := []) cx hw (ct_9_next h) (mw_9_41 cx.1.2.2.2.2 ⟨Nat.le_of_ble_eq_true rfl, Nat.le_of_ble_eq_true rfl⟩) (by decide) sx_64 rfl rfl hl.1 rfl (Nat.le_of_ble_eq_true rfl) d_9_nextDigit_1 ⟨Nat.zero_le _, Nat.zero_le _⟩) hL (fun r1 S1 T1 H locs h hw hL => ?_)
  refine lv_bipush (v := 48) hx hb d_9_nextDigit_4 (by decide) ?_
  refine lv_isub hx hb d_9_nextDigit_6 ?_
  refine lv_istore_n (lv' := [(1, .int (r1 - 48)), (0, .ref (o + 64))]) hx hb d_9_nextDigit_7 rfl hl (by decide) rfl (fun ls hl => ?_)
  refine lv_iload_n hx hb d_9_nextDigit_8 rfl (lv_at hl 0 rfl) ?_
  refine lv_if_lt (tgt := 22) hx hb d_9_nextDigit_9 (by decide) (fun hc => ?_) (fun hc => ?_)
  · replace h := hm_pos hc h
    refine lv_iconst (v := (-1)) hx hb d_9_nextDigit_22 (by decide) ?_
    exact W.iret hx hb hr (fun t ht _ => ⟨_, _, _, rfl, h, by rw [ht]; exact hw⟩) hL d_9_nextDigit_23
  · replace h := hm_neg hc h
    refine lv_iload_n hx hb d_9_nextDigit_12 rfl (lv_at hl 0 rfl) ?_
    refine lv_bipush (v := 9) hx hb d_9_nextDigit_13 (by decide) ?_
    refine lv_icmp_gt (tgt := 22) hx hb d_9_nextDigit_15 (by decide) (fun hc => ?_) (fun hc => ?_)
    · replace h := hm_pos hc h
      refine lv_iconst (v := (-1)) hx hb d_9_nextDigit_22 (by decide) ?_
      exact W.iret hx hb hr (fun t ht _ => ⟨_, _, _, rfl, h, by rw [ht]; exact hw⟩) hL d_9_nextDigit_23
    · replace h := hm_neg hc h
      refine lv_iload_n hx hb d_9_nextDigit_18 rfl (lv_at hl 0 rfl) ?_
      refine lv_goto (tgt := 23) hx hb d_9_nextDigit_19 (by decide) ?_
      exact W.iret hx hb hr (fun t ht _ => ⟨_, _, _, rfl, h, by rw [ht]; exact hw⟩) hL d_9_nextDigit_23
set_option maxHeartbeats 4000000 in
set_option maxRecDepth 20000 in
theorem ct_9_nextDigit {S : hm_S} {T : hm_T} {Q : Int32 → hm_S → hm_T → Prop} (h : wp_9_nextDigit S T Q) : hm_M l G H0 o 74 shX y_9_nextDigit prog_11_method_7_code 2 (some .int) rm_9_nextDigit S T [.ref (o + 64)] (hm_Qi G H0 o 74 shX Q) := by
  refine Met.ofW (cc := prog_11_method_7_code) (maxL := 2) (ret := some .int) (by decide) rfl ?_
  intro p e s m args below meth c s₁ B hml hv
  obtain ⟨rfl, hK, hw⟩ := hv
  have cx : hm_cx G p s m _ c prog_11_method_7_code 2 "HeapGames$Text" := ⟨⟨B.exec, B.bytes, hml, findClass_of_methodNamed B.named, fun w hq => atoms_spec (ws := hm_ws y_9_nextDigit prog_11_method_7_code 2 (some .int)) B.pre w (List.mem_cons_of_mem _ hq)⟩, hK⟩
  have hl := lv_entry ([.ref (o + 64)]) (n := 2) (Nat.le_of_ble_eq_true rfl)
  rw [lg_entry_eq]
  generalize (lg_sl ([.ref (o + 64)]) ++ List.replicate (2 - (lg_sl ([.ref (o + 64)])).length) Slot.unset).toArray = ls at hl ⊢
  have hl : lv_has ls 2 [(0, .ref (o + 64))] := hl
  exact bk_9_nextDigit_0 cx B.returns B.notSynchronized h hw (hm_L0 _ _) hl
/-! ===== HeapGames$Text.isNextSmallLetter()Z ===== -/
theorem d_9_isNextSmallLetter_0 : decode prog_11_method_8_code 0 = .ok (.aload_n 0, 1) := by decide +kernel
theorem d_9_isNextSmallLetter_1 : decode prog_11_method_8_code 1 = .ok (.invokevirtual 41, 3) := by decide +kernel
theorem d_9_isNextSmallLetter_4 : decode prog_11_method_8_code 4 = .ok (.bipush 97, 2) := by decide +kernel
theorem d_9_isNextSmallLetter_6 : decode prog_11_method_8_code 6 = .ok (.if_icmp .lt 16, 3) := by decide +kernel
theorem d_9_isNextSmallLetter_9 : decode prog_11_method_8_code 9 = .ok (.aload_n 0, 1) := by decide +kernel
theorem d_9_isNextSmallLetter_10 : decode prog_11_method_8_code 10 = .ok (.invokevirtual 41, 3) := by decide +kernel
theorem d_9_isNextSmallLetter_13 : decode prog_11_method_8_code 13 = .ok (.bipush 122, 2) := by decide +kernel
theorem d_9_isNextSmallLetter_15 : decode prog_11_method_8_code 15 = .ok (.if_icmp .gt 7, 3) := by decide +kernel
theorem d_9_isNextSmallLetter_18 : decode prog_11_method_8_code 18 = .ok (.iconst 1, 1) := by decide +kernel
theorem d_9_isNextSmallLetter_19 : decode prog_11_method_8_code 19 = .ok (.goto 4, 3) := by decide +kernel
theorem d_9_isNextSmallLetter_22 : decode prog_11_method_8_code 22 = .ok (.iconst 0, 1) := by decide +kernel
theorem d_9_isNextSmallLetter_23 : decode prog_11_method_8_code 23 = .ok (.ireturn, 1) := by decide +kernel
def wp_9_isNextSmallLetter (S : hm_S) (T : hm_T) (Q : Int32 → hm_S → hm_T → Prop) : Prop :=
  wp_9_next S T (fun r1 S1 T1 => (if r1 < 97 then Q 0 S1 T1 else wp_9_next S1 T1 (fun r2 S2 T2 => (if 122 < r2 then Q 0 S2 T2 else Q 1 S2 T2))))
set_option maxHeartbeats 4000000 in
set_option maxRecDepth 20000 in
theorem bk_9_isNextSmallLetter_0 {Q : Int32 → hm_S → hm_T → Prop} (cx : hm_cx G p s m args c prog_11_method_8_code 1 "HeapGames$Text") (hr : meth.sig.returnType = some .boolean) (hlk : meth.locks = false) {S : hm_S} {T : hm_T} {H : Heap} {locs : List Loc} {ls : Array Slot} (h : wp_9_isNextSmallLetter S T Q) (hw : hm_w G H0 o 74 shX S T H) (hL : hm_L o 74 locs) (hl : lv_has ls 1 [(0, .ref (o + 64))]) : W p l e rm_9_isNextSmallLetter s m args below meth c H locs 0 0 (MQ below (hm_Qi G H0 o 74 shX Q) args s 0 0 (t_fr o (o + 74))) (F0 m 0 ls []) := by
  have hx := cx.1.1
  have hb := cx.1.2.1
  unfold wp_9_isNextSmallLetter at h
  refine lv_aload_n hx hb d_9_isNextSmallLetter_0 rfl (lv_at hl 0 rfl) ?_
  refine hm_calli (hm_rV (i := 64) (As := []) (rest := []) cx hw (ct_9_next h) (mw_9_41 cx.1.2.2.2.2 ⟨Nat.le_of_ble_eq_true rfl, Nat.le_of_ble_eq_true rfl⟩) (by decide) sx_64 rfl rfl hl.1 rfl (Nat.le_of_ble_eq_true rfl) d_9_isNextSmallLetter_1 ⟨Nat.zero_le _, Nat.zero_le _⟩) hL (fun r1 S1 T1 H locs h hw hL => ?_)
  refine lv_bipush (v := 97) hx hb d_9_isNextSmallLetter_4 (by decide) ?_
  refine lv_icmp_lt (tgt := 22) hx hb d_9_isNextSmallLetter_6 (by decide) (fun hc => ?_) (fun hc => ?_)
  · replace h := hm_pos hc h
    refine lv_iconst (v := 0) hx hb d_9_isNextSmallLetter_22 (by decide) ?_
    exact W.zret hx hb hr rfl (fun t ht _ => ⟨_, _, _, rfl, h, by rw [ht]; exact hw⟩) hL d_9_isNextSmallLetter_23
  · replace h := hm_neg hc h
    refine lv_aload_n hx hb d_9_isNextSmallLetter_9 rfl (lv_at hl 0 rfl) ?_
    refine hm_calli (hm_rV (i := 64) (As := []) (rest := []) cx hw (ct_9_next h) (mw_9_41 cx.1.2.2.2.2 ⟨Nat.le_of_ble_eq_true rfl, Nat.le_of_ble_eq_true rfl⟩) (by decide) sx_64 rfl rfl hl.1 rfl (Nat.le_of_ble_eq_true rfl) d_9_isNextSmallLetter_10 ⟨Nat.zero_le _, Nat.zero_le _⟩) hL (fun r2 S2 T2 H locs h hw hL => ?_)
    refine lv_bipush (v := 122) hx hb d_9_isNextSmallLetter_13 (by decide) ?_
    refine lv_icmp_gt (tgt := 22) hx hb d_9_isNextSmallLetter_15 (by decide) (fun hc => ?_) (fun hc => ?_)
    · replace h := hm_pos hc h
      refine lv_iconst (v := 0) hx hb d_9_isNextSmallLetter_22 (by decide) ?_
      exact W.zret hx hb hr rfl (fun t ht _ => ⟨_, _, _, rfl, h, by rw [ht]; exact hw⟩) hL d_9_isNextSmallLetter_23
    · replace h := hm_neg hc h
      refine lv_iconst (v := 1) hx hb d_9_isNextSmallLetter_18 (by decide) ?_
      refine lv_goto (tgt := 23) hx hb d_9_isNextSmallLetter_19 (by decide) ?_
      exact W.zret hx hb hr rfl (fun t ht _ => ⟨_, _, _, rfl, h, by rw [ht]; exact hw⟩) hL d_9_isNextSmallLetter_23
set_option maxHeartbeats 4000000 in
set_option maxRecDepth 20000 in
theorem ct_9_isNextSmallLetter {S : hm_S} {T : hm_T} {Q : Int32 → hm_S → hm_T → Prop} (h : wp_9_isNextSmallLetter S T Q) : hm_M l G H0 o 74 shX y_9_isNextSmallLetter prog_11_method_8_code 1 (some .boolean) rm_9_isNextSmallLetter S T [.ref (o + 64)] (hm_Qi G H0 o 74 shX Q) := by
  refine Met.ofW (cc := prog_11_method_8_code) (maxL := 1) (ret := some .boolean) (by decide) rfl ?_
  intro p e s m args below meth c s₁ B hml hv
  obtain ⟨rfl, hK, hw⟩ := hv
  have cx : hm_cx G p s m _ c prog_11_method_8_code 1 "HeapGames$Text" := ⟨⟨B.exec, B.bytes, hml, findClass_of_methodNamed B.named, fun w hq => atoms_spec (ws := hm_ws y_9_isNextSmallLetter prog_11_method_8_code 1 (some .boolean)) B.pre w (List.mem_cons_of_mem _ hq)⟩, hK⟩
  have hl := lv_entry ([.ref (o + 64)]) (n := 1) (Nat.le_of_ble_eq_true rfl)
  rw [lg_entry_eq]
  generalize (lg_sl ([.ref (o + 64)]) ++ List.replicate (1 - (lg_sl ([.ref (o + 64)])).length) Slot.unset).toArray = ls at hl ⊢
  have hl : lv_has ls 1 [(0, .ref (o + 64))] := hl
  exact bk_9_isNextSmallLetter_0 cx B.returns B.notSynchronized h hw (hm_L0 _ _) hl
/-! ===== HeapGames$Text.takeSign(I)Z ===== -/
theorem d_9_takeSign_0 : decode prog_11_method_9_code 0 = .ok (.aload_n 0, 1) := by decide +kernel
theorem d_9_takeSign_1 : decode prog_11_method_9_code 1 = .ok (.invokevirtual 41, 3) := by decide +kernel
theorem d_9_takeSign_4 : decode prog_11_method_9_code 4 = .ok (.iload_n 1, 1) := by decide +kernel
theorem d_9_takeSign_5 : decode prog_11_method_9_code 5 = .ok (.if_icmp .eq 5, 3) := by decide +kernel
theorem d_9_takeSign_8 : decode prog_11_method_9_code 8 = .ok (.iconst 0, 1) := by decide +kernel
theorem d_9_takeSign_9 : decode prog_11_method_9_code 9 = .ok (.ireturn, 1) := by decide +kernel
theorem d_9_takeSign_10 : decode prog_11_method_9_code 10 = .ok (.aload_n 0, 1) := by decide +kernel
theorem d_9_takeSign_11 : decode prog_11_method_9_code 11 = .ok (.dup, 1) := by decide +kernel
theorem d_9_takeSign_12 : decode prog_11_method_9_code 12 = .ok (.getfield 32, 3) := by decide +kernel
theorem d_9_takeSign_15 : decode prog_11_method_9_code 15 = .ok (.iconst 1, 1) := by decide +kernel
theorem d_9_takeSign_16 : decode prog_11_method_9_code 16 = .ok (.iadd, 1) := by decide +kernel
theorem d_9_takeSign_17 : decode prog_11_method_9_code 17 = .ok (.putfield 32, 3) := by decide +kernel
theorem d_9_takeSign_20 : decode prog_11_method_9_code 20 = .ok (.aload_n 0, 1) := by decide +kernel
theorem d_9_takeSign_21 : decode prog_11_method_9_code 21 = .ok (.invokevirtual 35, 3) := by decide +kernel
theorem d_9_takeSign_24 : decode prog_11_method_9_code 24 = .ok (.iconst 1, 1) := by decide +kernel
theorem d_9_takeSign_25 : decode prog_11_method_9_code 25 = .ok (.ireturn, 1) := by decide +kernel
def wp_9_takeSign (x1 : Int32) (S : hm_S) (T : hm_T) (Q : Int32 → hm_S → hm_T → Prop) : Prop :=
  wp_9_next S T (fun r1 S1 T1 => (if r1 = x1 then wp_9_skipBlanks (hm_up S1 64 2 ((S1 64 2) + 1)) T1 (fun S2 T2 => Q 1 S2 T2) else Q 0 S1 T1))
set_option maxHeartbeats 4000000 in
set_option maxRecDepth 20000 in
theorem bk_9_takeSign_0 {Q : Int32 → hm_S → hm_T → Prop} (cx : hm_cx G p s m args c prog_11_method_9_code 2 "HeapGames$Text") (hr : meth.sig.returnType = some .boolean) (hlk : meth.locks = false) {x1 : Int32} {S : hm_S} {T : hm_T} {H : Heap} {locs : List Loc} {ls : Array Slot} (h : wp_9_takeSign x1 S T Q) (hw : hm_w G H0 o 74 shX S T H) (hL : hm_L o 74 locs) (hl : lv_has ls 2 [(0, .ref (o + 64)), (1, .int x1)]) : W p l e rm_9_takeSign s m args below meth c H locs 0 0 (MQ below (hm_Qi G H0 o 74 shX Q) args s 0 0 (t_fr o (o + 74))) (F0 m 0 ls []) := by
  have hx := cx.1.1
  have hb := cx.1.2.1
  unfold wp_9_takeSign at h
  refine lv_aload_n hx hb d_9_takeSign_0 rfl (lv_at hl 0 rfl) ?_
  refine hm_calli (hm_rV (i := 64) (As := []) (rest := []) cx hw (ct_9_next h) (mw_9_41 cx.1.2.2.2.2 ⟨Nat.le_of_ble_eq_true rfl, Nat.le_of_ble_eq_true rfl⟩) (by decide) sx_64 rfl rfl hl.1 rfl (Nat.le_of_ble_eq_true rfl) d_9_takeSign_1 ⟨Nat.zero_le _, Nat.zero_le _⟩) hL (fun r1 S1 T1 H locs h hw hL => ?_)
  refine lv_iload_n hx hb d_9_takeSign_4 rfl (lv_at hl 1 rfl) ?_
  refine lv_icmp_eq (tgt := 10) hx hb d_9_takeSign_5 (by decide) (fun hc => ?_) (fun hc => ?_)
  · replace h := hm_pos hc h
    refine lv_aload_n hx hb d_9_takeSign_10 rfl (lv_at hl 0 rfl) ?_
    refine lv_dup hx hb d_9_takeSign_11 rfl ?_
    refine gf_9_32 cx hw (i := 64) (by decide) sx_64 rfl d_9_takeSign_12 ?_
    refine lv_iconst (v := 1) hx hb d_9_takeSign_15 (by decide) ?_
    refine lv_iadd hx hb d_9_takeSign_16 ?_
    refine pf_9_32 cx hw (i := 64) (by decide) sx_64 rfl hL d_9_takeSign_17 (fun H locs hw hL => ?_)
    refine lv_aload_n hx hb d_9_takeSign_20 rfl (lv_at hl 0 rfl) ?_
    refine hm_callv (hm_rV (i := 64) (As := []) (rest := []) cx hw (ct_9_skipBlanks h) (mw_9_35 cx.1.2.2.2.2 ⟨Nat.le_of_ble_eq_true rfl, Nat.le_of_ble_eq_true rfl⟩) (by decide) sx_64 rfl rfl hl.1 rfl (Nat.le_of_ble_eq_true rfl) d_9_takeSign_21 ⟨Nat.zero_le _, Nat.zero_le _⟩) hL (fun S2 T2 H locs h hw hL => ?_)
    refine lv_iconst (v := 1) hx hb d_9_takeSign_24 (by decide) ?_
    exact W.zret hx hb hr rfl (fun t ht _ => ⟨_, _, _, rfl, h, by rw [ht]; exact hw⟩) hL d_9_takeSign_25
  · replace h := hm_neg hc h
    refine lv_iconst (v := 0) hx hb d_9_takeSign_8 (by decide) ?_
    exact W.zret hx hb hr rfl (fun t ht _ => ⟨_, _, _, rfl, h, by rw [ht]; exact hw⟩) hL d_9_takeSign_9
set_option maxHeartbeats 4000000 in
set_option maxRecDepth 20000 in
theorem ct_9_takeSign {x1 : Int32} {S : hm_S} {T : hm_T} {Q : Int32 → hm_S → hm_T → Prop} (h : wp_9_takeSign x1 S T Q) : hm_M l G H0 o 74 shX y_9_takeSign prog_11_method_9_code 2 (some .boolean) rm_9_takeSign S T [.ref (o + 64), .int x1] (hm_Qi G H0 o 74 shX Q) := by
  refine Met.ofW (cc := prog_11_method_9_code) (maxL := 2) (ret := some .boolean) (by decide) rfl ?_
  intro p e s m args below meth c s₁ B hml hv
  obtain ⟨rfl, hK, hw⟩ := hv
  have cx : hm_cx G p s m _ c prog_11_method_9_code 2 "HeapGames$Text" := ⟨⟨B.exec, B.bytes, hml, findClass_of_methodNamed B.named, fun w hq => atoms_spec (ws := hm_ws y_9_takeSign prog_11_method_9_code 2 (some .boolean)) B.pre w (List.mem_cons_of_mem _ hq)⟩, hK⟩
  have hl := lv_entry ([.ref (o + 64), .int x1]) (n := 2) (Nat.le_of_ble_eq_true rfl)
  rw [lg_entry_eq]
  generalize (lg_sl ([.ref (o + 64), .int x1]) ++ List.replicate (2 - (lg_sl ([.ref (o + 64), .int x1])).length) Slot.unset).toArray = ls at hl ⊢
  have hl : lv_has ls 2 [(0, .ref (o + 64)), (1, .int x1)] := hl
  exact bk_9_takeSign_0 cx B.returns B.notSynchronized h hw (hm_L0 _ _) hl
/-! ===== HeapGames$Text.faultOfRest()I ===== -/
theorem d_9_faultOfRest_0 : decode prog_11_method_11_code 0 = .ok (.aload_n 0, 1) := by decide +kernel
theorem d_9_faultOfRest_1 : decode prog_11_method_11_code 1 = .ok (.invokevirtual 35, 3) := by decide +kernel
theorem d_9_faultOfRest_4 : decode prog_11_method_11_code 4 = .ok (.aload_n 0, 1) := by decide +kernel
theorem d_9_faultOfRest_5 : decode prog_11_method_11_code 5 = .ok (.getfield 32, 3) := by decide +kernel
theorem d_9_faultOfRest_8 : decode prog_11_method_11_code 8 = .ok (.aload_n 0, 1) := by decide +kernel
theorem d_9_faultOfRest_9 : decode prog_11_method_11_code 9 = .ok (.getfield 20, 3) := by decide +kernel
theorem d_9_faultOfRest_12 : decode prog_11_method_11_code 12 = .ok (.if_icmp .ge 10, 3) := by decide +kernel
theorem d_9_faultOfRest_15 : decode prog_11_method_11_code 15 = .ok (.aload_n 0, 1) := by decide +kernel
theorem d_9_faultOfRest_16 : decode prog_11_method_11_code 16 = .ok (.getfield 32, 3) := by decide +kernel
theorem d_9_faultOfRest_19 : decode prog_11_method_11_code 19 = .ok (.goto 4, 3) := by decide +kernel
theorem d_9_faultOfRest_22 : decode prog_11_method_11_code 22 = .ok (.iconst (-1), 1) := by decide +kernel
theorem d_9_faultOfRest_23 : decode prog_11_method_11_code 23 = .ok (.ireturn, 1) := by decide +kernel
def wp_9_faultOfRest (S : hm_S) (T : hm_T) (Q : Int32 → hm_S → hm_T → Prop) : Prop :=
  wp_9_skipBlanks S T (fun S1 T1 => (if (S1 64 1) ≤ (S1 64 2) then Q (-1) S1 T1 else Q (S1 64 2) S1 T1))
set_option maxHeartbeats 4000000 in
set_option maxRecDepth 20000 in
theorem bk_9_faultOfRest_0 {Q : Int32 → hm_S → hm_T → Prop} (cx : hm_cx G p s m args c prog_11_method_11_code 1 "HeapGames$Text") (hr : meth.sig.returnType = some .int) (hlk : meth.locks = false) {S : hm_S} {T : hm_T} {H : Heap} {locs : List Loc} {ls : Array Slot} (h : wp_9_faultOfRest S T Q) (hw : hm_w G H0 o 74 shX S T H) (hL : hm_L o 74 locs) (hl : lv_has ls 1 [(0, .ref (o + 64))]) : W p l e rm_9_faultOfRest s m args below meth c H locs 0 0 (MQ below (hm_Qi G H0 o 74 shX Q) args s 0 0 (t_fr o (o + 74))) (F0 m 0 ls []) := by
  have hx := cx.1.1
  have hb := cx.1.2.1
  unfold wp_9_faultOfRest at h
  refine lv_aload_n hx hb d_9_faultOfRest_0 rfl (lv_at hl 0 rfl) ?_
  refine hm_callv (hm_rV (i := 64) (As := []) (rest := []) cx hw (ct_9_skipBlanks h) (mw_9_35 cx.1.2.2.2.2 ⟨Nat.le_of_ble_eq_true rfl, Nat.le_of_ble_eq_true rfl⟩) (by decide) sx_64 rfl rfl hl.1 rfl (Nat.le_of_ble_eq_true rfl) d_9_faultOfRest_1 ⟨Nat.zero_le _, Nat.zero_le _⟩) hL (fun S1 T1 H locs h hw hL => ?_)
  refine lv_aload_n hx hb d_9_faultOfRest_4 rfl (lv_at hl 0 rfl) ?_
  refine gf_9_32 cx hw (i := 64) (by decide) sx_64 rfl d_9_faultOfRest_5 ?_
  refine lv_aload_n hx hb d_9_faultOfRest_8 rfl (lv_at hl 0 rfl) ?_
  refine gf_9_20 cx hw (i := 64) (by decide) sx_64 rfl d_9_faultOfRest_9 ?_
  refine lv_icmp_ge (tgt := 22) hx hb d_9_faultOfRest_12 (by decide) (fun hc => ?_) (fun hc => ?_)
  · replace h := hm_pos hc h
    refine lv_iconst (v := (-1)) hx hb d_9_faultOfRest_22 (by decide) ?_
    exact W.iret hx hb hr (fun t ht _ => ⟨_, _, _, rfl, h, by rw [ht]; exact hw⟩) hL d_9_faultOfRest_23
  · replace h := hm_neg hc h
    refine lv_aload_n hx hb d_9_faultOfRest_15 rfl (lv_at hl 0 rfl) ?_
    refine gf_9_32 cx hw (i := 64) (by decide) sx_64 rfl d_9_faultOfRest_16 ?_
    refine lv_goto (tgt := 23) hx hb d_9_faultOfRest_19 (by decide) ?_
    exact W.iret hx hb hr (fun t ht _ => ⟨_, _, _, rfl, h, by rw [ht]; exact hw⟩) hL d_9_faultOfRest_23
set_option maxHeartbeats 4000000 in
set_option maxRecDepth 20000 in
theorem ct_9_faultOfRest {S : hm_S} {T : hm_T} {Q : Int32 → hm_S → hm_T → Prop} (h : wp_9_faultOfRest S T Q) : hm_M l G H0 o 74 shX y_9_faultOfRest prog_11_method_11_code 1 (some .int) rm_9_faultOfRest S T [.ref (o + 64)] (hm_Qi G H0 o 74 shX Q) := by
  refine Met.ofW (cc := prog_11_method_11_code) (maxL := 1) (ret := some .int) (by decide) rfl ?_
  intro p e s m args below meth c s₁ B hml hv
  obtain ⟨rfl, hK, hw⟩ := hv
  have cx : hm_cx G p s m _ c prog_11_method_11_code 1 "HeapGames$Text" := ⟨⟨B.exec, B.bytes, hml, findClass_of_methodNamed B.named, fun w hq => atoms_spec (ws := hm_ws y_9_faultOfRest prog_11_method_11_code 1 (some .int)) B.pre w (List.mem_cons_of_mem _ hq)⟩, hK⟩
  have hl := lv_entry ([.ref (o + 64)]) (n := 1) (Nat.le_of_ble_eq_true rfl)
  rw [lg_entry_eq]
  generalize (lg_sl ([.ref (o + 64)]) ++ List.replicate (1 - (lg_sl ([.ref (o + 64)])).length) Slot.unset).toArray = ls at hl ⊢
  have hl : lv_has ls 1 [(0, .ref (o + 64))] := hl
  exact bk_9_faultOfRest_0 cx B.returns B.notSynchronized h hw (hm_L0 _ _) hl
/-! ===== HeapGames$RulesReader.digitOf(I)I ===== -/
theorem d_7_digitOf_0 : decode prog_9_method_2_code 0 = .ok (.aload_n 0, 1) := by decide +kernel
theorem d_7_digitOf_1 : decode prog_9_method_2_code 1 = .ok (.getfield 14, 3) := by decide +kernel
theorem d_7_digitOf_4 : decode prog_9_method_2_code 4 = .ok (.iload_n 1, 1) := by decide +kernel
theorem d_7_digitOf_5 : decode prog_9_method_2_code 5 = .ok (.invokevirtual 20, 3) := by decide +kernel
theorem d_7_digitOf_8 : decode prog_9_method_2_code 8 = .ok (.ireturn, 1) := by decide +kernel
def wp_7_digitOf (x1 : Int32) (S : hm_S) (T : hm_T) (Q : Int32 → hm_S → hm_T → Prop) : Prop :=
  wp_5_get 68 11 x1 S T (fun r1 S1 T1 => Q r1 S1 T1)
set_option maxHeartbeats 4000000 in
set_option maxRecDepth 20000 in
theorem bk_7_digitOf_0 {Q : Int32 → hm_S → hm_T → Prop} (cx : hm_cx G p s m args c prog_9_method_2_code 2 "HeapGames$RulesReader") (hr : meth.sig.returnType = some .int) (hlk : meth.locks = false) {x1 : Int32} {S : hm_S} {T : hm_T} {H : Heap} {locs : List Loc} {ls : Array Slot} (h : wp_7_digitOf x1 S T Q) (hw : hm_w G H0 o 74 shX S T H) (hL : hm_L o 74 locs) (hl : lv_has ls 2 [(0, .ref (o + 67)), (1, .int x1)]) : W p l e rm_7_digitOf s m args below meth c H locs 0 0 (MQ below (hm_Qi G H0 o 74 shX Q) args s 0 0 (t_fr o (o + 74))) (F0 m 0 ls []) := by
  have hx := cx.1.1
  have hb := cx.1.2.1
  unfold wp_7_digitOf at h
  refine lv_aload_n hx hb d_7_digitOf_0 rfl (lv_at hl 0 rfl) ?_
  refine gf_7_14 cx hw (i := 67) (r := 68) (by decide) sx_67 rfl d_7_digitOf_1 ?_
  refine lv_iload_n hx hb d_7_digitOf_4 rfl (lv_at hl 1 rfl) ?_
  refine hm_calli (hm_rV (i := 68) (As := [.int x1]) (rest := []) cx hw (ct_5_get (by decide) sx_68 sx_69 h) (mw_7_20 cx.1.2.2.2.2 ⟨Nat.le_of_ble_eq_true rfl, Nat.le_of_ble_eq_true rfl⟩) (by decide) sx_68 rfl rfl hl.1 rfl (Nat.le_of_ble_eq_true rfl) d_7_digitOf_5 ⟨Nat.zero_le _, Nat.zero_le _⟩) hL (fun r1 S1 T1 H locs h hw hL => ?_)
  exact W.iret hx hb hr (fun t ht _ => ⟨_, _, _, rfl, h, by rw [ht]; exact hw⟩) hL d_7_digitOf_8
set_option maxHeartbeats 4000000 in
set_option maxRecDepth 20000 in
theorem ct_7_digitOf {x1 : Int32} {S : hm_S} {T : hm_T} {Q : Int32 → hm_S → hm_T → Prop} (h : wp_7_digitOf x1 S T Q) : hm_M l G H0 o 74 shX y_7_digitOf prog_9_method_2_code 2 (some .int) rm_7_digitOf S T [.ref (o + 67), .int x1] (hm_Qi G H0 o 74 shX Q) := by
  refine Met.ofW (cc := prog_9_method_2_code) (maxL := 2) (ret := some .int) (by decide) rfl ?_
  intro p e s m args below meth c s₁ B hml hv
  obtain ⟨rfl, hK, hw⟩ := hv
  have cx : hm_cx G p s m _ c prog_9_method_2_code 2 "HeapGames$RulesReader" := ⟨⟨B.exec, B.bytes, hml, findClass_of_methodNamed B.named, fun w hq => atoms_spec (ws := hm_ws y_7_digitOf prog_9_method_2_code 2 (some .int)) B.pre w (List.mem_cons_of_mem _ hq)⟩, hK⟩
  have hl := lv_entry ([.ref (o + 67), .int x1]) (n := 2) (Nat.le_of_ble_eq_true rfl)
  rw [lg_entry_eq]
  generalize (lg_sl ([.ref (o + 67), .int x1]) ++ List.replicate (2 - (lg_sl ([.ref (o + 67), .int x1])).length) Slot.unset).toArray = ls at hl ⊢
  have hl : lv_has ls 2 [(0, .ref (o + 67)), (1, .int x1)] := hl
  exact bk_7_digitOf_0 cx B.returns B.notSynchronized h hw (hm_L0 _ _) hl
/-! ===== HeapGames$RulesReader.readOctals(LHeapGames$Text;)I ===== -/
theorem d_7_readOctals_0 : decode prog_9_method_6_code 0 = .ok (.aload_n 1, 1) := by decide +kernel
theorem d_7_readOctals_1 : decode prog_9_method_6_code 1 = .ok (.invokevirtual 95, 3) := by decide +kernel
theorem d_7_readOctals_4 : decode prog_9_method_6_code 4 = .ok (.bipush 46, 2) := by decide +kernel
theorem d_7_readOctals_6 : decode prog_9_method_6_code 6 = .ok (.if_icmp .eq 8, 3) := by decide +kernel
theorem d_7_readOctals_9 : decode prog_9_method_6_code 9 = .ok (.aload_n 1, 1) := by decide +kernel
theorem d_7_readOctals_10 : decode prog_9_method_6_code 10 = .ok (.getfield 47, 3) := by decide +kernel
theorem d_7_readOctals_13 : decode prog_9_method_6_code 13 = .ok (.ireturn, 1) := by decide +kernel
theorem d_7_readOctals_14 : decode prog_9_method_6_code 14 = .ok (.aload_n 1, 1) := by decide +kernel
theorem d_7_readOctals_15 : decode prog_9_method_6_code 15 = .ok (.dup, 1) := by decide +kernel
theorem d_7_readOctals_16 : decode prog_9_method_6_code 16 = .ok (.getfield 47, 3) := by decide +kernel
theorem d_7_readOctals_19 : decode prog_9_method_6_code 19 = .ok (.iconst 1, 1) := by decide +kernel
theorem d_7_readOctals_20 : decode prog_9_method_6_code 20 = .ok (.iadd, 1) := by decide +kernel
theorem d_7_readOctals_21 : decode prog_9_method_6_code 21 = .ok (.putfield 47, 3) := by decide +kernel
theorem d_7_readOctals_24 : decode prog_9_method_6_code 24 = .ok (.aload_n 1, 1) := by decide +kernel
theorem d_7_readOctals_25 : decode prog_9_method_6_code 25 = .ok (.getfield 47, 3) := by decide +kernel
theorem d_7_readOctals_28 : decode prog_9_method_6_code 28 = .ok (.istore_n 2, 1) := by decide +kernel
theorem d_7_readOctals_29 : decode prog_9_method_6_code 29 = .ok (.iconst 1, 1) := by decide +kernel
theorem d_7_readOctals_30 : decode prog_9_method_6_code 30 = .ok (.istore_n 3, 1) := by decide +kernel
theorem d_7_readOctals_31 : decode prog_9_method_6_code 31 = .ok (.iload_n 3, 1) := by decide +kernel
theorem d_7_readOctals_32 : decode prog_9_method_6_code 32 = .ok (.bipush 10, 2) := by decide +kernel
theorem d_7_readOctals_34 : decode prog_9_method_6_code 34 = .ok (.if_icmp .gt 51, 3) := by decide +kernel
theorem d_7_readOctals_37 : decode prog_9_method_6_code 37 = .ok (.aload_n 1, 1) := by decide +kernel
theorem d_7_readOctals_38 : decode prog_9_method_6_code 38 = .ok (.invokevirtual 98, 3) := by decide +kernel
theorem d_7_readOctals_41 : decode prog_9_method_6_code 41 = .ok (.istore 4, 2) := by decide +kernel
theorem d_7_readOctals_43 : decode prog_9_method_6_code 43 = .ok (.iload 4, 2) := by decide +kernel
theorem d_7_readOctals_45 : decode prog_9_method_6_code 45 = .ok (.iconst (-1), 1) := by decide +kernel
theorem d_7_readOctals_46 : decode prog_9_method_6_code 46 = .ok (.if_icmp .eq 39, 3) := by decide +kernel
theorem d_7_readOctals_49 : decode prog_9_method_6_code 49 = .ok (.iload 4, 2) := by decide +kernel
theorem d_7_readOctals_51 : decode prog_9_method_6_code 51 = .ok (.bipush 7, 2) := by decide +kernel
theorem d_7_readOctals_53 : decode prog_9_method_6_code 53 = .ok (.if_icmp .le 6, 3) := by decide +kernel
theorem d_7_readOctals_56 : decode prog_9_method_6_code 56 = .ok (.goto 29, 3) := by decide +kernel
theorem d_7_readOctals_59 : decode prog_9_method_6_code 59 = .ok (.aload_n 0, 1) := by decide +kernel
theorem d_7_readOctals_60 : decode prog_9_method_6_code 60 = .ok (.getfield 14, 3) := by decide +kernel
theorem d_7_readOctals_63 : decode prog_9_method_6_code 63 = .ok (.iload_n 3, 1) := by decide +kernel
theorem d_7_readOctals_64 : decode prog_9_method_6_code 64 = .ok (.iload 4, 2) := by decide +kernel
theorem d_7_readOctals_66 : decode prog_9_method_6_code 66 = .ok (.invokevirtual 66, 3) := by decide +kernel
theorem d_7_readOctals_69 : decode prog_9_method_6_code 69 = .ok (.aload_n 1, 1) := by decide +kernel
theorem d_7_readOctals_70 : decode prog_9_method_6_code 70 = .ok (.dup, 1) := by decide +kernel
theorem d_7_readOctals_71 : decode prog_9_method_6_code 71 = .ok (.getfield 47, 3) := by decide +kernel
theorem d_7_readOctals_74 : decode prog_9_method_6_code 74 = .ok (.iconst 1, 1) := by decide +kernel
theorem d_7_readOctals_75 : decode prog_9_method_6_code 75 = .ok (.iadd, 1) := by decide +kernel
theorem d_7_readOctals_76 : decode prog_9_method_6_code 76 = .ok (.putfield 47, 3) := by decide +kernel
theorem d_7_readOctals_79 : decode prog_9_method_6_code 79 = .ok (.iinc 3 1, 3) := by decide +kernel
theorem d_7_readOctals_82 : decode prog_9_method_6_code 82 = .ok (.goto (-51), 3) := by decide +kernel
theorem d_7_readOctals_85 : decode prog_9_method_6_code 85 = .ok (.aload_n 1, 1) := by decide +kernel
theorem d_7_readOctals_86 : decode prog_9_method_6_code 86 = .ok (.getfield 47, 3) := by decide +kernel
theorem d_7_readOctals_89 : decode prog_9_method_6_code 89 = .ok (.iload_n 2, 1) := by decide +kernel
theorem d_7_readOctals_90 : decode prog_9_method_6_code 90 = .ok (.if_icmp .ne 7, 3) := by decide +kernel
theorem d_7_readOctals_93 : decode prog_9_method_6_code 93 = .ok (.iload_n 2, 1) := by decide +kernel
theorem d_7_readOctals_94 : decode prog_9_method_6_code 94 = .ok (.goto 4, 3) := by decide +kernel
theorem d_7_readOctals_97 : decode prog_9_method_6_code 97 = .ok (.iconst (-1), 1) := by decide +kernel
theorem d_7_readOctals_98 : decode prog_9_method_6_code 98 = .ok (.ireturn, 1) := by decide +kernel
def wb_7_readOctals_85 (Q : Int32 → hm_S → hm_T → Prop) (x2 : Int32) (S : hm_S) (T : hm_T) : Prop :=
  (if (S 64 2) = x2 then Q x2 S T else Q (-1) S T)
set_option maxHeartbeats 4000000 in
set_option maxRecDepth 20000 in
theorem bk_7_readOctals_85 {Q : Int32 → hm_S → hm_T → Prop} (cx : hm_cx G p s m args c prog_9_method_6_code 5 "HeapGames$RulesReader") (hr : meth.sig.returnType = some .int) (hlk : meth.locks = false) {x2 : Int32} {S : hm_S} {T : hm_T} {H : Heap} {locs : List Loc} {ls : Array Slot} (h : wb_7_readOctals_85 Q x2 S T) (hw : hm_w G H0 o 74 shX S T H) (hL : hm_L o 74 locs) (hl : lv_has ls 5 [(1, .ref (o + 64)), (2, .int x2)]) : W p l e rm_7_readOctals s m args below meth c H locs 0 0 (MQ below (hm_Qi G H0 o 74 shX Q) args s 0 0 (t_fr o (o + 74))) (F0 m 85 ls []) := by
  have hx := cx.1.1
  have hb := cx.1.2.1
  unfold wb_7_readOctals_85 at h
  refine lv_aload_n hx hb d_7_readOctals_85 rfl (lv_at hl 0 rfl) ?_
  refine gf_7_47 cx hw (i := 64) (by decide) sx_64 rfl d_7_readOctals_86 ?_
  refine lv_iload_n hx hb d_7_readOctals_89 rfl (lv_at hl 1 rfl) ?_
  refine lv_icmp_ne (tgt := 97) hx hb d_7_readOctals_90 (by decide) (fun hc => ?_) (fun hc => ?_)
  · replace h := hm_neg hc h
    refine lv_iconst (v := (-1)) hx hb d_7_readOctals_97 (by decide) ?_
    exact W.iret hx hb hr (fun t ht _ => ⟨_, _, _, rfl, h, by rw [ht]; exact hw⟩) hL d_7_readOctals_98
  · replace h := hm_pos hc h
    refine lv_iload_n hx hb d_7_readOctals_93 rfl (lv_at hl 1 rfl) ?_
    refine lv_goto (tgt := 98) hx hb d_7_readOctals_94 (by decide) ?_
    exact W.iret hx hb hr (fun t ht _ => ⟨_, _, _, rfl, h, by rw [ht]; exact hw⟩) hL d_7_readOctals_98
def wb_7_readOctals_56 (Q : Int32 → hm_S → hm_T → Prop) (x2 : Int32) (S : hm_S) (T : hm_T) : Prop :=
  wb_7_readOctals_85 Q x2 S T
set_option maxHeartbeats 4000000 in
set_option maxRecDepth 20000 in
theorem bk_7_readOctals_56 {Q : Int32 → hm_S → hm_T → Prop} (cx : hm_cx G p s m args c prog_9_method_6_code 5 "HeapGames$RulesReader") (hr : meth.sig.returnType = some .int) (hlk : meth.locks = false) {x2 : Int32} {S : hm_S} {T : hm_T} {H : Heap} {locs : List Loc} {ls : Array Slot} (h : wb_7_readOctals_56 Q x2 S T) (hw : hm_w G H0 o 74 shX S T H) (hL : hm_L o 74 locs) (hl : lv_has ls 5 [(1, .ref (o + 64)), (2, .int x2)]) : W p l e rm_7_readOctals s m args below meth c H locs 0 0 (MQ below (hm_Qi G H0 o 74 shX Q) args s 0 0 (t_fr o (o + 74))) (F0 m 56 ls []) := by
  have hx := cx.1.1
  have hb := cx.1.2.1
  unfold wb_7_readOctals_56 at h
  refine lv_goto (tgt := 85) hx hb d_7_readOctals_56 (by decide) ?_
  exact bk_7_readOctals_85 cx hr hlk h hw hL (lv_sub hl [0, 1] rfl)
def wb_7_readOctals_31 (Q : Int32 → hm_S → hm_T → Prop) (K31 : Int32 → Int32 → hm_S → hm_T → Prop) (x2 : Int32) (x3 : Int32) (S : hm_S) (T : hm_T) : Prop :=
  (if 10 < x3 then wb_7_readOctals_85 Q x2 S T else wp_9_nextDigit S T (fun r2 S2 T2 => (if r2 = (-1) then wb_7_readOctals_85 Q x2 S2 T2 else (if r2 ≤ 7 then wp_5_set 68 11 x3 r2 S2 T2 (fun S3 T3 => K31 x2 (x3 + 1) (hm_up S3 64 2 ((S3 64 2) + 1)) T3) else wb_7_readOctals_56 Q x2 S2 T2))))
set_option maxHeartbeats 4000000 in
set_option maxRecDepth 20000 in
theorem bk_7_readOctals_31 {Q : Int32 → hm_S → hm_T → Prop} {K31 : Int32 → Int32 → hm_S → hm_T → Prop} (cx : hm_cx G p s m args c prog_9_method_6_code 5 "HeapGames$RulesReader") (hr : meth.sig.returnType = some .int) (hlk : meth.locks = false) (k31 : ∀ (x2 : Int32) (x3 : Int32) (S : hm_S) (T : hm_T) (H : Heap) (locs : List Loc) (ls : Array Slot), K31 x2 x3 S T → hm_w G H0 o 74 shX S T H → hm_L o 74 locs → lv_has ls 5 [(0, .ref (o + 67)), (1, .ref (o + 64)), (2, .int x2), (3, .int x3)] → W p l e rm_7_readOctals s m args below meth c H locs 0 0 (MQ below (hm_Qi G H0 o 74 shX Q) args s 0 0 (t_fr o (o + 74))) (F0 m 31 ls [])) {x2 : Int32} {x3 : Int32} {S : hm_S} {T : hm_T} {H : Heap} {locs : List Loc} {ls : Array Slot} (h : wb_7_readOctals_31 Q K31 x2 x3 S T) (hw : hm_w G H0 o 74 shX S T H) (hL : hm_L o 74 locs) (hl : lv_has ls 5 [(0, .ref (o + 67)), (1, .ref (o + 64)), (2, .int x2), (3, .int x3)]) : W p l e rm_7_readOctals s m args below meth c H locs 0 0 (MQ below (hm_Qi G H0 o 74 shX Q) args s 0 0 (t_fr o (o + 74))) (F0 m 31 ls []) := by
  have hx := cx.1.1
  have hb := cx.1.2.1
  unfold wb_7_readOctals_31 at h
  refine lv_iload_n hx hb d_7_readOctals_31 rfl (lv_at hl 3 rfl) ?_
  refine lv_bipush (v := 10) hx hb d_7_readOctals_32 (by decide) ?_
  refine lv_icmp_gt (tgt := 85) hx hb d_7_readOctals_34 (by decide) (fun hc => ?_) (fun hc => ?_)
  · replace h := hm_pos hc h
    exact bk_7_readOctals_85 cx hr hlk h hw hL (lv_sub hl [1, 2] rfl)
  · replace h := hm_neg hc h
    refine lv_aload_n hx hb d_7_readOctals_37 rfl (lv_at hl 1 rfl) ?_
    refine hm_calli (hm_rV (i := 64) (As := []) (rest := []) cx hw (ct_9_nextDigit h) (mw_7_98 cx.1.2.2.2.2 ⟨Nat.le_of_ble_eq_true rfl, Nat.le_of_ble_eq_true rfl⟩) (by decide) sx_64 rfl rfl hl.1 rfl (Nat.le_of_ble_eq_true rfl) d_7_readOctals_38 ⟨Nat.zero_le _, Nat.zero_le _⟩) hL (fun r2 S2 T2 H locs h hw hL => ?_)
    refine lv_istore (lv' := [(4, .int r2), (0, .ref (o + 67)), (1, .ref (o + 64)), (2, .int x2), (3, .int x3)]) hx hb d_7_readOctals_41 hl (by decide) rfl (fun ls hl => ?_)
    refine lv_iload hx hb d_7_readOctals_43 (lv_at hl 0 rfl) ?_
    refine lv_iconst (v := (-1)) hx hb d_7_readOctals_45 (by decide) ?_
    refine lv_icmp_eq (tgt := 85) hx hb d_7_readOctals_46 (by decide) (fun hc => ?_) (fun hc => ?_)
    · replace h := hm_pos hc h
      exact bk_7_readOctals_85 cx hr hlk h hw hL (lv_sub hl [2, 3] rfl)
    · replace h := hm_neg hc h
      refine lv_iload hx hb d_7_readOctals_49 (lv_at hl 0 rfl) ?_
      refine lv_bipush (v := 7) hx hb d_7_readOctals_51 (by decide) ?_
      refine lv_icmp_le (tgt := 59) hx hb d_7_readOctals_53 (by decide) (fun hc => ?_) (fun hc => ?_)
      · replace h := hm_pos hc h
        refine lv_aload_n hx hb d_7_readOctals_59 rfl (lv_at hl 1 rfl) ?_
        refine gf_7_14 cx hw (i := 67) (r := 68) (by decide) sx_67 rfl d_7_readOctals_60 ?_
        refine lv_iload_n hx hb d_7_readOctals_63 rfl (lv_at hl 4 rfl) ?_
        refine lv_iload hx hb d_7_readOctals_64 (lv_at hl 0 rfl) ?_
        refine hm_callv (hm_rV (i := 68) (As := [.int x3, .int r2]) (rest := []) cx hw (ct_5_set (by decide) sx_68 sx_69 h) (mw_7_66 cx.1.2.2.2.2 ⟨Nat.le_of_ble_eq_true rfl, Nat.le_of_ble_eq_true rfl⟩) (by decide) sx_68 rfl rfl hl.1 rfl (Nat.le_of_ble_eq_true rfl) d_7_readOctals_66 ⟨Nat.zero_le _, Nat.zero_le _⟩) hL (fun S3 T3 H locs h hw hL => ?_)
        refine lv_aload_n hx hb d_7_readOctals_69 rfl (lv_at hl 2 rfl) ?_
        refine lv_dup hx hb d_7_readOctals_70 rfl ?_
        refine gf_7_47 cx hw (i := 64) (by decide) sx_64 rfl d_7_readOctals_71 ?_
        refine lv_iconst (v := 1) hx hb d_7_readOctals_74 (by decide) ?_
        refine lv_iadd hx hb d_7_readOctals_75 ?_
        refine pf_7_47 cx hw (i := 64) (by decide) sx_64 rfl hL d_7_readOctals_76 (fun H locs hw hL => ?_)
        refine lv_iinc (v := (x3 + 1)) (lv' := [(3, .int (x3 + 1)), (4, .int r2), (0, .ref (o + 67)), (1, .ref (o + 64)), (2, .int x2)]) hx hb d_7_readOctals_79 hl (k := 4) rfl rfl (by decide) rfl (fun ls hl => ?_)
        refine lv_goto (tgt := 31) hx hb d_7_readOctals_82 (by decide) ?_
        exact k31 _ _ _ _ _ _ _ h hw hL (lv_sub hl [2, 3, 4, 0] rfl)
      · replace h := hm_neg hc h
        exact bk_7_readOctals_56 cx hr hlk h hw hL (lv_sub hl [2, 3] rfl)
def wl_7_readOctals_31 (Q : Int32 → hm_S → hm_T → Prop) : Nat → Int32 → Int32 → hm_S → hm_T → Prop
  | 0, _, _, _, _ => False
  | f + 1, x2, x3, S, T => wb_7_readOctals_31 Q (wl_7_readOctals_31 Q f) x2 x3 S T
theorem lp_7_readOctals_31 {Q : Int32 → hm_S → hm_T → Prop} (cx : hm_cx G p s m args c prog_9_method_6_code 5 "HeapGames$RulesReader") (hr : meth.sig.returnType = some .int) (hlk : meth.locks = false) : ∀ (f : Nat) (x2 : Int32) (x3 : Int32) (S : hm_S) (T : hm_T) (H : Heap) (locs : List Loc) (ls : Array Slot), wl_7_readOctals_31 Q f x2 x3 S T → hm_w G H0 o 74 shX S T H → hm_L o 74 locs → lv_has ls 5 [(0, .ref (o + 67)), (1, .ref (o + 64)), (2, .int x2), (3, .int x3)] → W p l e rm_7_readOctals s m args below meth c H locs 0 0 (MQ below (hm_Qi G H0 o 74 shX Q) args s 0 0 (t_fr o (o + 74))) (F0 m 31 ls []) := by
  intro f
  induction f with
  | zero => intro x2 x3 S T H locs ls h; exact h.elim
  | succ f ih => intro x2 x3 S T H locs ls h hw hL hl; exact bk_7_readOctals_31 cx hr hlk ih h hw hL hl
def wp_7_readOctals (S : hm_S) (T : hm_T) (Q : Int32 → hm_S → hm_T → Prop) : Prop :=
  wp_9_next S T (fun r1 S1 T1 => (if r1 = 46 then ∃ f, wl_7_readOctals_31 Q f ((hm_up S1 64 2 ((S1 64 2) + 1)) 64 2) 1 (hm_up S1 64 2 ((S1 64 2) + 1)) T1 else Q (S1 64 2) S1 T1))
set_option maxHeartbeats 4000000 in
set_option maxRecDepth 20000 in
theorem bk_7_readOctals_0 {Q : Int32 → hm_S → hm_T → Prop} (cx : hm_cx G p s m args c prog_9_method_6_code 5 "HeapGames$RulesReader") (hr : meth.sig.returnType = some .int) (hlk : meth.locks = false) {S : hm_S} {T : hm_T} {H : Heap} {locs : List Loc} {ls : Array Slot} (h : wp_7_readOctals S T Q) (hw : hm_w G H0 o 74 shX S T H) (hL : hm_L o 74 locs) (hl : lv_has ls 5 [(0, .ref (o + 67)), (1, .ref (o + 64))]) : W p l e rm_7_readOctals s m args below meth c H locs 0 0 (MQ below (hm_Qi G H0 o 74 shX Q) args s 0 0 (t_fr o (o + 74))) (F0 m 0 ls []) := by
  have hx := cx.1.1
  have hb := cx.1.2.1
  unfold wp_7_readOctals at h
  refine lv_aload_n hx hb d_7_readOctals_0 rfl (lv_at hl 1 rfl) ?_
  refine hm_calli (hm_rV (i := 64) (As := []) (rest := []) cx hw (ct_9_next h) (mw_7_95 cx.1.2.2.2.2 ⟨Nat.le_of_ble_eq_true rfl, Nat.le_of_ble_eq_true rfl⟩) (by decide) sx_64 rfl rfl hl.1 rfl (Nat.le_of_ble_eq_true rfl) d_7_readOctals_1 ⟨Nat.zero_le _, Nat.zero_le _⟩) hL (fun r1 S1 T1 H locs h hw hL => ?_)
  refine lv_bipush (v := 46) hx hb d_7_readOctals_4 (by decide) ?_
  refine lv_icmp_eq (tgt := 14) hx hb d_7_readOctals_6 (by decide) (fun hc => ?_) (fun hc => ?_)
  · replace h := hm_pos hc h
    refine lv_aload_n hx hb d_7_readOctals_14 rfl (lv_at hl 1 rfl) ?_
    refine lv_dup hx hb d_7_readOctals_15 rfl ?_
    refine gf_7_47 cx hw (i := 64) (by decide) sx_64 rfl d_7_readOctals_16 ?_
    refine lv_iconst (v := 1) hx hb d_7_readOctals_19 (by decide) ?_
    refine lv_iadd hx hb d_7_readOctals_20 ?_
    refine pf_7_47 cx hw (i := 64) (by decide) sx_64 rfl hL d_7_readOctals_21 (fun H locs hw hL => ?_)
    refine lv_aload_n hx hb d_7_readOctals_24 rfl (lv_at hl 1 rfl) ?_
    refine gf_7_47 cx hw (i := 64) (by decide) sx_64 rfl d_7_readOctals_25 ?_
    refine lv_istore_n (lv' := [(2, .int ((hm_up S1 64 2 ((S1 64 2) + 1)) 64 2)), (0, .ref (o + 67)), (1, .ref (o + 64))]) hx hb d_7_readOctals_28 rfl hl (by decide) rfl (fun ls hl => ?_)
    refine lv_iconst (v := 1) hx hb d_7_readOctals_29 (by decide) ?_
    refine lv_istore_n (lv' := [(3, .int 1), (2, .int ((hm_up S1 64 2 ((S1 64 2) + 1)) 64 2)), (0, .ref (o + 67)), (1, .ref (o + 64))]) hx hb d_7_readOctals_30 rfl hl (by decide) rfl (fun ls hl => ?_)
    obtain ⟨f, h⟩ := h
    exact lp_7_readOctals_31 cx hr hlk f _ _ _ _ _ _ _ h hw hL (lv_sub hl [2, 3, 1, 0] rfl)
  · replace h := hm_neg hc h
    refine lv_aload_n hx hb d_7_readOctals_9 rfl (lv_at hl 1 rfl) ?_
    refine gf_7_47 cx hw (i := 64) (by decide) sx_64 rfl d_7_readOctals_10 ?_
    exact W.iret hx hb hr (fun t ht _ => ⟨_, _, _, rfl, h, by rw [ht]; exact hw⟩) hL d_7_readOctals_13
set_option maxHeartbeats 4000000 in
set_option maxRecDepth 20000 in
theorem ct_7_readOctals {S : hm_S} {T : hm_T} {Q : Int32 → hm_S → hm_T → Prop} (h : wp_7_readOctals S T Q) : hm_M l G H0 o 74 shX y_7_readOctals prog_9_method_6_code 5 (some .int) rm_7_readOctals S T [.ref (o + 67), .ref (o + 64)] (hm_Qi G H0 o 74 shX Q) := by
  refine Met.ofW (cc := prog_9_method_6_code) (maxL := 5) (ret := some .int) (by decide) rfl ?_
  intro p e s m args below meth c s₁ B hml hv
  obtain ⟨rfl, hK, hw⟩ := hv
  have cx : hm_cx G p s m _ c prog_9_method_6_code 5 "HeapGames$RulesReader" := ⟨⟨B.exec, B.bytes, hml, findClass_of_methodNamed B.named, fun w hq => atoms_spec (ws := hm_ws y_7_readOctals prog_9_method_6_code 5 (some .int)) B.pre w (List.mem_cons_of_mem _ hq)⟩, hK⟩
  have hl := lv_entry ([.ref (o + 67), .ref (o + 64)]) (n := 5) (Nat.le_of_ble_eq_true rfl)
  rw [lg_entry_eq]
  generalize (lg_sl ([.ref (o + 67), .ref (o + 64)]) ++ List.replicate (5 - (lg_sl ([.ref (o + 67), .ref (o + 64)])).length) Slot.unset).toArray = ls at hl ⊢
  have hl : lv_has ls 5 [(0, .ref (o + 67)), (1, .ref (o + 64))] := hl
  exact bk_7_readOctals_0 cx B.returns B.notSynchronized h hw (hm_L0 _ _) hl
/-! ===== HeapGames$PositionReader.position()I ===== -/
theorem d_4_position_0 : decode prog_6_method_2_code 0 = .ok (.aload_n 0, 1) := by decide +kernel
theorem d_4_position_1 : decode prog_6_method_2_code 1 = .ok (.getfield 15, 3) := by decide +kernel
theorem d_4_position_4 : decode prog_6_method_2_code 4 = .ok (.aload_n 0, 1) := by decide +kernel
theorem d_4_position_5 : decode prog_6_method_2_code 5 = .ok (.getfield 19, 3) := by decide +kernel
theorem d_4_position_8 : decode prog_6_method_2_code 8 = .ok (.invokestatic 22, 3) := by decide +kernel
theorem d_4_position_11 : decode prog_6_method_2_code 11 = .ok (.ireturn, 1) := by decide +kernel
def wp_4_position (S : hm_S) (T : hm_T) (Q : Int32 → hm_S → hm_T → Prop) : Prop :=
  wp_10_positionOf (S 70 1) (S 70 2) S T (fun r1 S1 T1 => Q r1 S1 T1)
set_option maxHeartbeats 4000000 in
set_option maxRecDepth 20000 in
theorem bk_4_position_0 {Q : Int32 → hm_S → hm_T → Prop} (cx : hm_cx G p s m args c prog_6_method_2_code 1 "HeapGames$PositionReader") (hr : meth.sig.returnType = some .int) (hlk : meth.locks = false) {S : hm_S} {T : hm_T} {H : Heap} {locs : List Loc} {ls : Array Slot} (h : wp_4_position S T Q) (hw : hm_w G H0 o 74 shX S T H) (hL : hm_L o 74 locs) (hl : lv_has ls 1 [(0, .ref (o + 70))]) : W p l e rm_4_position s m args below meth c H locs 0 0 (MQ below (hm_Qi G H0 o 74 shX Q) args s 0 0 (t_fr o (o + 74))) (F0 m 0 ls []) := by
  have hx := cx.1.1
  have hb := cx.1.2.1
  unfold wp_4_position at h
  refine lv_aload_n hx hb d_4_position_0 rfl (lv_at hl 0 rfl) ?_
  refine gf_4_15 cx hw (i := 70) (by decide) sx_70 rfl d_4_position_1 ?_
  refine lv_aload_n hx hb d_4_position_4 rfl (lv_at hl 0 rfl) ?_
  refine gf_4_19 cx hw (i := 70) (by decide) sx_70 rfl d_4_position_5 ?_
  refine hm_calli (hm_rN (As := [.int (S 70 1), .int (S 70 2)]) (rest := []) cx hw (ct_10_positionOf h) (mw_4_22 cx ⟨Nat.le_of_ble_eq_true rfl, Nat.le_of_ble_eq_true rfl⟩) rfl hl.1 rfl (Nat.le_of_ble_eq_true rfl) d_4_position_8 ⟨Nat.zero_le _, Nat.zero_le _⟩) hL (fun r1 S1 T1 H locs h hw hL => ?_)
  exact W.iret hx hb hr (fun t ht _ => ⟨_, _, _, rfl, h, by rw [ht]; exact hw⟩) hL d_4_position_11
set_option maxHeartbeats 4000000 in
set_option maxRecDepth 20000 in
theorem ct_4_position {S : hm_S} {T : hm_T} {Q : Int32 → hm_S → hm_T → Prop} (h : wp_4_position S T Q) : hm_M l G H0 o 74 shX y_4_position prog_6_method_2_code 1 (some .int) rm_4_position S T [.ref (o + 70)] (hm_Qi G H0 o 74 shX Q) := by
  refine Met.ofW (cc := prog_6_method_2_code) (maxL := 1) (ret := some .int) (by decide) rfl ?_
  intro p e s m args below meth c s₁ B hml hv
  obtain ⟨rfl, hK, hw⟩ := hv
  have cx : hm_cx G p s m _ c prog_6_method_2_code 1 "HeapGames$PositionReader" := ⟨⟨B.exec, B.bytes, hml, findClass_of_methodNamed B.named, fun w hq => atoms_spec (ws := hm_ws y_4_position prog_6_method_2_code 1 (some .int)) B.pre w (List.mem_cons_of_mem _ hq)⟩, hK⟩
  have hl := lv_entry ([.ref (o + 70)]) (n := 1) (Nat.le_of_ble_eq_true rfl)
  rw [lg_entry_eq]
  generalize (lg_sl ([.ref (o + 70)]) ++ List.replicate (1 - (lg_sl ([.ref (o + 70)])).length) Slot.unset).toArray = ls at hl ⊢
  have hl : lv_has ls 1 [(0, .ref (o + 70))] := hl
  exact bk_4_position_0 cx B.returns B.notSynchronized h hw (hm_L0 _ _) hl
/-! ===== HeapGames$PositionReader.readHeap(LHeapGames$Text;)I ===== -/
theorem d_4_readHeap_0 : decode prog_6_method_5_code 0 = .ok (.aload_n 1, 1) := by decide +kernel
theorem d_4_readHeap_1 : decode prog_6_method_5_code 1 = .ok (.getfield 49, 3) := by decide +kernel
theorem d_4_readHeap_4 : decode prog_6_method_5_code 4 = .ok (.istore_n 2, 1) := by decide +kernel
theorem d_4_readHeap_5 : decode prog_6_method_5_code 5 = .ok (.aload_n 1, 1) := by decide +kernel
theorem d_4_readHeap_6 : decode prog_6_method_5_code 6 = .ok (.invokevirtual 31, 3) := by decide +kernel
theorem d_4_readHeap_9 : decode prog_6_method_5_code 9 = .ok (.istore_n 3, 1) := by decide +kernel
theorem d_4_readHeap_10 : decode prog_6_method_5_code 10 = .ok (.iload_n 3, 1) := by decide +kernel
theorem d_4_readHeap_11 : decode prog_6_method_5_code 11 = .ok (.iconst (-1), 1) := by decide +kernel
theorem d_4_readHeap_12 : decode prog_6_method_5_code 12 = .ok (.if_icmp .ne 5, 3) := by decide +kernel
theorem d_4_readHeap_15 : decode prog_6_method_5_code 15 = .ok (.iload_n 2, 1) := by decide +kernel
theorem d_4_readHeap_16 : decode prog_6_method_5_code 16 = .ok (.ireturn, 1) := by decide +kernel
theorem d_4_readHeap_17 : decode prog_6_method_5_code 17 = .ok (.aload_n 1, 1) := by decide +kernel
theorem d_4_readHeap_18 : decode prog_6_method_5_code 18 = .ok (.dup, 1) := by decide +kernel
theorem d_4_readHeap_19 : decode prog_6_method_5_code 19 = .ok (.getfield 49, 3) := by decide +kernel
theorem d_4_readHeap_22 : decode prog_6_method_5_code 22 = .ok (.iconst 1, 1) := by decide +kernel
theorem d_4_readHeap_23 : decode prog_6_method_5_code 23 = .ok (.iadd, 1) := by decide +kernel
theorem d_4_readHeap_24 : decode prog_6_method_5_code 24 = .ok (.putfield 49, 3) := by decide +kernel
theorem d_4_readHeap_27 : decode prog_6_method_5_code 27 = .ok (.aload_n 1, 1) := by decide +kernel
theorem d_4_readHeap_28 : decode prog_6_method_5_code 28 = .ok (.invokevirtual 31, 3) := by decide +kernel
theorem d_4_readHeap_31 : decode prog_6_method_5_code 31 = .ok (.iconst (-1), 1) := by decide +kernel
theorem d_4_readHeap_32 : decode prog_6_method_5_code 32 = .ok (.if_icmp .eq 23, 3) := by decide +kernel
theorem d_4_readHeap_35 : decode prog_6_method_5_code 35 = .ok (.bipush 10, 2) := by decide +kernel
theorem d_4_readHeap_37 : decode prog_6_method_5_code 37 = .ok (.iload_n 3, 1) := by decide +kernel
theorem d_4_readHeap_38 : decode prog_6_method_5_code 38 = .ok (.imul, 1) := by decide +kernel
theorem d_4_readHeap_39 : decode prog_6_method_5_code 39 = .ok (.aload_n 1, 1) := by decide +kernel
theorem d_4_readHeap_40 : decode prog_6_method_5_code 40 = .ok (.invokevirtual 31, 3) := by decide +kernel
theorem d_4_readHeap_43 : decode prog_6_method_5_code 43 = .ok (.iadd, 1) := by decide +kernel
theorem d_4_readHeap_44 : decode prog_6_method_5_code 44 = .ok (.istore_n 3, 1) := by decide +kernel
theorem d_4_readHeap_45 : decode prog_6_method_5_code 45 = .ok (.aload_n 1, 1) := by decide +kernel
theorem d_4_readHeap_46 : decode prog_6_method_5_code 46 = .ok (.dup, 1) := by decide +kernel
theorem d_4_readHeap_47 : decode prog_6_method_5_code 47 = .ok (.getfield 49, 3) := by decide +kernel
theorem d_4_readHeap_50 : decode prog_6_method_5_code 50 = .ok (.iconst 1, 1) := by decide +kernel
theorem d_4_readHeap_51 : decode prog_6_method_5_code 51 = .ok (.iadd, 1) := by decide +kernel
theorem d_4_readHeap_52 : decode prog_6_method_5_code 52 = .ok (.putfield 49, 3) := by decide +kernel
theorem d_4_readHeap_55 : decode prog_6_method_5_code 55 = .ok (.iload_n 3, 1) := by decide +kernel
theorem d_4_readHeap_56 : decode prog_6_method_5_code 56 = .ok (.ifCond .eq 21, 3) := by decide +kernel
theorem d_4_readHeap_59 : decode prog_6_method_5_code 59 = .ok (.iload_n 3, 1) := by decide +kernel
theorem d_4_readHeap_60 : decode prog_6_method_5_code 60 = .ok (.bipush 10, 2) := by decide +kernel
theorem d_4_readHeap_62 : decode prog_6_method_5_code 62 = .ok (.aload_n 0, 1) := by decide +kernel
theorem d_4_readHeap_63 : decode prog_6_method_5_code 63 = .ok (.getfield 9, 3) := by decide +kernel
theorem d_4_readHeap_66 : decode prog_6_method_5_code 66 = .ok (.aload_n 0, 1) := by decide +kernel
theorem d_4_readHeap_67 : decode prog_6_method_5_code 67 = .ok (.getfield 15, 3) := by decide +kernel
theorem d_4_readHeap_70 : decode prog_6_method_5_code 70 = .ok (.invokevirtual 52, 3) := by decide +kernel
theorem d_4_readHeap_73 : decode prog_6_method_5_code 73 = .ok (.isub, 1) := by decide +kernel
theorem d_4_readHeap_74 : decode prog_6_method_5_code 74 = .ok (.if_icmp .le 5, 3) := by decide +kernel
theorem d_4_readHeap_77 : decode prog_6_method_5_code 77 = .ok (.iload_n 2, 1) := by decide +kernel
theorem d_4_readHeap_78 : decode prog_6_method_5_code 78 = .ok (.ireturn, 1) := by decide +kernel
theorem d_4_readHeap_79 : decode prog_6_method_5_code 79 = .ok (.aload_n 1, 1) := by decide +kernel
theorem d_4_readHeap_80 : decode prog_6_method_5_code 80 = .ok (.invokevirtual 58, 3) := by decide +kernel
theorem d_4_readHeap_83 : decode prog_6_method_5_code 83 = .ok (.aload_n 1, 1) := by decide +kernel
theorem d_4_readHeap_84 : decode prog_6_method_5_code 84 = .ok (.bipush 33, 2) := by decide +kernel
theorem d_4_readHeap_86 : decode prog_6_method_5_code 86 = .ok (.invokevirtual 39, 3) := by decide +kernel
theorem d_4_readHeap_89 : decode prog_6_method_5_code 89 = .ok (.ifCond .eq 7, 3) := by decide +kernel
theorem d_4_readHeap_92 : decode prog_6_method_5_code 92 = .ok (.iconst 1, 1) := by decide +kernel
theorem d_4_readHeap_93 : decode prog_6_method_5_code 93 = .ok (.goto 4, 3) := by decide +kernel
theorem d_4_readHeap_96 : decode prog_6_method_5_code 96 = .ok (.iconst 0, 1) := by decide +kernel
theorem d_4_readHeap_97 : decode prog_6_method_5_code 97 = .ok (.istore 4, 2) := by decide +kernel
theorem d_4_readHeap_99 : decode prog_6_method_5_code 99 = .ok (.aload_n 0, 1) := by decide +kernel
theorem d_4_readHeap_100 : decode prog_6_method_5_code 100 = .ok (.aload_n 0, 1) := by decide +kernel
theorem d_4_readHeap_101 : decode prog_6_method_5_code 101 = .ok (.getfield 9, 3) := by decide +kernel
theorem d_4_readHeap_104 : decode prog_6_method_5_code 104 = .ok (.aload_n 0, 1) := by decide +kernel
theorem d_4_readHeap_105 : decode prog_6_method_5_code 105 = .ok (.getfield 15, 3) := by decide +kernel
theorem d_4_readHeap_108 : decode prog_6_method_5_code 108 = .ok (.iload_n 3, 1) := by decide +kernel
theorem d_4_readHeap_109 : decode prog_6_method_5_code 109 = .ok (.iload 4, 2) := by decide +kernel
theorem d_4_readHeap_111 : decode prog_6_method_5_code 111 = .ok (.invokestatic 61, 3) := by decide +kernel
theorem d_4_readHeap_114 : decode prog_6_method_5_code 114 = .ok (.invokevirtual 64, 3) := by decide +kernel
theorem d_4_readHeap_117 : decode prog_6_method_5_code 117 = .ok (.putfield 15, 3) := by decide +kernel
theorem d_4_readHeap_120 : decode prog_6_method_5_code 120 = .ok (.iconst (-1), 1) := by decide +kernel
theorem d_4_readHeap_121 : decode prog_6_method_5_code 121 = .ok (.ireturn, 1) := by decide +kernel
def wb_4_readHeap_97 (Q : Int32 → hm_S → hm_T → Prop) (x3 : Int32) (z0 : Int32) (S : hm_S) (T : hm_T) : Prop :=
  wp_10_kindOfHeap x3 z0 S T (fun r6 S6 T6 => wp_2_join (S 70 1) r6 S6 T6 (fun r7 S7 T7 => Q (-1) (hm_up S7 70 1 r7) T7))
set_option maxHeartbeats 4000000 in
set_option maxRecDepth 20000 in
theorem bk_4_readHeap_97 {Q : Int32 → hm_S → hm_T → Prop} (cx : hm_cx G p s m args c prog_6_method_5_code 5 "HeapGames$PositionReader") (hr : meth.sig.returnType = some .int) (hlk : meth.locks = false) {x3 : Int32} {z0 : Int32} {S : hm_S} {T : hm_T} {H : Heap} {locs : List Loc} {ls : Array Slot} (h : wb_4_readHeap_97 Q x3 z0 S T) (hw : hm_w G H0 o 74 shX S T H) (hL : hm_L o 74 locs) (hl : lv_has ls 5 [(0, .ref (o + 70)), (3, .int x3)]) : W p l e rm_4_readHeap s m args below meth c H locs 0 0 (MQ below (hm_Qi G H0 o 74 shX Q) args s 0 0 (t_fr o (o + 74))) (F0 m 97 ls [.int z0]) := by
  have hx := cx.1.1
  have hb := cx.1.2.1
  unfold wb_4_readHeap_97 at h
  refine lv_istore (lv' := [(4, .int z0), (0, .ref (o + 70)), (3, .int x3)]) hx hb d_4_readHeap_97 hl (by decide) rfl (fun ls hl => ?_)
  refine lv_aload_n hx hb d_4_readHeap_99 rfl (lv_at hl 1 rfl) ?_
  refine lv_aload_n hx hb d_4_readHeap_100 rfl (lv_at hl 1 rfl) ?_
  refine gf_4_9 cx hw (i := 70) (r := 4) (by decide) sx_70 rfl d_4_readHeap_101 ?_
  refine lv_aload_n hx hb d_4_readHeap_104 rfl (lv_at hl 1 rfl) ?_
  refine gf_4_15 cx hw (i := 70) (by decide) sx_70 rfl d_4_readHeap_105 ?_
  refine lv_iload_n hx hb d_4_readHeap_108 rfl (lv_at hl 2 rfl) ?_
  refine lv_iload hx hb d_4_readHeap_109 (lv_at hl 0 rfl) ?_
  refine hm_calli (hm_rN (As := [.int x3, .int z0]) (rest := [.int (S 70 1), .ref (o + 4), .ref (o + 70)]) cx hw (ct_10_kindOfHeap h) (mw_4_61 cx ⟨Nat.le_of_ble_eq_true rfl, Nat.le_of_ble_eq_true rfl⟩) rfl hl.1 rfl (Nat.le_of_ble_eq_true rfl) d_4_readHeap_111 ⟨Nat.zero_le _, Nat.zero_le _⟩) hL (fun r6 S6 T6 H locs h hw hL => ?_)
  refine hm_calli (hm_rV (i := 4) (As := [.int (S 70 1), .int r6]) (rest := [.ref (o + 70)]) cx hw (ct_2_join (by decide) (fun _ _ _ => rfl) h) (mw_4_64 cx.1.2.2.2.2 ⟨Nat.le_of_ble_eq_true rfl, Nat.le_of_ble_eq_true rfl⟩) (by decide) sx_4 rfl rfl hl.1 rfl (Nat.le_of_ble_eq_true rfl) d_4_readHeap_114 ⟨Nat.zero_le _, Nat.zero_le _⟩) hL (fun r7 S7 T7 H locs h hw hL => ?_)
  refine pf_4_15 cx hw (i := 70) (by decide) sx_70 rfl hL d_4_readHeap_117 (fun H locs hw hL => ?_)
  refine lv_iconst (v := (-1)) hx hb d_4_readHeap_120 (by decide) ?_
  exact W.iret hx hb hr (fun t ht _ => ⟨_, _, _, rfl, h, by rw [ht]; exact hw⟩) hL d_4_readHeap_121
def wb_4_readHeap_55 (Q : Int32 → hm_S → hm_T → Prop) (x2 : Int32) (x3 : Int32) (S : hm_S) (T : hm_T) : Prop :=
  (if x3 = 0 then Q x2 S T else wp_2_countersOf (S 70 1) S T (fun r3 S3 T3 => (if x3 ≤ (10 - r3) then wp_9_skipBlanks S3 T3 (fun S4 T4 => wp_9_takeSign 33 S4 T4 (fun r5 S5 T5 => (if r5 = 0 then wb_4_readHeap_97 Q x3 0 S5 T5 else wb_4_readHeap_97 Q x3 1 S5 T5))) else Q x2 S3 T3)))
set_option maxHeartbeats 4000000 in
set_option maxRecDepth 20000 in
theorem bk_4_readHeap_55 {Q : Int32 → hm_S → hm_T → Prop} (cx : hm_cx G p s m args c prog_6_method_5_code 5 "HeapGames$PositionReader") (hr : meth.sig.returnType = some .int) (hlk : meth.locks = false) {x2 : Int32} {x3 : Int32} {S : hm_S} {T : hm_T} {H : Heap} {locs : List Loc} {ls : Array Slot} (h : wb_4_readHeap_55 Q x2 x3 S T) (hw : hm_w G H0 o 74 shX S T H) (hL : hm_L o 74 locs) (hl : lv_has ls 5 [(0, .ref (o + 70)), (1, .ref (o + 64)), (2, .int x2), (3, .int x3)]) : W p l e rm_4_readHeap s m args below meth c H locs 0 0 (MQ below (hm_Qi G H0 o 74 shX Q) args s 0 0 (t_fr o (o + 74))) (F0 m 55 ls []) := by
  have hx := cx.1.1
  have hb := cx.1.2.1
  unfold wb_4_readHeap_55 at h
  refine lv_iload_n hx hb d_4_readHeap_55 rfl (lv_at hl 3 rfl) ?_
  refine lv_if_eq (tgt := 77) hx hb d_4_readHeap_56 (by decide) (fun hc => ?_) (fun hc => ?_)
  · replace h := hm_pos hc h
    refine lv_iload_n hx hb d_4_readHeap_77 rfl (lv_at hl 2 rfl) ?_
    exact W.iret hx hb hr (fun t ht _ => ⟨_, _, _, rfl, h, by rw [ht]; exact hw⟩) hL d_4_readHeap_78
  · replace h := hm_neg hc h
    refine lv_iload_n hx hb d_4_readHeap_59 rfl (lv_at hl 3 rfl) ?_
    refine lv_bipush (v := 10) hx hb d_4_readHeap_60 (by decide) ?_
    refine lv_aload_n hx hb d_4_readHeap_62 rfl (lv_at hl 0 rfl) ?_
    refine gf_4_9 cx hw (i := 70) (r := 4) (by decide) sx_70 rfl d_4_readHeap_63 ?_
    refine lv_aload_n hx hb d_4_readHeap_66 rfl (lv_at hl 0 rfl) ?_
    refine gf_4_15 cx hw (i := 70) (by decide) sx_70 rfl d_4_readHeap_67 ?_
    refine hm_calli (hm_rV (i := 4) (As := [.int (S 70 1)]) (rest := [.int 10, .int x3]) cx hw (ct_2_countersOf (by decide) (fun _ _ _ => rfl) h) (mw_4_52 cx.1.2.2.2.2 ⟨Nat.le_of_ble_eq_true rfl, Nat.le_of_ble_eq_true rfl⟩) (by decide) sx_4 rfl rfl hl.1 rfl (Nat.le_of_ble_eq_true rfl) d_4_readHeap_70 ⟨Nat.zero_le _, Nat.zero_le _⟩) hL (fun r3 S3 T3 H locs h hw hL => ?_)
    refine lv_isub hx hb d_4_readHeap_73 ?_
    refine lv_icmp_le (tgt := 79) hx hb d_4_readHeap_74 (by decide) (fun hc => ?_) (fun hc => ?_)
    · replace h := hm_pos hc h
      refine lv_aload_n hx hb d_4_readHeap_79 rfl (lv_at hl 1 rfl) ?_
      refine hm_callv (hm_rV (i := 64) (As := []) (rest := []) cx hw (ct_9_skipBlanks h) (mw_4_58 cx.1.2.2.2.2 ⟨Nat.le_of_ble_eq_true rfl, Nat.le_of_ble_eq_true rfl⟩) (by decide) sx_64 rfl rfl hl.1 rfl (Nat.le_of_ble_eq_true rfl) d_4_readHeap_80 ⟨Nat.zero_le _, Nat.zero_le _⟩) hL (fun S4 T4 H locs h hw hL => ?_)
      refine lv_aload_n hx hb d_4_readHeap_83 rfl (lv_at hl 1 rfl) ?_
      refine lv_bipush (v := 33) hx hb d_4_readHeap_84 (by decide) ?_
      refine hm_calli (hm_rV (i := 64) (As := [.int 33]) (rest := []) cx hw (ct_9_takeSign h) (mw_4_39 cx.1.2.2.2.2 ⟨Nat.le_of_ble_eq_true rfl, Nat.le_of_ble_eq_true rfl⟩) (by decide) sx_64 rfl rfl hl.1 rfl (Nat.le_of_ble_eq_true rfl) d_4_readHeap_86 ⟨Nat.zero_le _, Nat.zero_le _⟩) hL (fun r5 S5 T5 H locs h hw hL => ?_)
      refine lv_if_eq (tgt := 96) hx hb d_4_readHeap_89 (by decide) (fun hc => ?_) (fun hc => ?_)
      · replace h := hm_pos hc h
        refine lv_iconst (v := 0) hx hb d_4_readHeap_96 (by decide) ?_
        exact bk_4_readHeap_97 cx hr hlk h hw hL (lv_sub hl [0, 3] rfl)
      · replace h := hm_neg hc h
        refine lv_iconst (v := 1) hx hb d_4_readHeap_92 (by decide) ?_
        refine lv_goto (tgt := 97) hx hb d_4_readHeap_93 (by decide) ?_
        exact bk_4_readHeap_97 cx hr hlk h hw hL (lv_sub hl [0, 3] rfl)
    · replace h := hm_neg hc h
      refine lv_iload_n hx hb d_4_readHeap_77 rfl (lv_at hl 2 rfl) ?_
      exact W.iret hx hb hr (fun t ht _ => ⟨_, _, _, rfl, h, by rw [ht]; exact hw⟩) hL d_4_readHeap_78
def wp_4_readHeap (S : hm_S) (T : hm_T) (Q : Int32 → hm_S → hm_T → Prop) : Prop :=
  wp_9_nextDigit S T (fun r1 S1 T1 => (if r1 = (-1) then Q (S 64 2) S1 T1 else wp_9_nextDigit (hm_up S1 64 2 ((S1 64 2) + 1)) T1 (fun r2 S2 T2 => (if r2 = (-1) then wb_4_readHeap_55 Q (S 64 2) r1 S2 T2 else wp_9_nextDigit S2 T2 (fun r8 S8 T8 => wb_4_readHeap_55 Q (S 64 2) ((10 * r1) + r8) (hm_up S8 64 2 ((S8 64 2) + 1)) T8)))))
set_option maxHeartbeats 4000000 in
set_option maxRecDepth 20000 in
theorem bk_4_readHeap_0 {Q : Int32 → hm_S → hm_T → Prop} (cx : hm_cx G p s m args c prog_6_method_5_code 5 "HeapGames$PositionReader") (hr : meth.sig.returnType = some .int) (hlk : meth.locks = false) {S : hm_S} {T : hm_T} {H : Heap} {locs : List Loc} {ls : Array Slot} (h : wp_4_readHeap S T Q) (hw : hm_w G H0 o 74 shX S T H) (hL : hm_L o 74 locs) (hl : lv_has ls 5 [(0, .ref (o + 70)), (1, .ref (o + 64))]) : W p l e rm_4_readHeap s m args below meth c H locs 0 0 (MQ below (hm_Qi G H0 o 74 shX Q) args s 0 0 (t_fr o (o + 74))) (F0 m 0 ls []) := by
  have hx := cx.1.1
  have hb := cx.1.2.1
  unfold wp_4_readHeap at h
  refine lv_aload_n hx hb d_4_readHeap_0 rfl (lv_at hl 1 rfl) ?_
  refine gf_4_49 cx hw (i := 64) (by decide) sx_64 rfl d_4_readHeap_1 ?_
  refine lv_istore_n (lv' := [(2, .int (S 64 2)), (0, .ref (o + 70)), (1, .ref (o + 64))]) hx hb d_4_readHeap_4 rfl hl (by decide) rfl (fun ls hl => ?_)
  refine lv_aload_n hx hb d_4_readHeap_5 rfl (lv_at hl 2 rfl) ?_
  refine hm_calli (hm_rV (i := 64) (As := []) (rest := []) cx hw (ct_9_nextDigit h) (mw_4_31 cx.1.2.2.2.2 ⟨Nat.le_of_ble_eq_true rfl, Nat.le_of_ble_eq_true rfl⟩) (by decide) sx_64 rfl rfl hl.1 rfl (Nat.le_of_ble_eq_true rfl) d_4_readHeap_6 ⟨Nat.zero_le _, Nat.zero_le _⟩) hL (fun r1 S1 T1 H locs h hw hL => ?_)
  refine lv_istore_n (lv' := [(3, .int r1), (2, .int (S 64 2)), (0, .ref (o + 70)), (1, .ref (o + 64))]) hx hb d_4_readHeap_9 rfl hl (by decide) rfl (fun ls hl => ?_)
  refine lv_iload_n hx hb d_4_readHeap_10 rfl (lv_at hl 0 rfl) ?_
  refine lv_iconst (v := (-1)) hx hb d_4_readHeap_11 (by decide) ?_
  refine lv_icmp_ne (tgt := 17) hx hb d_4_readHeap_12 (by decide) (fun hc => ?_) (fun hc => ?_)
  · replace h := hm_neg hc h
    refine lv_aload_n hx hb d_4_readHeap_17 rfl (lv_at hl 3 rfl) ?_
    refine lv_dup hx hb d_4_readHeap_18 rfl ?_
    refine gf_4_49 cx hw (i := 64) (by decide) sx_64 rfl d_4_readHeap_19 ?_
    refine lv_iconst (v := 1) hx hb d_4_readHeap_22 (by decide) ?_
    refine lv_iadd hx hb d_4_readHeap_23 ?_
    refine pf_4_49 cx hw (i := 64) (by decide) sx_64 rfl hL d_4_readHeap_24 (fun H locs hw hL => ?_)
    refine lv_aload_n hx hb d_4_readHeap_27 rfl (lv_at hl 3 rfl) ?_
    refine hm_calli (hm_rV (i := 64) (As := []) (rest := []) cx hw (ct_9_nextDigit h) (mw_4_31 cx.1.2.2.2.2 ⟨Nat.le_of_ble_eq_true rfl, Nat.le_of_ble_eq_true rfl⟩) (by decide) sx_64 rfl rfl hl.1 rfl (Nat.le_of_ble_eq_true rfl) d_4_readHeap_28 ⟨Nat.zero_le _, Nat.zero_le _⟩) hL (fun r2 S2 T2 H locs h hw hL => ?_)
    refine lv_iconst (v := (-1)) hx hb d_4_readHeap_31 (by decide) ?_
    refine lv_icmp_eq (tgt := 55) hx hb d_4_readHeap_32 (by decide) (fun hc => ?_) (fun hc => ?_)
    · replace h := hm_pos hc h
      exact bk_4_readHeap_55 cx hr hlk h hw hL (lv_sub hl [2, 3, 1, 0] rfl)
    · replace h := hm_neg hc h
      refine lv_bipush (v := 10) hx hb d_4_readHeap_35 (by decide) ?_
      refine lv_iload_n hx hb d_4_readHeap_37 rfl (lv_at hl 0 rfl) ?_
      refine lv_imul hx hb d_4_readHeap_38 ?_
      refine lv_aload_n hx hb d_4_readHeap_39 rfl (lv_at hl 3 rfl) ?_
      refine hm_calli (hm_rV (i := 64) (As := []) (rest := [.int (10 * r1)]) cx hw (ct_9_nextDigit h) (mw_4_31 cx.1.2.2.2.2 ⟨Nat.le_of_ble_eq_true rfl, Nat.le_of_ble_eq_true rfl⟩) (by decide) sx_64 rfl rfl hl.1 rfl (Nat.le_of_ble_eq_true rfl) d_4_readHeap_40 ⟨Nat.zero_le _, Nat.zero_le _⟩) hL (fun r8 S8 T8 H locs h hw hL => ?_)
      refine lv_iadd hx hb d_4_readHeap_43 ?_
      refine lv_istore_n (lv' := [(3, .int ((10 * r1) + r8)), (2, .int (S 64 2)), (0, .ref (o + 70)), (1, .ref (o + 64))]) hx hb d_4_readHeap_44 rfl hl (by decide) rfl (fun ls hl => ?_)
      refine lv_aload_n hx hb d_4_readHeap_45 rfl (lv_at hl 3 rfl) ?_
      refine lv_dup hx hb d_4_readHeap_46 rfl ?_
      refine gf_4_49 cx hw (i := 64) (by decide) sx_64 rfl d_4_readHeap_47 ?_
      refine lv_iconst (v := 1) hx hb d_4_readHeap_50 (by decide) ?_
      refine lv_iadd hx hb d_4_readHeap_51 ?_
      refine pf_4_49 cx hw (i := 64) (by decide) sx_64 rfl hL d_4_readHeap_52 (fun H locs hw hL => ?_)
      exact bk_4_readHeap_55 cx hr hlk h hw hL (lv_sub hl [2, 3, 1, 0] rfl)
  · replace h := hm_pos hc h
    refine lv_iload_n hx hb d_4_readHeap_15 rfl (lv_at hl 1 rfl) ?_
    exact W.iret hx hb hr (fun t ht _ => ⟨_, _, _, rfl, h, by rw [ht]; exact hw⟩) hL d_4_readHeap_16
set_option maxHeartbeats 4000000 in
set_option maxRecDepth 20000 in
theorem ct_4_readHeap {S : hm_S} {T : hm_T} {Q : Int32 → hm_S → hm_T → Prop} (h : wp_4_readHeap S T Q) : hm_M l G H0 o 74 shX y_4_readHeap prog_6_method_5_code 5 (some .int) rm_4_readHeap S T [.ref (o + 70), .ref (o + 64)] (hm_Qi G H0 o 74 shX Q) := by
  refine Met.ofW (cc := prog_6_method_5_code) (maxL := 5) (ret := some .int) (by decide) rfl ?_
  intro p e s m args below meth c s₁ B hml hv
  obtain ⟨rfl, hK, hw⟩ := hv
  have cx : hm_cx G p s m _ c prog_6_method_5_code 5 "HeapGames$PositionReader" := ⟨⟨B.exec, B.bytes, hml, findClass_of_methodNamed B.named, fun w hq => atoms_spec (ws := hm_ws y_4_readHeap prog_6_method_5_code 5 (some .int)) B.pre w (List.mem_cons_of_mem _ hq)⟩, hK⟩
  have hl := lv_entry ([.ref (o + 70), .ref (o + 64)]) (n := 5) (Nat.le_of_ble_eq_true rfl)
  rw [lg_entry_eq]
  generalize (lg_sl ([.ref (o + 70), .ref (o + 64)]) ++ List.replicate (5 - (lg_sl ([.ref (o + 70), .ref (o + 64)])).length) Slot.unset).toArray = ls at hl ⊢
  have hl : lv_has ls 5 [(0, .ref (o + 70)), (1, .ref (o + 64))] := hl
  exact bk_4_readHeap_0 cx B.returns B.notSynchronized h hw (hm_L0 _ _) hl
/-! ===== HeapGames$PositionReader.readHeaps(LHeapGames$Text;)I ===== -/
theorem d_4_readHeaps_0 : decode prog_6_method_4_code 0 = .ok (.aload_n 0, 1) := by decide +kernel
theorem d_4_readHeaps_1 : decode prog_6_method_4_code 1 = .ok (.aload_n 1, 1) := by decide +kernel
theorem d_4_readHeaps_2 : decode prog_6_method_4_code 2 = .ok (.invokevirtual 46, 3) := by decide +kernel
theorem d_4_readHeaps_5 : decode prog_6_method_4_code 5 = .ok (.istore_n 2, 1) := by decide +kernel
theorem d_4_readHeaps_6 : decode prog_6_method_4_code 6 = .ok (.iconst 0, 1) := by decide +kernel
theorem d_4_readHeaps_7 : decode prog_6_method_4_code 7 = .ok (.istore_n 3, 1) := by decide +kernel
theorem d_4_readHeaps_8 : decode prog_6_method_4_code 8 = .ok (.iload_n 3, 1) := by decide +kernel
theorem d_4_readHeaps_9 : decode prog_6_method_4_code 9 = .ok (.bipush 40, 2) := by decide +kernel
theorem d_4_readHeaps_11 : decode prog_6_method_4_code 11 = .ok (.if_icmp .ge 29, 3) := by decide +kernel
theorem d_4_readHeaps_14 : decode prog_6_method_4_code 14 = .ok (.iload_n 2, 1) := by decide +kernel
theorem d_4_readHeaps_15 : decode prog_6_method_4_code 15 = .ok (.iconst (-1), 1) := by decide +kernel
theorem d_4_readHeaps_16 : decode prog_6_method_4_code 16 = .ok (.if_icmp .ne 24, 3) := by decide +kernel
theorem d_4_readHeaps_19 : decode prog_6_method_4_code 19 = .ok (.aload_n 1, 1) := by decide +kernel
theorem d_4_readHeaps_20 : decode prog_6_method_4_code 20 = .ok (.bipush 43, 2) := by decide +kernel
theorem d_4_readHeaps_22 : decode prog_6_method_4_code 22 = .ok (.invokevirtual 39, 3) := by decide +kernel
theorem d_4_readHeaps_25 : decode prog_6_method_4_code 25 = .ok (.ifCond .eq 15, 3) := by decide +kernel
theorem d_4_readHeaps_28 : decode prog_6_method_4_code 28 = .ok (.aload_n 0, 1) := by decide +kernel
theorem d_4_readHeaps_29 : decode prog_6_method_4_code 29 = .ok (.aload_n 1, 1) := by decide +kernel
theorem d_4_readHeaps_30 : decode prog_6_method_4_code 30 = .ok (.invokevirtual 46, 3) := by decide +kernel
theorem d_4_readHeaps_33 : decode prog_6_method_4_code 33 = .ok (.istore_n 2, 1) := by decide +kernel
theorem d_4_readHeaps_34 : decode prog_6_method_4_code 34 = .ok (.iinc 3 1, 3) := by decide +kernel
theorem d_4_readHeaps_37 : decode prog_6_method_4_code 37 = .ok (.goto (-29), 3) := by decide +kernel
theorem d_4_readHeaps_40 : decode prog_6_method_4_code 40 = .ok (.iload_n 2, 1) := by decide +kernel
theorem d_4_readHeaps_41 : decode prog_6_method_4_code 41 = .ok (.ireturn, 1) := by decide +kernel
def wb_4_readHeaps_8 (Q : Int32 → hm_S → hm_T → Prop) (K8 : Int32 → Int32 → hm_S → hm_T → Prop) (x2 : Int32) (x3 : Int32) (S : hm_S) (T : hm_T) : Prop :=
  (if 40 ≤ x3 then Q x2 S T else (if x2 = (-1) then wp_9_takeSign 43 S T (fun r2 S2 T2 => (if r2 = 0 then Q x2 S2 T2 else wp_4_readHeap S2 T2 (fun r3 S3 T3 => K8 r3 (x3 + 1) S3 T3))) else Q x2 S T))
set_option maxHeartbeats 4000000 in
set_option maxRecDepth 20000 in
theorem bk_4_readHeaps_8 {Q : Int32 → hm_S → hm_T → Prop} {K8 : Int32 → Int32 → hm_S → hm_T → Prop} (cx : hm_cx G p s m args c prog_6_method_4_code 4 "HeapGames$PositionReader") (hr : meth.sig.returnType = some .int) (hlk : meth.locks = false) (k8 : ∀ (x2 : Int32) (x3 : Int32) (S : hm_S) (T : hm_T) (H : Heap) (locs : List Loc) (ls : Array Slot), K8 x2 x3 S T → hm_w G H0 o 74 shX S T H → hm_L o 74 locs → lv_has ls 4 [(0, .ref (o + 70)), (1, .ref (o + 64)), (2, .int x2), (3, .int x3)] → W p l e rm_4_readHeaps s m args below meth c H locs 0 0 (MQ below (hm_Qi G H0 o 74 shX Q) args s 0 0 (t_fr o (o + 74))) (F0 m 8 ls [])) {x2 : Int32} {x3 : Int32} {S : hm_S} {T : hm_T} {H : Heap} {locs : List Loc} {ls : Array Slot} (h : wb_4_readHeaps_8 Q K8 x2 x3 S T) (hw : hm_w G H0 o 74 shX S T H) (hL : hm_L o 74 locs) (hl : lv_has ls 4 [(0, .ref (o + 70)), (1, .ref (o + 64)), (2, .int x2), (3, .int x3)]) : W p l e rm_4_readHeaps s m args below meth c H locs 0 0 (MQ below (hm_Qi G H0 o 74 shX Q) args s 0 0 (t_fr o (o + 74))) (F0 m 8 ls []) := by
  have hx := cx.1.1
  have hb := cx.1.2.1
  unfold wb_4_readHeaps_8 at h
  refine lv_iload_n hx hb d_4_readHeaps_8 rfl (lv_at hl 3 rfl) ?_
  refine lv_bipush (v := 40) hx hb d_4_readHeaps_9 (by decide) ?_
  refine lv_icmp_ge (tgt := 40) hx hb d_4_readHeaps_11 (by decide) (fun hc => ?_) (fun hc => ?_)
  · replace h := hm_pos hc h
    refine lv_iload_n hx hb d_4_readHeaps_40 rfl (lv_at hl 2 rfl) ?_
    exact W.iret hx hb hr (fun t ht _ => ⟨_, _, _, rfl, h, by rw [ht]; exact hw⟩) hL d_4_readHeaps_41
  · replace h := hm_neg hc h
    refine lv_iload_n hx hb d_4_readHeaps_14 rfl (lv_at hl 2 rfl) ?_
    refine lv_iconst (v := (-1)) hx hb d_4_readHeaps_15 (by decide) ?_
    refine lv_icmp_ne (tgt := 40) hx hb d_4_readHeaps_16 (by decide) (fun hc => ?_) (fun hc => ?_)
    · replace h := hm_neg hc h
      refine lv_iload_n hx hb d_4_readHeaps_40 rfl (lv_at hl 2 rfl) ?_
      exact W.iret hx hb hr (fun t ht _ => ⟨_, _, _, rfl, h, by rw [ht]; exact hw⟩) hL d_4_readHeaps_41
    · replace h := hm_pos hc h
      refine lv_aload_n hx hb d_4_readHeaps_19 rfl (lv_at hl 1 rfl) ?_
      refine lv_bipush (v := 43) hx hb d_4_readHeaps_20 (by decide) ?_
      refine hm_calli (hm_rV (i := 64) (As := [.int 43]) (rest := []) cx hw (ct_9_takeSign h) (mw_4_39 cx.1.2.2.2.2 ⟨Nat.le_of_ble_eq_true rfl, Nat.le_of_ble_eq_true rfl⟩) (by decide) sx_64 rfl rfl hl.1 rfl (Nat.le_of_ble_eq_true rfl) d_4_readHeaps_22 ⟨Nat.zero_le _, Nat.zero_le _⟩) hL (fun r2 S2 T2 H locs h hw hL => ?_)
      refine lv_if_eq (tgt := 40) hx hb d_4_readHeaps_25 (by decide) (fun hc => ?_) (fun hc => ?_)
      · replace h := hm_pos hc h
        refine lv_iload_n hx hb d_4_readHeaps_40 rfl (lv_at hl 2 rfl) ?_
        exact W.iret hx hb hr (fun t ht _ => ⟨_, _, _, rfl, h, by rw [ht]; exact hw⟩) hL d_4_readHeaps_41
      · replace h := hm_neg hc h
        refine lv_aload_n hx hb d_4_readHeaps_28 rfl (lv_at hl 0 rfl) ?_
        refine lv_aload_n hx hb d_4_readHeaps_29 rfl (lv_at hl 1 rfl) ?_
        refine hm_calli (hm_rV (i := 70) (As := [.ref (o + 64)]) (rest := []) cx hw (ct_4_readHeap h) (mw_4_46 cx.1.2.2.2.2 ⟨Nat.le_of_ble_eq_true rfl, Nat.le_of_ble_eq_true rfl⟩) (by decide) sx_70 rfl rfl hl.1 rfl (Nat.le_of_ble_eq_true rfl) d_4_readHeaps_30 ⟨Nat.zero_le _, Nat.zero_le _⟩) hL (fun r3 S3 T3 H locs h hw hL => ?_)
        refine lv_istore_n (lv' := [(2, .int r3), (0, .ref (o + 70)), (1, .ref (o + 64)), (3, .int x3)]) hx hb d_4_readHeaps_33 rfl hl (by decide) rfl (fun ls hl => ?_)
        refine lv_iinc (v := (x3 + 1)) (lv' := [(3, .int (x3 + 1)), (2, .int r3), (0, .ref (o + 70)), (1, .ref (o + 64))]) hx hb d_4_readHeaps_34 hl (k := 3) rfl rfl (by decide) rfl (fun ls hl => ?_)
        refine lv_goto (tgt := 8) hx hb d_4_readHeaps_37 (by decide) ?_
        exact k8 _ _ _ _ _ _ _ h hw hL (lv_sub hl [2, 3, 1, 0] rfl)
def wl_4_readHeaps_8 (Q : Int32 → hm_S → hm_T → Prop) : Nat → Int32 → Int32 → hm_S → hm_T → Prop
  | 0, _, _, _, _ => False
  | f + 1, x2, x3, S, T => wb_4_readHeaps_8 Q (wl_4_readHeaps_8 Q f) x2 x3 S T
theorem lp_4_readHeaps_8 {Q : Int32 → hm_S → hm_T → Prop} (cx : hm_cx G p s m args c prog_6_method_4_code 4 "HeapGames$PositionReader") (hr : meth.sig.returnType = some .int) (hlk : meth.locks = false) : ∀ (f : Nat) (x2 : Int32) (x3 : Int32) (S : hm_S) (T : hm_T) (H : Heap) (locs : List Loc) (ls : Array Slot), wl_4_readHeaps_8 Q f x2 x3 S T → hm_w G H0 o 74 shX S T H → hm_L o 74 locs → lv_has ls 4 [(0, .ref (o + 70)), (1, .ref (o + 64)), (2, .int x2), (3, .int x3)] → W p l e rm_4_readHeaps s m args below meth c H locs 0 0 (MQ below (hm_Qi G H0 o 74 shX Q) args s 0 0 (t_fr o (o + 74))) (F0 m 8 ls []) := by
  intro f
  induction f with
  | zero => intro x2 x3 S T H locs ls h; exact h.elim
  | succ f ih => intro x2 x3 S T H locs ls h hw hL hl; exact bk_4_readHeaps_8 cx hr hlk ih h hw hL hl
def wp_4_readHeaps (S : hm_S) (T : hm_T) (Q : Int32 → hm_S → hm_T → Prop) : Prop :=
  wp_4_readHeap S T (fun r1 S1 T1 => ∃ f, wl_4_readHeaps_8 Q f r1 0 S1 T1)
set_option maxHeartbeats 4000000 in
set_option maxRecDepth 20000 in
theorem bk_4_readHeaps_0 {Q : Int32 → hm_S → hm_T → Prop} (cx : hm_cx G p s m args c prog_6_method_4_code 4 "HeapGames$PositionReader") (hr : meth.sig.returnType = some .int) (hlk : meth.locks = false) {S : hm_S} {T : hm_T} {H : Heap} {locs : List Loc} {ls : Array Slot} (h : wp_4_readHeaps S T Q) (hw : hm_w G H0 o 74 shX S T H) (hL : hm_L o 74 locs) (hl : lv_has ls 4 [(0, .ref (o + 70)), (1, .ref (o + 64))]) : W p l e rm_4_readHeaps s m args below meth c H locs 0 0 (MQ below (hm_Qi G H0 o 74 shX Q) args s 0 0 (t_fr o (o + 74))) (F0 m 0 ls []) := by
  have hx := cx.1.1
  have hb := cx.1.2.1
  unfold wp_4_readHeaps at h
  refine lv_aload_n hx hb d_4_readHeaps_0 rfl (lv_at hl 0 rfl) ?_
  refine lv_aload_n hx hb d_4_readHeaps_1 rfl (lv_at hl 1 rfl) ?_
  refine hm_calli (hm_rV (i := 70) (As := [.ref (o + 64)]) (rest := []) cx hw (ct_4_readHeap h) (mw_4_46 cx.1.2.2.2.2 ⟨Nat.le_of_ble_eq_true rfl, Nat.le_of_ble_eq_true rfl⟩) (by decide) sx_70 rfl rfl hl.1 rfl (Nat.le_of_ble_eq_true rfl) d_4_readHeaps_2 ⟨Nat.zero_le _, Nat.zero_le _⟩) hL (fun r1 S1 T1 H locs h hw hL => ?_)
  refine lv_istore_n (lv' := [(2, .int r1), (0, .ref (o + 70)), (1, .ref (o + 64))]) hx hb d_4_readHeaps_5 rfl hl (by decide) rfl (fun ls hl => ?_)
  refine lv_iconst (v := 0) hx hb d_4_readHeaps_6 (by decide) ?_
  refine lv_istore_n (lv' := [(3, .int 0), (2, .int r1), (0, .ref (o + 70)), (1, .ref (o + 64))]) hx hb d_4_readHeaps_7 rfl hl (by decide) rfl (fun ls hl => ?_)
  obtain ⟨f, h⟩ := h
  exact lp_4_readHeaps_8 cx hr hlk f _ _ _ _ _ _ _ h hw hL (lv_sub hl [2, 3, 1, 0] rfl)
set_option maxHeartbeats 4000000 in
set_option maxRecDepth 20000 in
theorem ct_4_readHeaps {S : hm_S} {T : hm_T} {Q : Int32 → hm_S → hm_T → Prop} (h : wp_4_readHeaps S T Q) : hm_M l G H0 o 74 shX y_4_readHeaps prog_6_method_4_code 4 (some .int) rm_4_readHeaps S T [.ref (o + 70), .ref (o + 64)] (hm_Qi G H0 o 74 shX Q) := by
  refine Met.ofW (cc := prog_6_method_4_code) (maxL := 4) (ret := some .int) (by decide) rfl ?_
  intro p e s m args below meth c s₁ B hml hv
  obtain ⟨rfl, hK, hw⟩ := hv
  have cx : hm_cx G p s m _ c prog_6_method_4_code 4 "HeapGames$PositionReader" := ⟨⟨B.exec, B.bytes, hml, findClass_of_methodNamed B.named, fun w hq => atoms_spec (ws := hm_ws y_4_readHeaps prog_6_method_4_code 4 (some .int)) B.pre w (List.mem_cons_of_mem _ hq)⟩, hK⟩
  have hl := lv_entry ([.ref (o + 70), .ref (o + 64)]) (n := 4) (Nat.le_of_ble_eq_true rfl)
  rw [lg_entry_eq]
  generalize (lg_sl ([.ref (o + 70), .ref (o + 64)]) ++ List.replicate (4 - (lg_sl ([.ref (o + 70), .ref (o + 64)])).length) Slot.unset).toArray = ls at hl ⊢
  have hl : lv_has ls 4 [(0, .ref (o + 70)), (1, .ref (o + 64))] := hl
  exact bk_4_readHeaps_0 cx B.returns B.notSynchronized h hw (hm_L0 _ _) hl
/-! ===== HeapGames$PositionReader.faultOf(LHeapGames$Text;)I ===== -/
theorem d_4_faultOf_0 : decode prog_6_method_3_code 0 = .ok (.aload_n 0, 1) := by decide +kernel
theorem d_4_faultOf_1 : decode prog_6_method_3_code 1 = .ok (.iconst 0, 1) := by decide +kernel
theorem d_4_faultOf_2 : decode prog_6_method_3_code 2 = .ok (.putfield 15, 3) := by decide +kernel
theorem d_4_faultOf_5 : decode prog_6_method_3_code 5 = .ok (.aload_n 1, 1) := by decide +kernel
theorem d_4_faultOf_6 : decode prog_6_method_3_code 6 = .ok (.invokevirtual 26, 3) := by decide +kernel
theorem d_4_faultOf_9 : decode prog_6_method_3_code 9 = .ok (.aload_n 1, 1) := by decide +kernel
theorem d_4_faultOf_10 : decode prog_6_method_3_code 10 = .ok (.invokevirtual 31, 3) := by decide +kernel
theorem d_4_faultOf_13 : decode prog_6_method_3_code 13 = .ok (.iconst (-1), 1) := by decide +kernel
theorem d_4_faultOf_14 : decode prog_6_method_3_code 14 = .ok (.if_icmp .eq 11, 3) := by decide +kernel
theorem d_4_faultOf_17 : decode prog_6_method_3_code 17 = .ok (.aload_n 0, 1) := by decide +kernel
theorem d_4_faultOf_18 : decode prog_6_method_3_code 18 = .ok (.aload_n 1, 1) := by decide +kernel
theorem d_4_faultOf_19 : decode prog_6_method_3_code 19 = .ok (.invokevirtual 35, 3) := by decide +kernel
theorem d_4_faultOf_22 : decode prog_6_method_3_code 22 = .ok (.goto 4, 3) := by decide +kernel
theorem d_4_faultOf_25 : decode prog_6_method_3_code 25 = .ok (.iconst (-1), 1) := by decide +kernel
theorem d_4_faultOf_26 : decode prog_6_method_3_code 26 = .ok (.istore_n 2, 1) := by decide +kernel
theorem d_4_faultOf_27 : decode prog_6_method_3_code 27 = .ok (.iload_n 2, 1) := by decide +kernel
theorem d_4_faultOf_28 : decode prog_6_method_3_code 28 = .ok (.iconst (-1), 1) := by decide +kernel
theorem d_4_faultOf_29 : decode prog_6_method_3_code 29 = .ok (.if_icmp .eq 5, 3) := by decide +kernel
theorem d_4_faultOf_32 : decode prog_6_method_3_code 32 = .ok (.iload_n 2, 1) := by decide +kernel
theorem d_4_faultOf_33 : decode prog_6_method_3_code 33 = .ok (.ireturn, 1) := by decide +kernel
theorem d_4_faultOf_34 : decode prog_6_method_3_code 34 = .ok (.aload_n 0, 1) := by decide +kernel
theorem d_4_faultOf_35 : decode prog_6_method_3_code 35 = .ok (.aload_n 1, 1) := by decide +kernel
theorem d_4_faultOf_36 : decode prog_6_method_3_code 36 = .ok (.bipush 112, 2) := by decide +kernel
theorem d_4_faultOf_38 : decode prog_6_method_3_code 38 = .ok (.invokevirtual 39, 3) := by decide +kernel
theorem d_4_faultOf_41 : decode prog_6_method_3_code 41 = .ok (.ifCond .eq 7, 3) := by decide +kernel
theorem d_4_faultOf_44 : decode prog_6_method_3_code 44 = .ok (.iconst 1, 1) := by decide +kernel
theorem d_4_faultOf_45 : decode prog_6_method_3_code 45 = .ok (.goto 4, 3) := by decide +kernel
theorem d_4_faultOf_48 : decode prog_6_method_3_code 48 = .ok (.iconst 0, 1) := by decide +kernel
theorem d_4_faultOf_49 : decode prog_6_method_3_code 49 = .ok (.putfield 19, 3) := by decide +kernel
theorem d_4_faultOf_52 : decode prog_6_method_3_code 52 = .ok (.aload_n 1, 1) := by decide +kernel
theorem d_4_faultOf_53 : decode prog_6_method_3_code 53 = .ok (.invokevirtual 43, 3) := by decide +kernel
theorem d_4_faultOf_56 : decode prog_6_method_3_code 56 = .ok (.ireturn, 1) := by decide +kernel
def wb_4_faultOf_49 (Q : Int32 → hm_S → hm_T → Prop) (z0 : Int32) (S : hm_S) (T : hm_T) : Prop :=
  wp_9_faultOfRest (hm_up S 70 2 z0) T (fun r4 S4 T4 => Q r4 S4 T4)
set_option maxHeartbeats 4000000 in
set_option maxRecDepth 20000 in
theorem bk_4_faultOf_49 {Q : Int32 → hm_S → hm_T → Prop} (cx : hm_cx G p s m args c prog_6_method_3_code 3 "HeapGames$PositionReader") (hr : meth.sig.returnType = some .int) (hlk : meth.locks = false) {z0 : Int32} {S : hm_S} {T : hm_T} {H : Heap} {locs : List Loc} {ls : Array Slot} (h : wb_4_faultOf_49 Q z0 S T) (hw : hm_w G H0 o 74 shX S T H) (hL : hm_L o 74 locs) (hl : lv_has ls 3 [(1, .ref (o + 64))]) : W p l e rm_4_faultOf s m args below meth c H locs 0 0 (MQ below (hm_Qi G H0 o 74 shX Q) args s 0 0 (t_fr o (o + 74))) (F0 m 49 ls [.int z0, .ref (o + 70)]) := by
  have hx := cx.1.1
  have hb := cx.1.2.1
  unfold wb_4_faultOf_49 at h
  refine pf_4_19 cx hw (i := 70) (by decide) sx_70 rfl hL d_4_faultOf_49 (fun H locs hw hL => ?_)
  refine lv_aload_n hx hb d_4_faultOf_52 rfl (lv_at hl 0 rfl) ?_
  refine hm_calli (hm_rV (i := 64) (As := []) (rest := []) cx hw (ct_9_faultOfRest h) (mw_4_43 cx.1.2.2.2.2 ⟨Nat.le_of_ble_eq_true rfl, Nat.le_of_ble_eq_true rfl⟩) (by decide) sx_64 rfl rfl hl.1 rfl (Nat.le_of_ble_eq_true rfl) d_4_faultOf_53 ⟨Nat.zero_le _, Nat.zero_le _⟩) hL (fun r4 S4 T4 H locs h hw hL => ?_)
  exact W.iret hx hb hr (fun t ht _ => ⟨_, _, _, rfl, h, by rw [ht]; exact hw⟩) hL d_4_faultOf_56
def wb_4_faultOf_26 (Q : Int32 → hm_S → hm_T → Prop) (z0 : Int32) (S : hm_S) (T : hm_T) : Prop :=
  (if z0 = (-1) then wp_9_takeSign 112 S T (fun r3 S3 T3 => (if r3 = 0 then wb_4_faultOf_49 Q 0 S3 T3 else wb_4_faultOf_49 Q 1 S3 T3)) else Q z0 S T)
set_option maxHeartbeats 4000000 in
set_option maxRecDepth 20000 in
theorem bk_4_faultOf_26 {Q : Int32 → hm_S → hm_T → Prop} (cx : hm_cx G p s m args c prog_6_method_3_code 3 "HeapGames$PositionReader") (hr : meth.sig.returnType = some .int) (hlk : meth.locks = false) {z0 : Int32} {S : hm_S} {T : hm_T} {H : Heap} {locs : List Loc} {ls : Array Slot} (h : wb_4_faultOf_26 Q z0 S T) (hw : hm_w G H0 o 74 shX S T H) (hL : hm_L o 74 locs) (hl : lv_has ls 3 [(0, .ref (o + 70)), (1, .ref (o + 64))]) : W p l e rm_4_faultOf s m args below meth c H locs 0 0 (MQ below (hm_Qi G H0 o 74 shX Q) args s 0 0 (t_fr o (o + 74))) (F0 m 26 ls [.int z0]) := by
  have hx := cx.1.1
  have hb := cx.1.2.1
  unfold wb_4_faultOf_26 at h
  refine lv_istore_n (lv' := [(2, .int z0), (0, .ref (o + 70)), (1, .ref (o + 64))]) hx hb d_4_faultOf_26 rfl hl (by decide) rfl (fun ls hl => ?_)
  refine lv_iload_n hx hb d_4_faultOf_27 rfl (lv_at hl 0 rfl) ?_
  refine lv_iconst (v := (-1)) hx hb d_4_faultOf_28 (by decide) ?_
  refine lv_icmp_eq (tgt := 34) hx hb d_4_faultOf_29 (by decide) (fun hc => ?_) (fun hc => ?_)
  · replace h := hm_pos hc h
    refine lv_aload_n hx hb d_4_faultOf_34 rfl (lv_at hl 1 rfl) ?_
    refine lv_aload_n hx hb d_4_faultOf_35 rfl (lv_at hl 2 rfl) ?_
    refine lv_bipush (v := 112) hx hb d_4_faultOf_36 (by decide) ?_
    refine hm_calli (hm_rV (i := 64) (As := [.int 112]) (rest := [.ref (o + 70)]) cx hw (ct_9_takeSign h) (mw_4_39 cx.1.2.2.2.2 ⟨Nat.le_of_ble_eq_true rfl, Nat.le_of_ble_eq_true rfl⟩) (by decide) sx_64 rfl rfl hl.1 rfl (Nat.le_of_ble_eq_true rfl) d_4_faultOf_38 ⟨Nat.zero_le _, Nat.zero_le _⟩) hL (fun r3 S3 T3 H locs h hw hL => ?_)
    refine lv_if_eq (tgt := 48) hx hb d_4_faultOf_41 (by decide) (fun hc => ?_) (fun hc => ?_)
    · replace h := hm_pos hc h
      refine lv_iconst (v := 0) hx hb d_4_faultOf_48 (by decide) ?_
      exact bk_4_faultOf_49 cx hr hlk h hw hL (lv_sub hl [2] rfl)
    · replace h := hm_neg hc h
      refine lv_iconst (v := 1) hx hb d_4_faultOf_44 (by decide) ?_
      refine lv_goto (tgt := 49) hx hb d_4_faultOf_45 (by decide) ?_
      exact bk_4_faultOf_49 cx hr hlk h hw hL (lv_sub hl [2] rfl)
  · replace h := hm_neg hc h
    refine lv_iload_n hx hb d_4_faultOf_32 rfl (lv_at hl 0 rfl) ?_
    exact W.iret hx hb hr (fun t ht _ => ⟨_, _, _, rfl, h, by rw [ht]; exact hw⟩) hL d_4_faultOf_33
def wp_4_faultOf (S : hm_S) (T : hm_T) (Q : Int32 → hm_S → hm_T → Prop) : Prop :=
  wp_9_startReading (hm_up S 70 1 0) T (fun S1 T1 => wp_9_nextDigit S1 T1 (fun r2 S2 T2 => (if r2 = (-1) then wb_4_faultOf_26 Q (-1) S2 T2 else wp_4_readHeaps S2 T2 (fun r5 S5 T5 => wb_4_faultOf_26 Q r5 S5 T5))))
set_option maxHeartbeats 4000000 in
set_option maxRecDepth 20000 in
theorem bk_4_faultOf_0 {Q : Int32 → hm_S → hm_T → Prop} (cx : hm_cx G p s m args c prog_6_method_3_code 3 "HeapGames$PositionReader") (hr : meth.sig.returnType = some .int) (hlk : meth.locks = false) {S : hm_S} {T : hm_T} {H : Heap} {locs : List Loc} {ls : Array Slot} (h : wp_4_faultOf S T Q) (hw : hm_w G H0 o 74 shX S T H) (hL : hm_L o 74 locs) (hl : lv_has ls 3 [(0, .ref (o + 70)), (1, .ref (o + 64))]) : W p l e rm_4_faultOf s m args below meth c H locs 0 0 (MQ below (hm_Qi G H0 o 74 shX Q) args s 0 0 (t_fr o (o + 74))) (F0 m 0 ls []) := by
  have hx := cx.1.1
  have hb := cx.1.2.1
  unfold wp_4_faultOf at h
  refine lv_aload_n hx hb d_4_faultOf_0 rfl (lv_at hl 0 rfl) ?_
  refine lv_iconst (v := 0) hx hb d_4_faultOf_1 (by decide) ?_
  refine pf_4_15 cx hw (i := 70) (by decide) sx_70 rfl hL d_4_faultOf_2 (fun H locs hw hL => ?_)
  refine lv_aload_n hx hb d_4_faultOf_5 rfl (lv_at hl 1 rfl) ?_
  refine hm_callv (hm_rV (i := 64) (As := []) (rest := []) cx hw (ct_9_startReading h) (mw_4_26 cx.1.2.2.2.2 ⟨Nat.le_of_ble_eq_true rfl, Nat.le_of_ble_eq_true rfl⟩) (by decide) sx_64 rfl rfl hl.1 rfl (Nat.le_of_ble_eq_true rfl) d_4_faultOf_6 ⟨Nat.zero_le _, Nat.zero_le _⟩) hL (fun S1 T1 H locs h hw hL => ?_)
  refine lv_aload_n hx hb d_4_faultOf_9 rfl (lv_at hl 1 rfl) ?_
  refine hm_calli (hm_rV (i := 64) (As := []) (rest := []) cx hw (ct_9_nextDigit h) (mw_4_31 cx.1.2.2.2.2 ⟨Nat.le_of_ble_eq_true rfl, Nat.le_of_ble_eq_true rfl⟩) (by decide) sx_64 rfl rfl hl.1 rfl (Nat.le_of_ble_eq_true rfl) d_4_faultOf_10 ⟨Nat.zero_le _, Nat.zero_le _⟩) hL (fun r2 S2 T2 H locs h hw hL => ?_)
  refine lv_iconst (v := (-1)) hx hb d_4_faultOf_13 (by decide) ?_
  refine lv_icmp_eq (tgt := 25) hx hb d_4_faultOf_14 (by decide) (fun hc => ?_) (fun hc => ?_)
  · replace h := hm_pos hc h
    refine lv_iconst (v := (-1)) hx hb d_4_faultOf_25 (by decide) ?_
    exact bk_4_faultOf_26 cx hr hlk h hw hL (lv_sub hl [0, 1] rfl)
  · replace h := hm_neg hc h
    refine lv_aload_n hx hb d_4_faultOf_17 rfl (lv_at hl 0 rfl) ?_
    refine lv_aload_n hx hb d_4_faultOf_18 rfl (lv_at hl 1 rfl) ?_
    refine hm_calli (hm_rV (i := 70) (As := [.ref (o + 64)]) (rest := []) cx hw (ct_4_readHeaps h) (mw_4_35 cx.1.2.2.2.2 ⟨Nat.le_of_ble_eq_true rfl, Nat.le_of_ble_eq_true rfl⟩) (by decide) sx_70 rfl rfl hl.1 rfl (Nat.le_of_ble_eq_true rfl) d_4_faultOf_19 ⟨Nat.zero_le _, Nat.zero_le _⟩) hL (fun r5 S5 T5 H locs h hw hL => ?_)
    refine lv_goto (tgt := 26) hx hb d_4_faultOf_22 (by decide) ?_
    exact bk_4_faultOf_26 cx hr hlk h hw hL (lv_sub hl [0, 1] rfl)
set_option maxHeartbeats 4000000 in
set_option maxRecDepth 20000 in
theorem ct_4_faultOf {S : hm_S} {T : hm_T} {Q : Int32 → hm_S → hm_T → Prop} (h : wp_4_faultOf S T Q) : hm_M l G H0 o 74 shX y_4_faultOf prog_6_method_3_code 3 (some .int) rm_4_faultOf S T [.ref (o + 70), .ref (o + 64)] (hm_Qi G H0 o 74 shX Q) := by
  refine Met.ofW (cc := prog_6_method_3_code) (maxL := 3) (ret := some .int) (by decide) rfl ?_
  intro p e s m args below meth c s₁ B hml hv
  obtain ⟨rfl, hK, hw⟩ := hv
  have cx : hm_cx G p s m _ c prog_6_method_3_code 3 "HeapGames$PositionReader" := ⟨⟨B.exec, B.bytes, hml, findClass_of_methodNamed B.named, fun w hq => atoms_spec (ws := hm_ws y_4_faultOf prog_6_method_3_code 3 (some .int)) B.pre w (List.mem_cons_of_mem _ hq)⟩, hK⟩
  have hl := lv_entry ([.ref (o + 70), .ref (o + 64)]) (n := 3) (Nat.le_of_ble_eq_true rfl)
  rw [lg_entry_eq]
  generalize (lg_sl ([.ref (o + 70), .ref (o + 64)]) ++ List.replicate (3 - (lg_sl ([.ref (o + 70), .ref (o + 64)])).length) Slot.unset).toArray = ls at hl ⊢
  have hl : lv_has ls 3 [(0, .ref (o + 70)), (1, .ref (o + 64))] := hl
  exact bk_4_faultOf_0 cx B.returns B.notSynchronized h hw (hm_L0 _ _) hl
end WK
