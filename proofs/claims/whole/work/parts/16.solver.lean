section WK
variable {p : Program} {l : Launch} {e : Env} {s : State} {m : MethodId} {args : Array Value} {below : List Frame} {meth : Method} {c : Code} {G : hm_G} {H0 : Heap} {o n : Nat} {sh : hm_Sh}
/-! ===== HeapGames$Solver.forget()V ===== -/
theorem d_8_forget_0 : decode prog_10_method_2_code 0 = .ok (.aload_n 0, 1) := by decide +kernel
theorem d_8_forget_1 : decode prog_10_method_2_code 1 = .ok (.getfield 14, 3) := by decide +kernel
theorem d_8_forget_4 : decode prog_10_method_2_code 4 = .ok (.invokevirtual 58, 3) := by decide +kernel
theorem d_8_forget_7 : decode prog_10_method_2_code 7 = .ok (.aload_n 0, 1) := by decide +kernel
theorem d_8_forget_8 : decode prog_10_method_2_code 8 = .ok (.iconst 0, 1) := by decide +kernel
theorem d_8_forget_9 : decode prog_10_method_2_code 9 = .ok (.putfield 61, 3) := by decide +kernel
theorem d_8_forget_12 : decode prog_10_method_2_code 12 = .ok (.aload_n 0, 1) := by decide +kernel
theorem d_8_forget_13 : decode prog_10_method_2_code 13 = .ok (.iconst 0, 1) := by decide +kernel
theorem d_8_forget_14 : decode prog_10_method_2_code 14 = .ok (.putfield 65, 3) := by decide +kernel
theorem d_8_forget_17 : decode prog_10_method_2_code 17 = .ok (.return_, 1) := by decide +kernel
def wp_8_forget (S : hm_S) (T : hm_T) (Q : hm_S → hm_T → Prop) : Prop :=
  wp_5_clear 37 2430 S T (fun S1 T1 => Q (hm_up (hm_up S1 36 13 0) 36 15 0) T1)
set_option maxHeartbeats 4000000 in
set_option maxRecDepth 20000 in
theorem bk_8_forget_0 {Q : hm_S → hm_T → Prop} (cx : hm_cx G p s m args c prog_10_method_2_code 1 "HeapGames$Solver") (hr : meth.sig.returnType = none) (hlk : meth.locks = false) {S : hm_S} {T : hm_T} {H : Heap} {locs : List Loc} {ls : Array Slot} (h : wp_8_forget S T Q) (hw : hm_w G H0 o 74 shX S T H) (hL : hm_L o 74 locs) (hl : lv_has ls 1 [(0, .ref (o + 36))]) : W p l e rm_8_forget s m args below meth c H locs 0 0 (MQ below (hm_Qv G H0 o 74 shX Q) args s 0 0 (t_fr o (o + 74))) (F0 m 0 ls []) := by
  have hx := cx.1.1
  have hb := cx.1.2.1
  unfold wp_8_forget at h
  refine lv_aload_n hx hb d_8_forget_0 rfl (lv_at hl 0 rfl) ?_
  refine gf_8_14 cx hw (i := 36) (r := 37) (by decide) sx_36 rfl d_8_forget_1 ?_
  refine hm_callv (hm_rV (i := 37) (As := []) (rest := []) cx hw (ct_5_clear (by decide) sx_37 sx_38 h) (mw_8_58 cx.1.2.2.2.2 ⟨Nat.le_of_ble_eq_true rfl, Nat.le_of_ble_eq_true rfl⟩) (by decide) sx_37 rfl rfl hl.1 rfl (Nat.le_of_ble_eq_true rfl) d_8_forget_4 ⟨Nat.zero_le _, Nat.zero_le _⟩) hL (fun S1 T1 H locs h hw hL => ?_)
  refine lv_aload_n hx hb d_8_forget_7 rfl (lv_at hl 0 rfl) ?_
  refine lv_iconst (v := 0) hx hb d_8_forget_8 (by decide) ?_
  refine pf_8_61 cx hw (i := 36) (by decide) sx_36 rfl hL d_8_forget_9 (fun H locs hw hL => ?_)
  refine lv_aload_n hx hb d_8_forget_12 rfl (lv_at hl 0 rfl) ?_
  refine lv_iconst (v := 0) hx hb d_8_forget_13 (by decide) ?_
  refine pf_8_65 cx hw (i := 36) (by decide) sx_36 rfl hm_b0 hL d_8_forget_14 (fun H locs hw hL => ?_)
  exact W.vret hx hb hr (fun t ht _ => ⟨_, _, rfl, h, by rw [ht]; exact hw⟩) hL d_8_forget_17
set_option maxHeartbeats 4000000 in
set_option maxRecDepth 20000 in
theorem ct_8_forget {S : hm_S} {T : hm_T} {Q : hm_S → hm_T → Prop} (h : wp_8_forget S T Q) : hm_M l G H0 o 74 shX y_8_forget prog_10_method_2_code 1 (none) rm_8_forget S T [.ref (o + 36)] (hm_Qv G H0 o 74 shX Q) := by
  refine Met.ofW (cc := prog_10_method_2_code) (maxL := 1) (ret := none) (by decide) rfl ?_
  intro p e s m args below meth c s₁ B hml hv
  obtain ⟨rfl, hK, hw⟩ := hv
  have cx : hm_cx G p s m _ c prog_10_method_2_code 1 "HeapGames$Solver" := ⟨⟨B.exec, B.bytes, hml, findClass_of_methodNamed B.named, fun w hq => atoms_spec (ws := hm_ws y_8_forget prog_10_method_2_code 1 (none)) B.pre w (List.mem_cons_of_mem _ hq)⟩, hK⟩
  have hl := lv_entry ([.ref (o + 36)]) (n := 1) (Nat.le_of_ble_eq_true rfl)
  rw [lg_entry_eq]
  generalize (lg_sl ([.ref (o + 36)]) ++ List.replicate (1 - (lg_sl ([.ref (o + 36)])).length) Slot.unset).toArray = ls at hl ⊢
  have hl : lv_has ls 1 [(0, .ref (o + 36))] := hl
  exact bk_8_forget_0 cx B.returns B.notSynchronized h hw (hm_L0 _ _) hl
/-! ===== HeapGames$Solver.numberFor(I)I ===== -/
theorem d_8_numberFor_0 : decode prog_10_method_8_code 0 = .ok (.aload_n 0, 1) := by decide +kernel
theorem d_8_numberFor_1 : decode prog_10_method_8_code 1 = .ok (.getfield 14, 3) := by decide +kernel
theorem d_8_numberFor_4 : decode prog_10_method_8_code 4 = .ok (.iload_n 1, 1) := by decide +kernel
theorem d_8_numberFor_5 : decode prog_10_method_8_code 5 = .ok (.invokevirtual 73, 3) := by decide +kernel
theorem d_8_numberFor_8 : decode prog_10_method_8_code 8 = .ok (.iconst 1, 1) := by decide +kernel
theorem d_8_numberFor_9 : decode prog_10_method_8_code 9 = .ok (.isub, 1) := by decide +kernel
theorem d_8_numberFor_10 : decode prog_10_method_8_code 10 = .ok (.istore_n 2, 1) := by decide +kernel
theorem d_8_numberFor_11 : decode prog_10_method_8_code 11 = .ok (.iload_n 2, 1) := by decide +kernel
theorem d_8_numberFor_12 : decode prog_10_method_8_code 12 = .ok (.ifCond .lt 5, 3) := by decide +kernel
theorem d_8_numberFor_15 : decode prog_10_method_8_code 15 = .ok (.iload_n 2, 1) := by decide +kernel
theorem d_8_numberFor_16 : decode prog_10_method_8_code 16 = .ok (.ireturn, 1) := by decide +kernel
theorem d_8_numberFor_17 : decode prog_10_method_8_code 17 = .ok (.aload_n 0, 1) := by decide +kernel
theorem d_8_numberFor_18 : decode prog_10_method_8_code 18 = .ok (.iconst 0, 1) := by decide +kernel
theorem d_8_numberFor_19 : decode prog_10_method_8_code 19 = .ok (.putfield 65, 3) := by decide +kernel
theorem d_8_numberFor_22 : decode prog_10_method_8_code 22 = .ok (.aload_n 0, 1) := by decide +kernel
theorem d_8_numberFor_23 : decode prog_10_method_8_code 23 = .ok (.getfield 20, 3) := by decide +kernel
theorem d_8_numberFor_26 : decode prog_10_method_8_code 26 = .ok (.aload_n 0, 1) := by decide +kernel
theorem d_8_numberFor_27 : decode prog_10_method_8_code 27 = .ok (.getfield 61, 3) := by decide +kernel
theorem d_8_numberFor_30 : decode prog_10_method_8_code 30 = .ok (.iload_n 1, 1) := by decide +kernel
theorem d_8_numberFor_31 : decode prog_10_method_8_code 31 = .ok (.invokevirtual 87, 3) := by decide +kernel
theorem d_8_numberFor_34 : decode prog_10_method_8_code 34 = .ok (.aload_n 0, 1) := by decide +kernel
theorem d_8_numberFor_35 : decode prog_10_method_8_code 35 = .ok (.dup, 1) := by decide +kernel
theorem d_8_numberFor_36 : decode prog_10_method_8_code 36 = .ok (.getfield 61, 3) := by decide +kernel
theorem d_8_numberFor_39 : decode prog_10_method_8_code 39 = .ok (.iconst 1, 1) := by decide +kernel
theorem d_8_numberFor_40 : decode prog_10_method_8_code 40 = .ok (.iadd, 1) := by decide +kernel
theorem d_8_numberFor_41 : decode prog_10_method_8_code 41 = .ok (.putfield 61, 3) := by decide +kernel
theorem d_8_numberFor_44 : decode prog_10_method_8_code 44 = .ok (.aload_n 0, 1) := by decide +kernel
theorem d_8_numberFor_45 : decode prog_10_method_8_code 45 = .ok (.getfield 14, 3) := by decide +kernel
theorem d_8_numberFor_48 : decode prog_10_method_8_code 48 = .ok (.iload_n 1, 1) := by decide +kernel
theorem d_8_numberFor_49 : decode prog_10_method_8_code 49 = .ok (.aload_n 0, 1) := by decide +kernel
theorem d_8_numberFor_50 : decode prog_10_method_8_code 50 = .ok (.getfield 61, 3) := by decide +kernel
theorem d_8_numberFor_53 : decode prog_10_method_8_code 53 = .ok (.invokevirtual 87, 3) := by decide +kernel
theorem d_8_numberFor_56 : decode prog_10_method_8_code 56 = .ok (.aload_n 0, 1) := by decide +kernel
theorem d_8_numberFor_57 : decode prog_10_method_8_code 57 = .ok (.getfield 61, 3) := by decide +kernel
theorem d_8_numberFor_60 : decode prog_10_method_8_code 60 = .ok (.iconst 1, 1) := by decide +kernel
theorem d_8_numberFor_61 : decode prog_10_method_8_code 61 = .ok (.isub, 1) := by decide +kernel
theorem d_8_numberFor_62 : decode prog_10_method_8_code 62 = .ok (.ireturn, 1) := by decide +kernel
def wp_8_numberFor (x1 : Int32) (S : hm_S) (T : hm_T) (Q : Int32 → hm_S → hm_T → Prop) : Prop :=
  wp_5_get 37 2430 x1 S T (fun r1 S1 T1 => (if (r1 - 1) < 0 then wp_5_set 39 2430 ((hm_up S1 36 15 0) 36 13) x1 (hm_up S1 36 15 0) T1 (fun S2 T2 => wp_5_set 37 2430 x1 ((hm_up S2 36 13 ((S2 36 13) + 1)) 36 13) (hm_up S2 36 13 ((S2 36 13) + 1)) T2 (fun S3 T3 => Q ((S3 36 13) - 1) S3 T3)) else Q (r1 - 1) S1 T1))
set_option maxHeartbeats 4000000 in
set_option maxRecDepth 20000 in
theorem bk_8_numberFor_0 {Q : Int32 → hm_S → hm_T → Prop} (cx : hm_cx G p s m args c prog_10_method_8_code 3 "HeapGames$Solver") (hr : meth.sig.returnType = some .int) (hlk : meth.locks = false) {x1 : Int32} {S : hm_S} {T : hm_T} {H : Heap} {locs : List Loc} {ls : Array Slot} (h : wp_8_numberFor x1 S T Q) (hw : hm_w G H0 o 74 shX S T H) (hL : hm_L o 74 locs) (hl : lv_has ls 3 [(0, .ref (o + 36)), (1, .int x1)]) : W p l e rm_8_numberFor s m args below meth c H locs 0 0 (MQ below (hm_Qi G H0 o 74 shX Q) args s 0 0 (t_fr o (o + 74))) (F0 m 0 ls []) := by
  have hx := cx.1.1
  have hb := cx.1.2.1
  unfold wp_8_numberFor at h
  refine lv_aload_n hx hb d_8_numberFor_0 rfl (lv_at hl 0 rfl) ?_
  refine gf_8_14 cx hw (i := 36) (r := 37) (by decide) sx_36 rfl d_8_numberFor_1 ?_
  refine lv_iload_n hx hb d_8_numberFor_4 rfl (lv_at hl 1 rfl) ?_
  refine hm_calli (hm_rV (i := 37) (As := [.int x1]) (rest := []) cx hw (ct_5_get (by decide) sx_37 sx_38 h) (mw_8_73 cx.1.2.2.2.2 ⟨Nat.le_of_ble_eq_true rfl, Nat.le_of_ble_eq_true rfl⟩) (by decide) sx_37 rfl rfl hl.1 rfl (Nat.le_of_ble_eq_true rfl) d_8_numberFor_5 ⟨Nat.zero_le _, Nat.zero_le _⟩) hL (fun r1 S1 T1 H locs h hw hL => ?_)
  refine lv_iconst (v := 1) hx hb d_8_numberFor_8 (by decide) ?_
  refine lv_isub hx hb d_8_numberFor_9 ?_
  refine lv_istore_n (lv' := [(2, .int (r1 - 1)), (0, .ref (o + 36)), (1, .int x1)]) hx hb d_8_numberFor_10 rfl hl (by decide) rfl (fun ls hl => ?_)
  refine lv_iload_n hx hb d_8_numberFor_11 rfl (lv_at hl 0 rfl) ?_
  refine lv_if_lt (tgt := 17) hx hb d_8_numberFor_12 (by decide) (fun hc => ?_) (fun hc => ?_)
  · replace h := hm_pos hc h
    refine lv_aload_n hx hb d_8_numberFor_17 rfl (lv_at hl 1 rfl) ?_
    refine lv_iconst (v := 0) hx hb d_8_numberFor_18 (by decide) ?_
    refine pf_8_65 cx hw (i := 36) (by decide) sx_36 rfl hm_b0 hL d_8_numberFor_19 (fun H locs hw hL => ?_)
    refine lv_aload_n hx hb d_8_numberFor_22 rfl (lv_at hl 1 rfl) ?_
    refine gf_8_20 cx hw (i := 36) (r := 39) (by decide) sx_36 rfl d_8_numberFor_23 ?_
    refine lv_aload_n hx hb d_8_numberFor_26 rfl (lv_at hl 1 rfl) ?_
    refine gf_8_61 cx hw (i := 36) (by decide) sx_36 rfl d_8_numberFor_27 ?_
    refine lv_iload_n hx hb d_8_numberFor_30 rfl (lv_at hl 2 rfl) ?_
    refine hm_callv (hm_rV (i := 39) (As := [.int ((hm_up S1 36 15 0) 36 13), .int x1]) (rest := []) cx hw (ct_5_set (by decide) sx_39 sx_40 h) (mw_8_87 cx.1.2.2.2.2 ⟨Nat.le_of_ble_eq_true rfl, Nat.le_of_ble_eq_true rfl⟩) (by decide) sx_39 rfl rfl hl.1 rfl (Nat.le_of_ble_eq_true rfl) d_8_numberFor_31 ⟨Nat.zero_le _, Nat.zero_le _⟩) hL (fun S2 T2 H locs h hw hL => ?_)
    refine lv_aload_n hx hb d_8_numberFor_34 rfl (lv_at hl 1 rfl) ?_
    refine lv_dup hx hb d_8_numberFor_35 rfl ?_
    refine gf_8_61 cx hw (i := 36) (by decide) sx_36 rfl d_8_numberFor_36 ?_
    refine lv_iconst (v := 1) hx hb d_8_numberFor_39 (by decide) ?_
    refine lv_iadd hx hb d_8_numberFor_40 ?_
    refine pf_8_61 cx hw (i := 36) (by decide) sx_36 rfl hL d_8_numberFor_41 (fun H locs hw hL => ?_)
    refine lv_aload_n hx hb d_8_numberFor_44 rfl (lv_at hl 1 rfl) ?_
    refine gf_8_14 cx hw (i := 36) (r := 37) (by decide) sx_36 rfl d_8_numberFor_45 ?_
    refine lv_iload_n hx hb d_8_numberFor_48 rfl (lv_at hl 2 rfl) ?_
    refine lv_aload_n hx hb d_8_numberFor_49 rfl (lv_at hl 1 rfl) ?_
    refine gf_8_61 cx hw (i := 36) (by decide) sx_36 rfl d_8_numberFor_50 ?_
    refine hm_callv (hm_rV (i := 37) (As := [.int x1, .int ((hm_up S2 36 13 ((S2 36 13) + 1)) 36 13)]) (rest := []) cx hw (ct_5_set (by decide) sx_37 sx_38 h) (mw_8_87 cx.1.2.2.2.2 ⟨Nat.le_of_ble_eq_true rfl, Nat.le_of_ble_eq_true rfl⟩) (by decide) sx_37 rfl rfl hl.1 rfl (Nat.le_of_ble_eq_true rfl) d_8_numberFor_53 ⟨Nat.zero_le _, Nat.zero_le _⟩) hL (fun S3 T3 H locs h hw hL => ?_)
    refine lv_aload_n hx hb d_8_numberFor_56 rfl (lv_at hl 1 rfl) ?_
    refine gf_8_61 cx hw (i := 36) (by decide) sx_36 rfl d_8_numberFor_57 ?_
    refine lv_iconst (v := 1) hx hb d_8_numberFor_60 (by decide) ?_
    refine lv_isub hx hb d_8_numberFor_61 ?_
    exact W.iret hx hb hr (fun t ht _ => ⟨_, _, _, rfl, h, by rw [ht]; exact hw⟩) hL d_8_numberFor_62
  · replace h := hm_neg hc h
    refine lv_iload_n hx hb d_8_numberFor_15 rfl (lv_at hl 0 rfl) ?_
    exact W.iret hx hb hr (fun t ht _ => ⟨_, _, _, rfl, h, by rw [ht]; exact hw⟩) hL d_8_numberFor_16
set_option maxHeartbeats 4000000 in
set_option maxRecDepth 20000 in
theorem ct_8_numberFor {x1 : Int32} {S : hm_S} {T : hm_T} {Q : Int32 → hm_S → hm_T → Prop} (h : wp_8_numberFor x1 S T Q) : hm_M l G H0 o 74 shX y_8_numberFor prog_10_method_8_code 3 (some .int) rm_8_numberFor S T [.ref (o + 36), .int x1] (hm_Qi G H0 o 74 shX Q) := by
  refine Met.ofW (cc := prog_10_method_8_code) (maxL := 3) (ret := some .int) (by decide) rfl ?_
  intro p e s m args below meth c s₁ B hml hv
  obtain ⟨rfl, hK, hw⟩ := hv
  have cx : hm_cx G p s m _ c prog_10_method_8_code 3 "HeapGames$Solver" := ⟨⟨B.exec, B.bytes, hml, findClass_of_methodNamed B.named, fun w hq => atoms_spec (ws := hm_ws y_8_numberFor prog_10_method_8_code 3 (some .int)) B.pre w (List.mem_cons_of_mem _ hq)⟩, hK⟩
  have hl := lv_entry ([.ref (o + 36), .int x1]) (n := 3) (Nat.le_of_ble_eq_true rfl)
  rw [lg_entry_eq]
  generalize (lg_sl ([.ref (o + 36), .int x1]) ++ List.replicate (3 - (lg_sl ([.ref (o + 36), .int x1])).length) Slot.unset).toArray = ls at hl ⊢
  have hl : lv_has ls 3 [(0, .ref (o + 36)), (1, .int x1)] := hl
  exact bk_8_numberFor_0 cx B.returns B.notSynchronized h hw (hm_L0 _ _) hl
/-! ===== HeapGames$Solver.explore(I)V ===== -/
theorem d_8_explore_0 : decode prog_10_method_3_code 0 = .ok (.aload_n 0, 1) := by decide +kernel
theorem d_8_explore_1 : decode prog_10_method_3_code 1 = .ok (.getfield 61, 3) := by decide +kernel
theorem d_8_explore_4 : decode prog_10_method_3_code 4 = .ok (.istore_n 2, 1) := by decide +kernel
theorem d_8_explore_5 : decode prog_10_method_3_code 5 = .ok (.aload_n 0, 1) := by decide +kernel
theorem d_8_explore_6 : decode prog_10_method_3_code 6 = .ok (.iload_n 1, 1) := by decide +kernel
theorem d_8_explore_7 : decode prog_10_method_3_code 7 = .ok (.invokevirtual 69, 3) := by decide +kernel
theorem d_8_explore_10 : decode prog_10_method_3_code 10 = .ok (.pop, 1) := by decide +kernel
theorem d_8_explore_11 : decode prog_10_method_3_code 11 = .ok (.iload_n 2, 1) := by decide +kernel
theorem d_8_explore_12 : decode prog_10_method_3_code 12 = .ok (.istore_n 3, 1) := by decide +kernel
theorem d_8_explore_13 : decode prog_10_method_3_code 13 = .ok (.iload_n 3, 1) := by decide +kernel
theorem d_8_explore_14 : decode prog_10_method_3_code 14 = .ok (.aload_n 0, 1) := by decide +kernel
theorem d_8_explore_15 : decode prog_10_method_3_code 15 = .ok (.getfield 61, 3) := by decide +kernel
theorem d_8_explore_18 : decode prog_10_method_3_code 18 = .ok (.if_icmp .ge 99, 3) := by decide +kernel
theorem d_8_explore_21 : decode prog_10_method_3_code 21 = .ok (.iload_n 3, 1) := by decide +kernel
theorem d_8_explore_22 : decode prog_10_method_3_code 22 = .ok (.sipush 2430, 3) := by decide +kernel
theorem d_8_explore_25 : decode prog_10_method_3_code 25 = .ok (.if_icmp .ge 92, 3) := by decide +kernel
theorem d_8_explore_28 : decode prog_10_method_3_code 28 = .ok (.aload_n 0, 1) := by decide +kernel
theorem d_8_explore_29 : decode prog_10_method_3_code 29 = .ok (.getfield 54, 3) := by decide +kernel
theorem d_8_explore_32 : decode prog_10_method_3_code 32 = .ok (.aload_n 0, 1) := by decide +kernel
theorem d_8_explore_33 : decode prog_10_method_3_code 33 = .ok (.getfield 20, 3) := by decide +kernel
theorem d_8_explore_36 : decode prog_10_method_3_code 36 = .ok (.iload_n 3, 1) := by decide +kernel
theorem d_8_explore_37 : decode prog_10_method_3_code 37 = .ok (.invokevirtual 73, 3) := by decide +kernel
theorem d_8_explore_40 : decode prog_10_method_3_code 40 = .ok (.invokevirtual 76, 3) := by decide +kernel
theorem d_8_explore_43 : decode prog_10_method_3_code 43 = .ok (.aload_n 0, 1) := by decide +kernel
theorem d_8_explore_44 : decode prog_10_method_3_code 44 = .ok (.getfield 23, 3) := by decide +kernel
theorem d_8_explore_47 : decode prog_10_method_3_code 47 = .ok (.iload_n 3, 1) := by decide +kernel
theorem d_8_explore_48 : decode prog_10_method_3_code 48 = .ok (.invokevirtual 73, 3) := by decide +kernel
theorem d_8_explore_51 : decode prog_10_method_3_code 51 = .ok (.istore 4, 2) := by decide +kernel
theorem d_8_explore_53 : decode prog_10_method_3_code 53 = .ok (.iconst 0, 1) := by decide +kernel
theorem d_8_explore_54 : decode prog_10_method_3_code 54 = .ok (.istore 5, 2) := by decide +kernel
theorem d_8_explore_56 : decode prog_10_method_3_code 56 = .ok (.iload 5, 2) := by decide +kernel
theorem d_8_explore_58 : decode prog_10_method_3_code 58 = .ok (.aload_n 0, 1) := by decide +kernel
theorem d_8_explore_59 : decode prog_10_method_3_code 59 = .ok (.getfield 54, 3) := by decide +kernel
theorem d_8_explore_62 : decode prog_10_method_3_code 62 = .ok (.getfield 81, 3) := by decide +kernel
theorem d_8_explore_65 : decode prog_10_method_3_code 65 = .ok (.if_icmp .ge 34, 3) := by decide +kernel
theorem d_8_explore_68 : decode prog_10_method_3_code 68 = .ok (.aload_n 0, 1) := by decide +kernel
theorem d_8_explore_69 : decode prog_10_method_3_code 69 = .ok (.getfield 26, 3) := by decide +kernel
theorem d_8_explore_72 : decode prog_10_method_3_code 72 = .ok (.iload 4, 2) := by decide +kernel
theorem d_8_explore_74 : decode prog_10_method_3_code 74 = .ok (.aload_n 0, 1) := by decide +kernel
theorem d_8_explore_75 : decode prog_10_method_3_code 75 = .ok (.aload_n 0, 1) := by decide +kernel
theorem d_8_explore_76 : decode prog_10_method_3_code 76 = .ok (.getfield 54, 3) := by decide +kernel
theorem d_8_explore_79 : decode prog_10_method_3_code 79 = .ok (.iload 5, 2) := by decide +kernel
theorem d_8_explore_81 : decode prog_10_method_3_code 81 = .ok (.invokevirtual 84, 3) := by decide +kernel
theorem d_8_explore_84 : decode prog_10_method_3_code 84 = .ok (.invokevirtual 69, 3) := by decide +kernel
theorem d_8_explore_87 : decode prog_10_method_3_code 87 = .ok (.invokevirtual 87, 3) := by decide +kernel
theorem d_8_explore_90 : decode prog_10_method_3_code 90 = .ok (.iinc 4 1, 3) := by decide +kernel
theorem d_8_explore_93 : decode prog_10_method_3_code 93 = .ok (.iinc 5 1, 3) := by decide +kernel
theorem d_8_explore_96 : decode prog_10_method_3_code 96 = .ok (.goto (-40), 3) := by decide +kernel
theorem d_8_explore_99 : decode prog_10_method_3_code 99 = .ok (.aload_n 0, 1) := by decide +kernel
theorem d_8_explore_100 : decode prog_10_method_3_code 100 = .ok (.getfield 23, 3) := by decide +kernel
theorem d_8_explore_103 : decode prog_10_method_3_code 103 = .ok (.iload_n 3, 1) := by decide +kernel
theorem d_8_explore_104 : decode prog_10_method_3_code 104 = .ok (.iconst 1, 1) := by decide +kernel
theorem d_8_explore_105 : decode prog_10_method_3_code 105 = .ok (.iadd, 1) := by decide +kernel
theorem d_8_explore_106 : decode prog_10_method_3_code 106 = .ok (.iload 4, 2) := by decide +kernel
theorem d_8_explore_108 : decode prog_10_method_3_code 108 = .ok (.invokevirtual 87, 3) := by decide +kernel
theorem d_8_explore_111 : decode prog_10_method_3_code 111 = .ok (.iinc 3 1, 3) := by decide +kernel
theorem d_8_explore_114 : decode prog_10_method_3_code 114 = .ok (.goto (-101), 3) := by decide +kernel
theorem d_8_explore_117 : decode prog_10_method_3_code 117 = .ok (.return_, 1) := by decide +kernel
def wb_8_explore_99 (Q : hm_S → hm_T → Prop) (K13 : Int32 → hm_S → hm_T → Prop) (x3 : Int32) (x4 : Int32) (S : hm_S) (T : hm_T) : Prop :=
  wp_5_set 41 2431 (x3 + 1) x4 S T (fun S5 T5 => K13 (x3 + 1) S5 T5)
set_option maxHeartbeats 4000000 in
set_option maxRecDepth 20000 in
theorem bk_8_explore_99 {Q : hm_S → hm_T → Prop} {K13 : Int32 → hm_S → hm_T → Prop} (cx : hm_cx G p s m args c prog_10_method_3_code 6 "HeapGames$Solver") (hr : meth.sig.returnType = none) (hlk : meth.locks = false) (k13 : ∀ (x3 : Int32) (S : hm_S) (T : hm_T) (H : Heap) (locs : List Loc) (ls : Array Slot), K13 x3 S T → hm_w G H0 o 74 shX S T H → hm_L o 74 locs → lv_has ls 6 [(0, .ref (o + 36)), (3, .int x3)] → W p l e rm_8_explore s m args below meth c H locs 0 0 (MQ below (hm_Qv G H0 o 74 shX Q) args s 0 0 (t_fr o (o + 74))) (F0 m 13 ls [])) {x3 : Int32} {x4 : Int32} {S : hm_S} {T : hm_T} {H : Heap} {locs : List Loc} {ls : Array Slot} (h : wb_8_explore_99 Q K13 x3 x4 S T) (hw : hm_w G H0 o 74 shX S T H) (hL : hm_L o 74 locs) (hl : lv_has ls 6 [(0, .ref (o + 36)), (3, .int x3), (4, .int x4)]) : W p l e rm_8_explore s m args below meth c H locs 0 0 (MQ below (hm_Qv G H0 o 74 shX Q) args s 0 0 (t_fr o (o + 74))) (F0 m 99 ls []) := by
  have hx := cx.1.1
  have hb := cx.1.2.1
  unfold wb_8_explore_99 at h
  refine lv_aload_n hx hb d_8_explore_99 rfl (lv_at hl 0 rfl) ?_
  refine gf_8_23 cx hw (i := 36) (r := 41) (by decide) sx_36 rfl d_8_explore_100 ?_
  refine lv_iload_n hx hb d_8_explore_103 rfl (lv_at hl 1 rfl) ?_
  refine lv_iconst (v := 1) hx hb d_8_explore_104 (by decide) ?_
  refine lv_iadd hx hb d_8_explore_105 ?_
  refine lv_iload hx hb d_8_explore_106 (lv_at hl 2 rfl) ?_
  refine hm_callv (hm_rV (i := 41) (As := [.int (x3 + 1), .int x4]) (rest := []) cx hw (ct_5_set (by decide) sx_41 sx_42 h) (mw_8_87 cx.1.2.2.2.2 ⟨Nat.le_of_ble_eq_true rfl, Nat.le_of_ble_eq_true rfl⟩) (by decide) sx_41 rfl rfl hl.1 rfl (Nat.le_of_ble_eq_true rfl) d_8_explore_108 ⟨Nat.zero_le _, Nat.zero_le _⟩) hL (fun S5 T5 H locs h hw hL => ?_)
  refine lv_iinc (v := (x3 + 1)) (lv' := [(3, .int (x3 + 1)), (0, .ref (o + 36)), (4, .int x4)]) hx hb d_8_explore_111 hl (k := 1) rfl rfl (by decide) rfl (fun ls hl => ?_)
  refine lv_goto (tgt := 13) hx hb d_8_explore_114 (by decide) ?_
  exact k13 _ _ _ _ _ _ h hw hL (lv_sub hl [1, 0] rfl)
def wb_8_explore_56 (Q : hm_S → hm_T → Prop) (K13 : Int32 → hm_S → hm_T → Prop) (K56 : Int32 → Int32 → Int32 → hm_S → hm_T → Prop) (x3 : Int32) (x4 : Int32) (x5 : Int32) (S : hm_S) (T : hm_T) : Prop :=
  (if (S 19 11) ≤ x5 then wb_8_explore_99 Q K13 x3 x4 S T else wp_3_targetOf x5 S T (fun r6 S6 T6 => wp_8_numberFor r6 S6 T6 (fun r7 S7 T7 => wp_5_set 43 15010 x4 r7 S7 T7 (fun S8 T8 => K56 x3 (x4 + 1) (x5 + 1) S8 T8))))
set_option maxHeartbeats 4000000 in
set_option maxRecDepth 20000 in
theorem bk_8_explore_56 {Q : hm_S → hm_T → Prop} {K13 : Int32 → hm_S → hm_T → Prop} {K56 : Int32 → Int32 → Int32 → hm_S → hm_T → Prop} (cx : hm_cx G p s m args c prog_10_method_3_code 6 "HeapGames$Solver") (hr : meth.sig.returnType = none) (hlk : meth.locks = false) (k13 : ∀ (x3 : Int32) (S : hm_S) (T : hm_T) (H : Heap) (locs : List Loc) (ls : Array Slot), K13 x3 S T → hm_w G H0 o 74 shX S T H → hm_L o 74 locs → lv_has ls 6 [(0, .ref (o + 36)), (3, .int x3)] → W p l e rm_8_explore s m args below meth c H locs 0 0 (MQ below (hm_Qv G H0 o 74 shX Q) args s 0 0 (t_fr o (o + 74))) (F0 m 13 ls [])) (k56 : ∀ (x3 : Int32) (x4 : Int32) (x5 : Int32) (S : hm_S) (T : hm_T) (H : Heap) (locs : List Loc) (ls : Array Slot), K56 x3 x4 x5 S T → hm_w G H0 o 74 shX S T H → hm_L o 74 locs → lv_has ls 6 [(0, .ref (o + 36)), (3, .int x3), (4, .int x4), (5, .int x5)] → W p l e rm_8_explore s m args below meth c H locs 0 0 (MQ below (hm_Qv G H0 o 74 shX Q) args s 0 0 (t_fr o (o + 74))) (F0 m 56 ls [])) {x3 : Int32} {x4 : Int32} {x5 : Int32} {S : hm_S} {T : hm_T} {H : Heap} {locs : List Loc} {ls : Array Slot} (h : wb_8_explore_56 Q K13 K56 x3 x4 x5 S T) (hw : hm_w G H0 o 74 shX S T H) (hL : hm_L o 74 locs) (hl : lv_has ls 6 [(0, .ref (o + 36)), (3, .int x3), (4, .int x4), (5, .int x5)]) : W p l e rm_8_explore s m args below meth c H locs 0 0 (MQ below (hm_Qv G H0 o 74 shX Q) args s 0 0 (t_fr o (o + 74))) (F0 m 56 ls []) := by
  have hx := cx.1.1
  have hb := cx.1.2.1
  unfold wb_8_explore_56 at h
  refine lv_iload hx hb d_8_explore_56 (lv_at hl 3 rfl) ?_
  refine lv_aload_n hx hb d_8_explore_58 rfl (lv_at hl 0 rfl) ?_
  refine gf_8_54 cx hw (i := 36) (r := 19) (by decide) sx_36 rfl d_8_explore_59 ?_
  refine gf_8_81 cx hw (i := 19) (by decide) sx_19 rfl d_8_explore_62 ?_
  refine lv_icmp_ge (tgt := 99) hx hb d_8_explore_65 (by decide) (fun hc => ?_) (fun hc => ?_)
  · replace h := hm_pos hc h
    exact bk_8_explore_99 cx hr hlk k13 h hw hL (lv_sub hl [0, 1, 2] rfl)
  · replace h := hm_neg hc h
    refine lv_aload_n hx hb d_8_explore_68 rfl (lv_at hl 0 rfl) ?_
    refine gf_8_26 cx hw (i := 36) (r := 43) (by decide) sx_36 rfl d_8_explore_69 ?_
    refine lv_iload hx hb d_8_explore_72 (lv_at hl 2 rfl) ?_
    refine lv_aload_n hx hb d_8_explore_74 rfl (lv_at hl 0 rfl) ?_
    refine lv_aload_n hx hb d_8_explore_75 rfl (lv_at hl 0 rfl) ?_
    refine gf_8_54 cx hw (i := 36) (r := 19) (by decide) sx_36 rfl d_8_explore_76 ?_
    refine lv_iload hx hb d_8_explore_79 (lv_at hl 3 rfl) ?_
    refine hm_calli (hm_rV (i := 19) (As := [.int x5]) (rest := [.ref (o + 36), .int x4, .ref (o + 43)]) cx hw (ct_3_targetOf h) (mw_8_84 cx.1.2.2.2.2 ⟨Nat.le_of_ble_eq_true rfl, Nat.le_of_ble_eq_true rfl⟩) (by decide) sx_19 rfl rfl hl.1 rfl (Nat.le_of_ble_eq_true rfl) d_8_explore_81 ⟨Nat.zero_le _, Nat.zero_le _⟩) hL (fun r6 S6 T6 H locs h hw hL => ?_)
    refine hm_calli (hm_rV (i := 36) (As := [.int r6]) (rest := [.int x4, .ref (o + 43)]) cx hw (ct_8_numberFor h) (mw_8_69 cx.1.2.2.2.2 ⟨Nat.le_of_ble_eq_true rfl, Nat.le_of_ble_eq_true rfl⟩) (by decide) sx_36 rfl rfl hl.1 rfl (Nat.le_of_ble_eq_true rfl) d_8_explore_84 ⟨Nat.zero_le _, Nat.zero_le _⟩) hL (fun r7 S7 T7 H locs h hw hL => ?_)
    refine hm_callv (hm_rV (i := 43) (As := [.int x4, .int r7]) (rest := []) cx hw (ct_5_set (by decide) sx_43 sx_44 h) (mw_8_87 cx.1.2.2.2.2 ⟨Nat.le_of_ble_eq_true rfl, Nat.le_of_ble_eq_true rfl⟩) (by decide) sx_43 rfl rfl hl.1 rfl (Nat.le_of_ble_eq_true rfl) d_8_explore_87 ⟨Nat.zero_le _, Nat.zero_le _⟩) hL (fun S8 T8 H locs h hw hL => ?_)
    refine lv_iinc (v := (x4 + 1)) (lv' := [(4, .int (x4 + 1)), (0, .ref (o + 36)), (3, .int x3), (5, .int x5)]) hx hb d_8_explore_90 hl (k := 2) rfl rfl (by decide) rfl (fun ls hl => ?_)
    refine lv_iinc (v := (x5 + 1)) (lv' := [(5, .int (x5 + 1)), (4, .int (x4 + 1)), (0, .ref (o + 36)), (3, .int x3)]) hx hb d_8_explore_93 hl (k := 3) rfl rfl (by decide) rfl (fun ls hl => ?_)
    refine lv_goto (tgt := 56) hx hb d_8_explore_96 (by decide) ?_
    exact k56 _ _ _ _ _ _ _ _ h hw hL (lv_sub hl [2, 3, 1, 0] rfl)
def wl_8_explore_56 (Q : hm_S → hm_T → Prop) (K13 : Int32 → hm_S → hm_T → Prop) : Nat → Int32 → Int32 → Int32 → hm_S → hm_T → Prop
  | 0, _, _, _, _, _ => False
  | f + 1, x3, x4, x5, S, T => wb_8_explore_56 Q K13 (wl_8_explore_56 Q K13 f) x3 x4 x5 S T
theorem lp_8_explore_56 {Q : hm_S → hm_T → Prop} {K13 : Int32 → hm_S → hm_T → Prop} (cx : hm_cx G p s m args c prog_10_method_3_code 6 "HeapGames$Solver") (hr : meth.sig.returnType = none) (hlk : meth.locks = false) (k13 : ∀ (x3 : Int32) (S : hm_S) (T : hm_T) (H : Heap) (locs : List Loc) (ls : Array Slot), K13 x3 S T → hm_w G H0 o 74 shX S T H → hm_L o 74 locs → lv_has ls 6 [(0, .ref (o + 36)), (3, .int x3)] → W p l e rm_8_explore s m args below meth c H locs 0 0 (MQ below (hm_Qv G H0 o 74 shX Q) args s 0 0 (t_fr o (o + 74))) (F0 m 13 ls [])) : ∀ (f : Nat) (x3 : Int32) (x4 : Int32) (x5 : Int32) (S : hm_S) (T : hm_T) (H : Heap) (locs : List Loc) (ls : Array Slot), wl_8_explore_56 Q K13 f x3 x4 x5 S T → hm_w G H0 o 74 shX S T H → hm_L o 74 locs → lv_has ls 6 [(0, .ref (o + 36)), (3, .int x3), (4, .int x4), (5, .int x5)] → W p l e rm_8_explore s m args below meth c H locs 0 0 (MQ below (hm_Qv G H0 o 74 shX Q) args s 0 0 (t_fr o (o + 74))) (F0 m 56 ls []) := by
  intro f
  induction f with
  | zero => intro x3 x4 x5 S T H locs ls h; exact h.elim
  | succ f ih => intro x3 x4 x5 S T H locs ls h hw hL hl; exact bk_8_explore_56 cx hr hlk k13 ih h hw hL hl
def wb_8_explore_13 (Q : hm_S → hm_T → Prop) (K13 : Int32 → hm_S → hm_T → Prop) (x3 : Int32) (S : hm_S) (T : hm_T) : Prop :=
  (if (S 36 13) ≤ x3 then Q S T else (if 2430 ≤ x3 then Q S T else wp_5_get 39 2430 x3 S T (fun r2 S2 T2 => wp_3_list r2 S2 T2 (fun S3 T3 => wp_5_get 41 2431 x3 S3 T3 (fun r4 S4 T4 => ∃ f, wl_8_explore_56 Q K13 f x3 r4 0 S4 T4)))))
set_option maxHeartbeats 4000000 in
set_option maxRecDepth 20000 in
theorem bk_8_explore_13 {Q : hm_S → hm_T → Prop} {K13 : Int32 → hm_S → hm_T → Prop} (cx : hm_cx G p s m args c prog_10_method_3_code 6 "HeapGames$Solver") (hr : meth.sig.returnType = none) (hlk : meth.locks = false) (k13 : ∀ (x3 : Int32) (S : hm_S) (T : hm_T) (H : Heap) (locs : List Loc) (ls : Array Slot), K13 x3 S T → hm_w G H0 o 74 shX S T H → hm_L o 74 locs → lv_has ls 6 [(0, .ref (o + 36)), (3, .int x3)] → W p l e rm_8_explore s m args below meth c H locs 0 0 (MQ below (hm_Qv G H0 o 74 shX Q) args s 0 0 (t_fr o (o + 74))) (F0 m 13 ls [])) {x3 : Int32} {S : hm_S} {T : hm_T} {H : Heap} {locs : List Loc} {ls : Array Slot} (h : wb_8_explore_13 Q K13 x3 S T) (hw : hm_w G H0 o 74 shX S T H) (hL : hm_L o 74 locs) (hl : lv_has ls 6 [(0, .ref (o + 36)), (3, .int x3)]) : W p l e rm_8_explore s m args below meth c H locs 0 0 (MQ below (hm_Qv G H0 o 74 shX Q) args s 0 0 (t_fr o (o + 74))) (F0 m 13 ls []) := by
  have hx := cx.1.1
  have hb := cx.1.2.1
  unfold wb_8_explore_13 at h
  refine lv_iload_n hx hb d_8_explore_13 rfl (lv_at hl 1 rfl) ?_
  refine lv_aload_n hx hb d_8_explore_14 rfl (lv_at hl 0 rfl) ?_
  refine gf_8_61 cx hw (i := 36) (by decide) sx_36 rfl d_8_explore_15 ?_
  refine lv_icmp_ge (tgt := 117) hx hb d_8_explore_18 (by decide) (fun hc => ?_) (fun hc => ?_)
  · replace h := hm_pos hc h
    exact W.vret hx hb hr (fun t ht _ => ⟨_, _, rfl, h, by rw [ht]; exact hw⟩) hL d_8_explore_117
  · replace h := hm_neg hc h
    refine lv_iload_n hx hb d_8_explore_21 rfl (lv_at hl 1 rfl) ?_
    refine lv_sipush (v := 2430) hx hb d_8_explore_22 (by decide) ?_
    refine lv_icmp_ge (tgt := 117) hx hb d_8_explore_25 (by decide) (fun hc => ?_) (fun hc => ?_)
    · replace h := hm_pos hc h
      exact W.vret hx hb hr (fun t ht _ => ⟨_, _, rfl, h, by rw [ht]; exact hw⟩) hL d_8_explore_117
    · replace h := hm_neg hc h
      refine lv_aload_n hx hb d_8_explore_28 rfl (lv_at hl 0 rfl) ?_
      refine gf_8_54 cx hw (i := 36) (r := 19) (by decide) sx_36 rfl d_8_explore_29 ?_
      refine lv_aload_n hx hb d_8_explore_32 rfl (lv_at hl 0 rfl) ?_
      refine gf_8_20 cx hw (i := 36) (r := 39) (by decide) sx_36 rfl d_8_explore_33 ?_
      refine lv_iload_n hx hb d_8_explore_36 rfl (lv_at hl 1 rfl) ?_
      refine hm_calli (hm_rV (i := 39) (As := [.int x3]) (rest := [.ref (o + 19)]) cx hw (ct_5_get (by decide) sx_39 sx_40 h) (mw_8_73 cx.1.2.2.2.2 ⟨Nat.le_of_ble_eq_true rfl, Nat.le_of_ble_eq_true rfl⟩) (by decide) sx_39 rfl rfl hl.1 rfl (Nat.le_of_ble_eq_true rfl) d_8_explore_37 ⟨Nat.zero_le _, Nat.zero_le _⟩) hL (fun r2 S2 T2 H locs h hw hL => ?_)
      refine hm_callv (hm_rV (i := 19) (As := [.int r2]) (rest := []) cx hw (ct_3_list h) (mw_8_76 cx.1.2.2.2.2 ⟨Nat.le_of_ble_eq_true rfl, Nat.le_of_ble_eq_true rfl⟩) (by decide) sx_19 rfl rfl hl.1 rfl (Nat.le_of_ble_eq_true rfl) d_8_explore_40 ⟨Nat.zero_le _, Nat.zero_le _⟩) hL (fun S3 T3 H locs h hw hL => ?_)
      refine lv_aload_n hx hb d_8_explore_43 rfl (lv_at hl 0 rfl) ?_
      refine gf_8_23 cx hw (i := 36) (r := 41) (by decide) sx_36 rfl d_8_explore_44 ?_
      refine lv_iload_n hx hb d_8_explore_47 rfl (lv_at hl 1 rfl) ?_
      refine hm_calli (hm_rV (i := 41) (As := [.int x3]) (rest := []) cx hw (ct_5_get (by decide) sx_41 sx_42 h) (mw_8_73 cx.1.2.2.2.2 ⟨Nat.le_of_ble_eq_true rfl, Nat.le_of_ble_eq_true rfl⟩) (by decide) sx_41 rfl rfl hl.1 rfl (Nat.le_of_ble_eq_true rfl) d_8_explore_48 ⟨Nat.zero_le _, Nat.zero_le _⟩) hL (fun r4 S4 T4 H locs h hw hL => ?_)
      refine lv_istore (lv' := [(4, .int r4), (0, .ref (o + 36)), (3, .int x3)]) hx hb d_8_explore_51 hl (by decide) rfl (fun ls hl => ?_)
      refine lv_iconst (v := 0) hx hb d_8_explore_53 (by decide) ?_
      refine lv_istore (lv' := [(5, .int 0), (4, .int r4), (0, .ref (o + 36)), (3, .int x3)]) hx hb d_8_explore_54 hl (by decide) rfl (fun ls hl => ?_)
      obtain ⟨f, h⟩ := h
      exact lp_8_explore_56 cx hr hlk k13 f _ _ _ _ _ _ _ _ h hw hL (lv_sub hl [2, 3, 1, 0] rfl)
def wl_8_explore_13 (Q : hm_S → hm_T → Prop) : Nat → Int32 → hm_S → hm_T → Prop
  | 0, _, _, _ => False
  | f + 1, x3, S, T => wb_8_explore_13 Q (wl_8_explore_13 Q f) x3 S T
theorem lp_8_explore_13 {Q : hm_S → hm_T → Prop} (cx : hm_cx G p s m args c prog_10_method_3_code 6 "HeapGames$Solver") (hr : meth.sig.returnType = none) (hlk : meth.locks = false) : ∀ (f : Nat) (x3 : Int32) (S : hm_S) (T : hm_T) (H : Heap) (locs : List Loc) (ls : Array Slot), wl_8_explore_13 Q f x3 S T → hm_w G H0 o 74 shX S T H → hm_L o 74 locs → lv_has ls 6 [(0, .ref (o + 36)), (3, .int x3)] → W p l e rm_8_explore s m args below meth c H locs 0 0 (MQ below (hm_Qv G H0 o 74 shX Q) args s 0 0 (t_fr o (o + 74))) (F0 m 13 ls []) := by
  intro f
  induction f with
  | zero => intro x3 S T H locs ls h; exact h.elim
  | succ f ih => intro x3 S T H locs ls h hw hL hl; exact bk_8_explore_13 cx hr hlk ih h hw hL hl
def wp_8_explore (x1 : Int32) (S : hm_S) (T : hm_T) (Q : hm_S → hm_T → Prop) : Prop :=
  wp_8_numberFor x1 S T (fun r1 S1 T1 => ∃ f, wl_8_explore_13 Q f (S 36 13) S1 T1)
set_option maxHeartbeats 4000000 in
set_option maxRecDepth 20000 in
theorem bk_8_explore_0 {Q : hm_S → hm_T → Prop} (cx : hm_cx G p s m args c prog_10_method_3_code 6 "HeapGames$Solver") (hr : meth.sig.returnType = none) (hlk : meth.locks = false) {x1 : Int32} {S : hm_S} {T : hm_T} {H : Heap} {locs : List Loc} {ls : Array Slot} (h : wp_8_explore x1 S T Q) (hw : hm_w G H0 o 74 shX S T H) (hL : hm_L o 74 locs) (hl : lv_has ls 6 [(0, .ref (o + 36)), (1, .int x1)]) : W p l e rm_8_explore s m args below meth c H locs 0 0 (MQ below (hm_Qv G H0 o 74 shX Q) args s 0 0 (t_fr o (o + 74))) (F0 m 0 ls []) := by
  have hx := cx.1.1
  have hb := cx.1.2.1
  unfold wp_8_explore at h
  refine lv_aload_n hx hb d_8_explore_0 rfl (lv_at hl 0 rfl) ?_
  refine gf_8_61 cx hw (i := 36) (by decide) sx_36 rfl d_8_explore_1 ?_
  refine lv_istore_n (lv' := [(2, .int (S 36 13)), (0, .ref (o + 36)), (1, .int x1)]) hx hb d_8_explore_4 rfl hl (by decide) rfl (fun ls hl => ?_)
  refine lv_aload_n hx hb d_8_explore_5 rfl (lv_at hl 1 rfl) ?_
  refine lv_iload_n hx hb d_8_explore_6 rfl (lv_at hl 2 rfl) ?_
  refine hm_calli (hm_rV (i := 36) (As := [.int x1]) (rest := []) cx hw (ct_8_numberFor h) (mw_8_69 cx.1.2.2.2.2 ⟨Nat.le_of_ble_eq_true rfl, Nat.le_of_ble_eq_true rfl⟩) (by decide) sx_36 rfl rfl hl.1 rfl (Nat.le_of_ble_eq_true rfl) d_8_explore_7 ⟨Nat.zero_le _, Nat.zero_le _⟩) hL (fun r1 S1 T1 H locs h hw hL => ?_)
  refine lv_pop hx hb d_8_explore_10 rfl ?_
  refine lv_iload_n hx hb d_8_explore_11 rfl (lv_at hl 0 rfl) ?_
  refine lv_istore_n (lv' := [(3, .int (S 36 13)), (2, .int (S 36 13)), (0, .ref (o + 36)), (1, .int x1)]) hx hb d_8_explore_12 rfl hl (by decide) rfl (fun ls hl => ?_)
  obtain ⟨f, h⟩ := h
  exact lp_8_explore_13 cx hr hlk f _ _ _ _ _ _ h hw hL (lv_sub hl [2, 0] rfl)
set_option maxHeartbeats 4000000 in
set_option maxRecDepth 20000 in
theorem ct_8_explore {x1 : Int32} {S : hm_S} {T : hm_T} {Q : hm_S → hm_T → Prop} (h : wp_8_explore x1 S T Q) : hm_M l G H0 o 74 shX y_8_explore prog_10_method_3_code 6 (none) rm_8_explore S T [.ref (o + 36), .int x1] (hm_Qv G H0 o 74 shX Q) := by
  refine Met.ofW (cc := prog_10_method_3_code) (maxL := 6) (ret := none) (by decide) rfl ?_
  intro p e s m args below meth c s₁ B hml hv
  obtain ⟨rfl, hK, hw⟩ := hv
  have cx : hm_cx G p s m _ c prog_10_method_3_code 6 "HeapGames$Solver" := ⟨⟨B.exec, B.bytes, hml, findClass_of_methodNamed B.named, fun w hq => atoms_spec (ws := hm_ws y_8_explore prog_10_method_3_code 6 (none)) B.pre w (List.mem_cons_of_mem _ hq)⟩, hK⟩
  have hl := lv_entry ([.ref (o + 36), .int x1]) (n := 6) (Nat.le_of_ble_eq_true rfl)
  rw [lg_entry_eq]
  generalize (lg_sl ([.ref (o + 36), .int x1]) ++ List.replicate (6 - (lg_sl ([.ref (o + 36), .int x1])).length) Slot.unset).toArray = ls at hl ⊢
  have hl : lv_has ls 6 [(0, .ref (o + 36)), (1, .int x1)] := hl
  exact bk_8_explore_0 cx B.returns B.notSynchronized h hw (hm_L0 _ _) hl
/-! ===== HeapGames$Solver.outcomeOf(I)I ===== -/
theorem d_8_outcomeOf_0 : decode prog_10_method_4_code 0 = .ok (.aload_n 0, 1) := by decide +kernel
theorem d_8_outcomeOf_1 : decode prog_10_method_4_code 1 = .ok (.getfield 35, 3) := by decide +kernel
theorem d_8_outcomeOf_4 : decode prog_10_method_4_code 4 = .ok (.aload_n 0, 1) := by decide +kernel
theorem d_8_outcomeOf_5 : decode prog_10_method_4_code 5 = .ok (.getfield 14, 3) := by decide +kernel
theorem d_8_outcomeOf_8 : decode prog_10_method_4_code 8 = .ok (.iload_n 1, 1) := by decide +kernel
theorem d_8_outcomeOf_9 : decode prog_10_method_4_code 9 = .ok (.invokevirtual 73, 3) := by decide +kernel
theorem d_8_outcomeOf_12 : decode prog_10_method_4_code 12 = .ok (.iconst 1, 1) := by decide +kernel
theorem d_8_outcomeOf_13 : decode prog_10_method_4_code 13 = .ok (.isub, 1) := by decide +kernel
theorem d_8_outcomeOf_14 : decode prog_10_method_4_code 14 = .ok (.invokevirtual 73, 3) := by decide +kernel
theorem d_8_outcomeOf_17 : decode prog_10_method_4_code 17 = .ok (.ireturn, 1) := by decide +kernel
def wp_8_outcomeOf (x1 : Int32) (S : hm_S) (T : hm_T) (Q : Int32 → hm_S → hm_T → Prop) : Prop :=
  wp_5_get 37 2430 x1 S T (fun r1 S1 T1 => wp_5_get 49 2430 (r1 - 1) S1 T1 (fun r2 S2 T2 => Q r2 S2 T2))
set_option maxHeartbeats 4000000 in
set_option maxRecDepth 20000 in
theorem bk_8_outcomeOf_0 {Q : Int32 → hm_S → hm_T → Prop} (cx : hm_cx G p s m args c prog_10_method_4_code 2 "HeapGames$Solver") (hr : meth.sig.returnType = some .int) (hlk : meth.locks = false) {x1 : Int32} {S : hm_S} {T : hm_T} {H : Heap} {locs : List Loc} {ls : Array Slot} (h : wp_8_outcomeOf x1 S T Q) (hw : hm_w G H0 o 74 shX S T H) (hL : hm_L o 74 locs) (hl : lv_has ls 2 [(0, .ref (o + 36)), (1, .int x1)]) : W p l e rm_8_outcomeOf s m args below meth c H locs 0 0 (MQ below (hm_Qi G H0 o 74 shX Q) args s 0 0 (t_fr o (o + 74))) (F0 m 0 ls []) := by
  have hx := cx.1.1
  have hb := cx.1.2.1
  unfold wp_8_outcomeOf at h
  refine lv_aload_n hx hb d_8_outcomeOf_0 rfl (lv_at hl 0 rfl) ?_
  refine gf_8_35 cx hw (i := 36) (r := 49) (by decide) sx_36 rfl d_8_outcomeOf_1 ?_
  refine lv_aload_n hx hb d_8_outcomeOf_4 rfl (lv_at hl 0 rfl) ?_
  refine gf_8_14 cx hw (i := 36) (r := 37) (by decide) sx_36 rfl d_8_outcomeOf_5 ?_
  refine lv_iload_n hx hb d_8_outcomeOf_8 rfl (lv_at hl 1 rfl) ?_
  refine hm_calli (hm_rV (i := 37) (As := [.int x1]) (rest := [.ref (o + 49)]) cx hw (ct_5_get (by decide) sx_37 sx_38 h) (mw_8_73 cx.1.2.2.2.2 ⟨Nat.le_of_ble_eq_true rfl, Nat.le_of_ble_eq_true rfl⟩) (by decide) sx_37 rfl rfl hl.1 rfl (Nat.le_of_ble_eq_true rfl) d_8_outcomeOf_9 ⟨Nat.zero_le _, Nat.zero_le _⟩) hL (fun r1 S1 T1 H locs h hw hL => ?_)
  refine lv_iconst (v := 1) hx hb d_8_outcomeOf_12 (by decide) ?_
  refine lv_isub hx hb d_8_outcomeOf_13 ?_
  refine hm_calli (hm_rV (i := 49) (As := [.int (r1 - 1)]) (rest := []) cx hw (ct_5_get (by decide) sx_49 sx_50 h) (mw_8_73 cx.1.2.2.2.2 ⟨Nat.le_of_ble_eq_true rfl, Nat.le_of_ble_eq_true rfl⟩) (by decide) sx_49 rfl rfl hl.1 rfl (Nat.le_of_ble_eq_true rfl) d_8_outcomeOf_14 ⟨Nat.zero_le _, Nat.zero_le _⟩) hL (fun r2 S2 T2 H locs h hw hL => ?_)
  exact W.iret hx hb hr (fun t ht _ => ⟨_, _, _, rfl, h, by rw [ht]; exact hw⟩) hL d_8_outcomeOf_17
set_option maxHeartbeats 4000000 in
set_option maxRecDepth 20000 in
theorem ct_8_outcomeOf {x1 : Int32} {S : hm_S} {T : hm_T} {Q : Int32 → hm_S → hm_T → Prop} (h : wp_8_outcomeOf x1 S T Q) : hm_M l G H0 o 74 shX y_8_outcomeOf prog_10_method_4_code 2 (some .int) rm_8_outcomeOf S T [.ref (o + 36), .int x1] (hm_Qi G H0 o 74 shX Q) := by
  refine Met.ofW (cc := prog_10_method_4_code) (maxL := 2) (ret := some .int) (by decide) rfl ?_
  intro p e s m args below meth c s₁ B hml hv
  obtain ⟨rfl, hK, hw⟩ := hv
  have cx : hm_cx G p s m _ c prog_10_method_4_code 2 "HeapGames$Solver" := ⟨⟨B.exec, B.bytes, hml, findClass_of_methodNamed B.named, fun w hq => atoms_spec (ws := hm_ws y_8_outcomeOf prog_10_method_4_code 2 (some .int)) B.pre w (List.mem_cons_of_mem _ hq)⟩, hK⟩
  have hl := lv_entry ([.ref (o + 36), .int x1]) (n := 2) (Nat.le_of_ble_eq_true rfl)
  rw [lg_entry_eq]
  generalize (lg_sl ([.ref (o + 36), .int x1]) ++ List.replicate (2 - (lg_sl ([.ref (o + 36), .int x1])).length) Slot.unset).toArray = ls at hl ⊢
  have hl : lv_has ls 2 [(0, .ref (o + 36)), (1, .int x1)] := hl
  exact bk_8_outcomeOf_0 cx B.returns B.notSynchronized h hw (hm_L0 _ _) hl
/-! ===== HeapGames$Solver.distanceOf(I)I ===== -/
theorem d_8_distanceOf_0 : decode prog_10_method_5_code 0 = .ok (.aload_n 0, 1) := by decide +kernel
theorem d_8_distanceOf_1 : decode prog_10_method_5_code 1 = .ok (.getfield 38, 3) := by decide +kernel
theorem d_8_distanceOf_4 : decode prog_10_method_5_code 4 = .ok (.aload_n 0, 1) := by decide +kernel
theorem d_8_distanceOf_5 : decode prog_10_method_5_code 5 = .ok (.getfield 14, 3) := by decide +kernel
theorem d_8_distanceOf_8 : decode prog_10_method_5_code 8 = .ok (.iload_n 1, 1) := by decide +kernel
theorem d_8_distanceOf_9 : decode prog_10_method_5_code 9 = .ok (.invokevirtual 73, 3) := by decide +kernel
theorem d_8_distanceOf_12 : decode prog_10_method_5_code 12 = .ok (.iconst 1, 1) := by decide +kernel
theorem d_8_distanceOf_13 : decode prog_10_method_5_code 13 = .ok (.isub, 1) := by decide +kernel
theorem d_8_distanceOf_14 : decode prog_10_method_5_code 14 = .ok (.invokevirtual 73, 3) := by decide +kernel
theorem d_8_distanceOf_17 : decode prog_10_method_5_code 17 = .ok (.ireturn, 1) := by decide +kernel
def wp_8_distanceOf (x1 : Int32) (S : hm_S) (T : hm_T) (Q : Int32 → hm_S → hm_T → Prop) : Prop :=
  wp_5_get 37 2430 x1 S T (fun r1 S1 T1 => wp_5_get 51 2430 (r1 - 1) S1 T1 (fun r2 S2 T2 => Q r2 S2 T2))
set_option maxHeartbeats 4000000 in
set_option maxRecDepth 20000 in
theorem bk_8_distanceOf_0 {Q : Int32 → hm_S → hm_T → Prop} (cx : hm_cx G p s m args c prog_10_method_5_code 2 "HeapGames$Solver") (hr : meth.sig.returnType = some .int) (hlk : meth.locks = false) {x1 : Int32} {S : hm_S} {T : hm_T} {H : Heap} {locs : List Loc} {ls : Array Slot} (h : wp_8_distanceOf x1 S T Q) (hw : hm_w G H0 o 74 shX S T H) (hL : hm_L o 74 locs) (hl : lv_has ls 2 [(0, .ref (o + 36)), (1, .int x1)]) : W p l e rm_8_distanceOf s m args below meth c H locs 0 0 (MQ below (hm_Qi G H0 o 74 shX Q) args s 0 0 (t_fr o (o + 74))) (F0 m 0 ls []) := by
  have hx := cx.1.1
  have hb := cx.1.2.1
  unfold wp_8_distanceOf at h
  refine lv_aload_n hx hb d_8_distanceOf_0 rfl (lv_at hl 0 rfl) ?_
  refine gf_8_38 cx hw (i := 36) (r := 51) (by decide) sx_36 rfl d_8_distanceOf_1 ?_
  refine lv_aload_n hx hb d_8_distanceOf_4 rfl (lv_at hl 0 rfl) ?_
  refine gf_8_14 cx hw (i := 36) (r := 37) (by decide) sx_36 rfl d_8_distanceOf_5 ?_
  refine lv_iload_n hx hb d_8_distanceOf_8 rfl (lv_at hl 1 rfl) ?_
  refine hm_calli (hm_rV (i := 37) (As := [.int x1]) (rest := [.ref (o + 51)]) cx hw (ct_5_get (by decide) sx_37 sx_38 h) (mw_8_73 cx.1.2.2.2.2 ⟨Nat.le_of_ble_eq_true rfl, Nat.le_of_ble_eq_true rfl⟩) (by decide) sx_37 rfl rfl hl.1 rfl (Nat.le_of_ble_eq_true rfl) d_8_distanceOf_9 ⟨Nat.zero_le _, Nat.zero_le _⟩) hL (fun r1 S1 T1 H locs h hw hL => ?_)
  refine lv_iconst (v := 1) hx hb d_8_distanceOf_12 (by decide) ?_
  refine lv_isub hx hb d_8_distanceOf_13 ?_
  refine hm_calli (hm_rV (i := 51) (As := [.int (r1 - 1)]) (rest := []) cx hw (ct_5_get (by decide) sx_51 sx_52 h) (mw_8_73 cx.1.2.2.2.2 ⟨Nat.le_of_ble_eq_true rfl, Nat.le_of_ble_eq_true rfl⟩) (by decide) sx_51 rfl rfl hl.1 rfl (Nat.le_of_ble_eq_true rfl) d_8_distanceOf_14 ⟨Nat.zero_le _, Nat.zero_le _⟩) hL (fun r2 S2 T2 H locs h hw hL => ?_)
  exact W.iret hx hb hr (fun t ht _ => ⟨_, _, _, rfl, h, by rw [ht]; exact hw⟩) hL d_8_distanceOf_17
set_option maxHeartbeats 4000000 in
set_option maxRecDepth 20000 in
theorem ct_8_distanceOf {x1 : Int32} {S : hm_S} {T : hm_T} {Q : Int32 → hm_S → hm_T → Prop} (h : wp_8_distanceOf x1 S T Q) : hm_M l G H0 o 74 shX y_8_distanceOf prog_10_method_5_code 2 (some .int) rm_8_distanceOf S T [.ref (o + 36), .int x1] (hm_Qi G H0 o 74 shX Q) := by
  refine Met.ofW (cc := prog_10_method_5_code) (maxL := 2) (ret := some .int) (by decide) rfl ?_
  intro p e s m args below meth c s₁ B hml hv
  obtain ⟨rfl, hK, hw⟩ := hv
  have cx : hm_cx G p s m _ c prog_10_method_5_code 2 "HeapGames$Solver" := ⟨⟨B.exec, B.bytes, hml, findClass_of_methodNamed B.named, fun w hq => atoms_spec (ws := hm_ws y_8_distanceOf prog_10_method_5_code 2 (some .int)) B.pre w (List.mem_cons_of_mem _ hq)⟩, hK⟩
  have hl := lv_entry ([.ref (o + 36), .int x1]) (n := 2) (Nat.le_of_ble_eq_true rfl)
  rw [lg_entry_eq]
  generalize (lg_sl ([.ref (o + 36), .int x1]) ++ List.replicate (2 - (lg_sl ([.ref (o + 36), .int x1])).length) Slot.unset).toArray = ls at hl ⊢
  have hl : lv_has ls 2 [(0, .ref (o + 36)), (1, .int x1)] := hl
  exact bk_8_distanceOf_0 cx B.returns B.notSynchronized h hw (hm_L0 _ _) hl
/-! ===== HeapGames$Solver.look(I)V ===== -/
theorem d_8_look_0 : decode prog_10_method_7_code 0 = .ok (.aload_n 0, 1) := by decide +kernel
theorem d_8_look_1 : decode prog_10_method_7_code 1 = .ok (.getfield 47, 3) := by decide +kernel
theorem d_8_look_4 : decode prog_10_method_7_code 4 = .ok (.iload_n 1, 1) := by decide +kernel
theorem d_8_look_5 : decode prog_10_method_7_code 5 = .ok (.invokevirtual 73, 3) := by decide +kernel
theorem d_8_look_8 : decode prog_10_method_7_code 8 = .ok (.ifCond .ne 34, 3) := by decide +kernel
theorem d_8_look_11 : decode prog_10_method_7_code 11 = .ok (.aload_n 0, 1) := by decide +kernel
theorem d_8_look_12 : decode prog_10_method_7_code 12 = .ok (.getfield 47, 3) := by decide +kernel
theorem d_8_look_15 : decode prog_10_method_7_code 15 = .ok (.iload_n 1, 1) := by decide +kernel
theorem d_8_look_16 : decode prog_10_method_7_code 16 = .ok (.iconst 1, 1) := by decide +kernel
theorem d_8_look_17 : decode prog_10_method_7_code 17 = .ok (.invokevirtual 87, 3) := by decide +kernel
theorem d_8_look_20 : decode prog_10_method_7_code 20 = .ok (.aload_n 0, 1) := by decide +kernel
theorem d_8_look_21 : decode prog_10_method_7_code 21 = .ok (.getfield 44, 3) := by decide +kernel
theorem d_8_look_24 : decode prog_10_method_7_code 24 = .ok (.aload_n 0, 1) := by decide +kernel
theorem d_8_look_25 : decode prog_10_method_7_code 25 = .ok (.getfield 91, 3) := by decide +kernel
theorem d_8_look_28 : decode prog_10_method_7_code 28 = .ok (.iload_n 1, 1) := by decide +kernel
theorem d_8_look_29 : decode prog_10_method_7_code 29 = .ok (.invokevirtual 87, 3) := by decide +kernel
theorem d_8_look_32 : decode prog_10_method_7_code 32 = .ok (.aload_n 0, 1) := by decide +kernel
theorem d_8_look_33 : decode prog_10_method_7_code 33 = .ok (.dup, 1) := by decide +kernel
theorem d_8_look_34 : decode prog_10_method_7_code 34 = .ok (.getfield 91, 3) := by decide +kernel
theorem d_8_look_37 : decode prog_10_method_7_code 37 = .ok (.iconst 1, 1) := by decide +kernel
theorem d_8_look_38 : decode prog_10_method_7_code 38 = .ok (.iadd, 1) := by decide +kernel
theorem d_8_look_39 : decode prog_10_method_7_code 39 = .ok (.putfield 91, 3) := by decide +kernel
theorem d_8_look_42 : decode prog_10_method_7_code 42 = .ok (.return_, 1) := by decide +kernel
def wp_8_look (x1 : Int32) (S : hm_S) (T : hm_T) (Q : hm_S → hm_T → Prop) : Prop :=
  wp_5_get 57 2430 x1 S T (fun r1 S1 T1 => (if r1 = 0 then wp_5_set 57 2430 x1 1 S1 T1 (fun S2 T2 => wp_5_set 55 2430 (S2 36 14) x1 S2 T2 (fun S3 T3 => Q (hm_up S3 36 14 ((S3 36 14) + 1)) T3)) else Q S1 T1))
set_option maxHeartbeats 4000000 in
set_option maxRecDepth 20000 in
theorem bk_8_look_0 {Q : hm_S → hm_T → Prop} (cx : hm_cx G p s m args c prog_10_method_7_code 2 "HeapGames$Solver") (hr : meth.sig.returnType = none) (hlk : meth.locks = false) {x1 : Int32} {S : hm_S} {T : hm_T} {H : Heap} {locs : List Loc} {ls : Array Slot} (h : wp_8_look x1 S T Q) (hw : hm_w G H0 o 74 shX S T H) (hL : hm_L o 74 locs) (hl : lv_has ls 2 [(0, .ref (o + 36)), (1, .int x1)]) : W p l e rm_8_look s m args below meth c H locs 0 0 (MQ below (hm_Qv G H0 o 74 shX Q) args s 0 0 (t_fr o (o + 74))) (F0 m 0 ls []) := by
  have hx := cx.1.1
  have hb := cx.1.2.1
  unfold wp_8_look at h
  refine lv_aload_n hx hb d_8_look_0 rfl (lv_at hl 0 rfl) ?_
  refine gf_8_47 cx hw (i := 36) (r := 57) (by decide) sx_36 rfl d_8_look_1 ?_
  refine lv_iload_n hx hb d_8_look_4 rfl (lv_at hl 1 rfl) ?_
  refine hm_calli (hm_rV (i := 57) (As := [.int x1]) (rest := []) cx hw (ct_5_get (by decide) sx_57 sx_58 h) (mw_8_73 cx.1.2.2.2.2 ⟨Nat.le_of_ble_eq_true rfl, Nat.le_of_ble_eq_true rfl⟩) (by decide) sx_57 rfl rfl hl.1 rfl (Nat.le_of_ble_eq_true rfl) d_8_look_5 ⟨Nat.zero_le _, Nat.zero_le _⟩) hL (fun r1 S1 T1 H locs h hw hL => ?_)
  refine lv_if_ne (tgt := 42) hx hb d_8_look_8 (by decide) (fun hc => ?_) (fun hc => ?_)
  · replace h := hm_neg hc h
    exact W.vret hx hb hr (fun t ht _ => ⟨_, _, rfl, h, by rw [ht]; exact hw⟩) hL d_8_look_42
  · replace h := hm_pos hc h
    refine lv_aload_n hx hb d_8_look_11 rfl (lv_at hl 0 rfl) ?_
    refine gf_8_47 cx hw (i := 36) (r := 57) (by decide) sx_36 rfl d_8_look_12 ?_
    refine lv_iload_n hx hb d_8_look_15 rfl (lv_at hl 1 rfl) ?_
    refine lv_iconst (v := 1) hx hb d_8_look_16 (by decide) ?_
    refine hm_callv (hm_rV (i := 57) (As := [.int x1, .int 1]) (rest := []) cx hw (ct_5_set (by decide) sx_57 sx_58 h) (mw_8_87 cx.1.2.2.2.2 ⟨Nat.le_of_ble_eq_true rfl, Nat.le_of_ble_eq_true rfl⟩) (by decide) sx_57 rfl rfl hl.1 rfl (Nat.le_of_ble_eq_true rfl) d_8_look_17 ⟨Nat.zero_le _, Nat.zero_le _⟩) hL (fun S2 T2 H locs h hw hL => ?_)
    refine lv_aload_n hx hb d_8_look_20 rfl (lv_at hl 0 rfl) ?_
    refine gf_8_44 cx hw (i := 36) (r := 55) (by decide) sx_36 rfl d_8_look_21 ?_
    refine lv_aload_n hx hb d_8_look_24 rfl (lv_at hl 0 rfl) ?_
    refine gf_8_91 cx hw (i := 36) (by decide) sx_36 rfl d_8_look_25 ?_
    refine lv_iload_n hx hb d_8_look_28 rfl (lv_at hl 1 rfl) ?_
    refine hm_callv (hm_rV (i := 55) (As := [.int (S2 36 14), .int x1]) (rest := []) cx hw (ct_5_set (by decide) sx_55 sx_56 h) (mw_8_87 cx.1.2.2.2.2 ⟨Nat.le_of_ble_eq_true rfl, Nat.le_of_ble_eq_true rfl⟩) (by decide) sx_55 rfl rfl hl.1 rfl (Nat.le_of_ble_eq_true rfl) d_8_look_29 ⟨Nat.zero_le _, Nat.zero_le _⟩) hL (fun S3 T3 H locs h hw hL => ?_)
    refine lv_aload_n hx hb d_8_look_32 rfl (lv_at hl 0 rfl) ?_
    refine lv_dup hx hb d_8_look_33 rfl ?_
    refine gf_8_91 cx hw (i := 36) (by decide) sx_36 rfl d_8_look_34 ?_
    refine lv_iconst (v := 1) hx hb d_8_look_37 (by decide) ?_
    refine lv_iadd hx hb d_8_look_38 ?_
    refine pf_8_91 cx hw (i := 36) (by decide) sx_36 rfl hL d_8_look_39 (fun H locs hw hL => ?_)
    exact W.vret hx hb hr (fun t ht _ => ⟨_, _, rfl, h, by rw [ht]; exact hw⟩) hL d_8_look_42
set_option maxHeartbeats 4000000 in
set_option maxRecDepth 20000 in
theorem ct_8_look {x1 : Int32} {S : hm_S} {T : hm_T} {Q : hm_S → hm_T → Prop} (h : wp_8_look x1 S T Q) : hm_M l G H0 o 74 shX y_8_look prog_10_method_7_code 2 (none) rm_8_look S T [.ref (o + 36), .int x1] (hm_Qv G H0 o 74 shX Q) := by
  refine Met.ofW (cc := prog_10_method_7_code) (maxL := 2) (ret := none) (by decide) rfl ?_
  intro p e s m args below meth c s₁ B hml hv
  obtain ⟨rfl, hK, hw⟩ := hv
  have cx : hm_cx G p s m _ c prog_10_method_7_code 2 "HeapGames$Solver" := ⟨⟨B.exec, B.bytes, hml, findClass_of_methodNamed B.named, fun w hq => atoms_spec (ws := hm_ws y_8_look prog_10_method_7_code 2 (none)) B.pre w (List.mem_cons_of_mem _ hq)⟩, hK⟩
  have hl := lv_entry ([.ref (o + 36), .int x1]) (n := 2) (Nat.le_of_ble_eq_true rfl)
  rw [lg_entry_eq]
  generalize (lg_sl ([.ref (o + 36), .int x1]) ++ List.replicate (2 - (lg_sl ([.ref (o + 36), .int x1])).length) Slot.unset).toArray = ls at hl ⊢
  have hl : lv_has ls 2 [(0, .ref (o + 36)), (1, .int x1)] := hl
  exact bk_8_look_0 cx B.returns B.notSynchronized h hw (hm_L0 _ _) hl
/-! ===== HeapGames$Solver.reachableFrom(I)I ===== -/
theorem d_8_reachableFrom_0 : decode prog_10_method_6_code 0 = .ok (.aload_n 0, 1) := by decide +kernel
theorem d_8_reachableFrom_1 : decode prog_10_method_6_code 1 = .ok (.getfield 47, 3) := by decide +kernel
theorem d_8_reachableFrom_4 : decode prog_10_method_6_code 4 = .ok (.invokevirtual 58, 3) := by decide +kernel
theorem d_8_reachableFrom_7 : decode prog_10_method_6_code 7 = .ok (.aload_n 0, 1) := by decide +kernel
theorem d_8_reachableFrom_8 : decode prog_10_method_6_code 8 = .ok (.iconst 0, 1) := by decide +kernel
theorem d_8_reachableFrom_9 : decode prog_10_method_6_code 9 = .ok (.putfield 91, 3) := by decide +kernel
theorem d_8_reachableFrom_12 : decode prog_10_method_6_code 12 = .ok (.aload_n 0, 1) := by decide +kernel
theorem d_8_reachableFrom_13 : decode prog_10_method_6_code 13 = .ok (.aload_n 0, 1) := by decide +kernel
theorem d_8_reachableFrom_14 : decode prog_10_method_6_code 14 = .ok (.getfield 14, 3) := by decide +kernel
theorem d_8_reachableFrom_17 : decode prog_10_method_6_code 17 = .ok (.iload_n 1, 1) := by decide +kernel
theorem d_8_reachableFrom_18 : decode prog_10_method_6_code 18 = .ok (.invokevirtual 73, 3) := by decide +kernel
theorem d_8_reachableFrom_21 : decode prog_10_method_6_code 21 = .ok (.iconst 1, 1) := by decide +kernel
theorem d_8_reachableFrom_22 : decode prog_10_method_6_code 22 = .ok (.isub, 1) := by decide +kernel
theorem d_8_reachableFrom_23 : decode prog_10_method_6_code 23 = .ok (.invokevirtual 94, 3) := by decide +kernel
theorem d_8_reachableFrom_26 : decode prog_10_method_6_code 26 = .ok (.iconst 0, 1) := by decide +kernel
theorem d_8_reachableFrom_27 : decode prog_10_method_6_code 27 = .ok (.istore_n 2, 1) := by decide +kernel
theorem d_8_reachableFrom_28 : decode prog_10_method_6_code 28 = .ok (.iload_n 2, 1) := by decide +kernel
theorem d_8_reachableFrom_29 : decode prog_10_method_6_code 29 = .ok (.aload_n 0, 1) := by decide +kernel
theorem d_8_reachableFrom_30 : decode prog_10_method_6_code 30 = .ok (.getfield 91, 3) := by decide +kernel
theorem d_8_reachableFrom_33 : decode prog_10_method_6_code 33 = .ok (.if_icmp .ge 73, 3) := by decide +kernel
theorem d_8_reachableFrom_36 : decode prog_10_method_6_code 36 = .ok (.iload_n 2, 1) := by decide +kernel
theorem d_8_reachableFrom_37 : decode prog_10_method_6_code 37 = .ok (.sipush 2430, 3) := by decide +kernel
theorem d_8_reachableFrom_40 : decode prog_10_method_6_code 40 = .ok (.if_icmp .ge 66, 3) := by decide +kernel
theorem d_8_reachableFrom_43 : decode prog_10_method_6_code 43 = .ok (.aload_n 0, 1) := by decide +kernel
theorem d_8_reachableFrom_44 : decode prog_10_method_6_code 44 = .ok (.getfield 44, 3) := by decide +kernel
theorem d_8_reachableFrom_47 : decode prog_10_method_6_code 47 = .ok (.iload_n 2, 1) := by decide +kernel
theorem d_8_reachableFrom_48 : decode prog_10_method_6_code 48 = .ok (.invokevirtual 73, 3) := by decide +kernel
theorem d_8_reachableFrom_51 : decode prog_10_method_6_code 51 = .ok (.istore_n 3, 1) := by decide +kernel
theorem d_8_reachableFrom_52 : decode prog_10_method_6_code 52 = .ok (.aload_n 0, 1) := by decide +kernel
theorem d_8_reachableFrom_53 : decode prog_10_method_6_code 53 = .ok (.getfield 23, 3) := by decide +kernel
theorem d_8_reachableFrom_56 : decode prog_10_method_6_code 56 = .ok (.iload_n 3, 1) := by decide +kernel
theorem d_8_reachableFrom_57 : decode prog_10_method_6_code 57 = .ok (.iconst 1, 1) := by decide +kernel
theorem d_8_reachableFrom_58 : decode prog_10_method_6_code 58 = .ok (.iadd, 1) := by decide +kernel
theorem d_8_reachableFrom_59 : decode prog_10_method_6_code 59 = .ok (.invokevirtual 73, 3) := by decide +kernel
theorem d_8_reachableFrom_62 : decode prog_10_method_6_code 62 = .ok (.istore 4, 2) := by decide +kernel
theorem d_8_reachableFrom_64 : decode prog_10_method_6_code 64 = .ok (.aload_n 0, 1) := by decide +kernel
theorem d_8_reachableFrom_65 : decode prog_10_method_6_code 65 = .ok (.getfield 23, 3) := by decide +kernel
theorem d_8_reachableFrom_68 : decode prog_10_method_6_code 68 = .ok (.iload_n 3, 1) := by decide +kernel
theorem d_8_reachableFrom_69 : decode prog_10_method_6_code 69 = .ok (.invokevirtual 73, 3) := by decide +kernel
theorem d_8_reachableFrom_72 : decode prog_10_method_6_code 72 = .ok (.istore 5, 2) := by decide +kernel
theorem d_8_reachableFrom_74 : decode prog_10_method_6_code 74 = .ok (.iload 5, 2) := by decide +kernel
theorem d_8_reachableFrom_76 : decode prog_10_method_6_code 76 = .ok (.iload 4, 2) := by decide +kernel
theorem d_8_reachableFrom_78 : decode prog_10_method_6_code 78 = .ok (.if_icmp .ge 22, 3) := by decide +kernel
theorem d_8_reachableFrom_81 : decode prog_10_method_6_code 81 = .ok (.aload_n 0, 1) := by decide +kernel
theorem d_8_reachableFrom_82 : decode prog_10_method_6_code 82 = .ok (.aload_n 0, 1) := by decide +kernel
theorem d_8_reachableFrom_83 : decode prog_10_method_6_code 83 = .ok (.getfield 26, 3) := by decide +kernel
theorem d_8_reachableFrom_86 : decode prog_10_method_6_code 86 = .ok (.iload 5, 2) := by decide +kernel
theorem d_8_reachableFrom_88 : decode prog_10_method_6_code 88 = .ok (.invokevirtual 73, 3) := by decide +kernel
theorem d_8_reachableFrom_91 : decode prog_10_method_6_code 91 = .ok (.invokevirtual 94, 3) := by decide +kernel
theorem d_8_reachableFrom_94 : decode prog_10_method_6_code 94 = .ok (.iinc 5 1, 3) := by decide +kernel
theorem d_8_reachableFrom_97 : decode prog_10_method_6_code 97 = .ok (.goto (-23), 3) := by decide +kernel
theorem d_8_reachableFrom_100 : decode prog_10_method_6_code 100 = .ok (.iinc 2 1, 3) := by decide +kernel
theorem d_8_reachableFrom_103 : decode prog_10_method_6_code 103 = .ok (.goto (-75), 3) := by decide +kernel
theorem d_8_reachableFrom_106 : decode prog_10_method_6_code 106 = .ok (.aload_n 0, 1) := by decide +kernel
theorem d_8_reachableFrom_107 : decode prog_10_method_6_code 107 = .ok (.getfield 91, 3) := by decide +kernel
theorem d_8_reachableFrom_110 : decode prog_10_method_6_code 110 = .ok (.ireturn, 1) := by decide +kernel
def wb_8_reachableFrom_100 (Q : Int32 → hm_S → hm_T → Prop) (K28 : Int32 → hm_S → hm_T → Prop) (x2 : Int32) (S : hm_S) (T : hm_T) : Prop :=
  K28 (x2 + 1) S T
set_option maxHeartbeats 4000000 in
set_option maxRecDepth 20000 in
theorem bk_8_reachableFrom_100 {Q : Int32 → hm_S → hm_T → Prop} {K28 : Int32 → hm_S → hm_T → Prop} (cx : hm_cx G p s m args c prog_10_method_6_code 6 "HeapGames$Solver") (hr : meth.sig.returnType = some .int) (hlk : meth.locks = false) (k28 : ∀ (x2 : Int32) (S : hm_S) (T : hm_T) (H : Heap) (locs : List Loc) (ls : Array Slot), K28 x2 S T → hm_w G H0 o 74 shX S T H → hm_L o 74 locs → lv_has ls 6 [(0, .ref (o + 36)), (2, .int x2)] → W p l e rm_8_reachableFrom s m args below meth c H locs 0 0 (MQ below (hm_Qi G H0 o 74 shX Q) args s 0 0 (t_fr o (o + 74))) (F0 m 28 ls [])) {x2 : Int32} {S : hm_S} {T : hm_T} {H : Heap} {locs : List Loc} {ls : Array Slot} (h : wb_8_reachableFrom_100 Q K28 x2 S T) (hw : hm_w G H0 o 74 shX S T H) (hL : hm_L o 74 locs) (hl : lv_has ls 6 [(0, .ref (o + 36)), (2, .int x2)]) : W p l e rm_8_reachableFrom s m args below meth c H locs 0 0 (MQ below (hm_Qi G H0 o 74 shX Q) args s 0 0 (t_fr o (o + 74))) (F0 m 100 ls []) := by
  have hx := cx.1.1
  have hb := cx.1.2.1
  unfold wb_8_reachableFrom_100 at h
  refine lv_iinc (v := (x2 + 1)) (lv' := [(2, .int (x2 + 1)), (0, .ref (o + 36))]) hx hb d_8_reachableFrom_100 hl (k := 1) rfl rfl (by decide) rfl (fun ls hl => ?_)
  refine lv_goto (tgt := 28) hx hb d_8_reachableFrom_103 (by decide) ?_
  exact k28 _ _ _ _ _ _ h hw hL (lv_sub hl [1, 0] rfl)
def wb_8_reachableFrom_74 (Q : Int32 → hm_S → hm_T → Prop) (K28 : Int32 → hm_S → hm_T → Prop) (K74 : Int32 → Int32 → Int32 → hm_S → hm_T → Prop) (x2 : Int32) (x4 : Int32) (x5 : Int32) (S : hm_S) (T : hm_T) : Prop :=
  (if x4 ≤ x5 then wb_8_reachableFrom_100 Q K28 x2 S T else wp_5_get 43 15010 x5 S T (fun r7 S7 T7 => wp_8_look r7 S7 T7 (fun S8 T8 => K74 x2 x4 (x5 + 1) S8 T8)))
set_option maxHeartbeats 4000000 in
set_option maxRecDepth 20000 in
theorem bk_8_reachableFrom_74 {Q : Int32 → hm_S → hm_T → Prop} {K28 : Int32 → hm_S → hm_T → Prop} {K74 : Int32 → Int32 → Int32 → hm_S → hm_T → Prop} (cx : hm_cx G p s m args c prog_10_method_6_code 6 "HeapGames$Solver") (hr : meth.sig.returnType = some .int) (hlk : meth.locks = false) (k28 : ∀ (x2 : Int32) (S : hm_S) (T : hm_T) (H : Heap) (locs : List Loc) (ls : Array Slot), K28 x2 S T → hm_w G H0 o 74 shX S T H → hm_L o 74 locs → lv_has ls 6 [(0, .ref (o + 36)), (2, .int x2)] → W p l e rm_8_reachableFrom s m args below meth c H locs 0 0 (MQ below (hm_Qi G H0 o 74 shX Q) args s 0 0 (t_fr o (o + 74))) (F0 m 28 ls [])) (k74 : ∀ (x2 : Int32) (x4 : Int32) (x5 : Int32) (S : hm_S) (T : hm_T) (H : Heap) (locs : List Loc) (ls : Array Slot), K74 x2 x4 x5 S T → hm_w G H0 o 74 shX S T H → hm_L o 74 locs → lv_has ls 6 [(0, .ref (o + 36)), (2, .int x2), (4, .int x4), (5, .int x5)] → W p l e rm_8_reachableFrom s m args below meth c H locs 0 0 (MQ below (hm_Qi G H0 o 74 shX Q) args s 0 0 (t_fr o (o + 74))) (F0 m 74 ls [])) {x2 : Int32} {x4 : Int32} {x5 : Int32} {S : hm_S} {T : hm_T} {H : Heap} {locs : List Loc} {ls : Array Slot} (h : wb_8_reachableFrom_74 Q K28 K74 x2 x4 x5 S T) (hw : hm_w G H0 o 74 shX S T H) (hL : hm_L o 74 locs) (hl : lv_has ls 6 [(0, .ref (o + 36)), (2, .int x2), (4, .int x4), (5, .int x5)]) : W p l e rm_8_reachableFrom s m args below meth c H locs 0 0 (MQ below (hm_Qi G H0 o 74 shX Q) args s 0 0 (t_fr o (o + 74))) (F0 m 74 ls []) := by
  have hx := cx.1.1
  have hb := cx.1.2.1
  unfold wb_8_reachableFrom_74 at h
  refine lv_iload hx hb d_8_reachableFrom_74 (lv_at hl 3 rfl) ?_
  refine lv_iload hx hb d_8_reachableFrom_76 (lv_at hl 2 rfl) ?_
  refine lv_icmp_ge (tgt := 100) hx hb d_8_reachableFrom_78 (by decide) (fun hc => ?_) (fun hc => ?_)
  · replace h := hm_pos hc h
    exact bk_8_reachableFrom_100 cx hr hlk k28 h hw hL (lv_sub hl [0, 1] rfl)
  · replace h := hm_neg hc h
    refine lv_aload_n hx hb d_8_reachableFrom_81 rfl (lv_at hl 0 rfl) ?_
    refine lv_aload_n hx hb d_8_reachableFrom_82 rfl (lv_at hl 0 rfl) ?_
    refine gf_8_26 cx hw (i := 36) (r := 43) (by decide) sx_36 rfl d_8_reachableFrom_83 ?_
    refine lv_iload hx hb d_8_reachableFrom_86 (lv_at hl 3 rfl) ?_
    refine hm_calli (hm_rV (i := 43) (As := [.int x5]) (rest := [.ref (o + 36)]) cx hw (ct_5_get (by decide) sx_43 sx_44 h) (mw_8_73 cx.1.2.2.2.2 ⟨Nat.le_of_ble_eq_true rfl, Nat.le_of_ble_eq_true rfl⟩) (by decide) sx_43 rfl rfl hl.1 rfl (Nat.le_of_ble_eq_true rfl) d_8_reachableFrom_88 ⟨Nat.zero_le _, Nat.zero_le _⟩) hL (fun r7 S7 T7 H locs h hw hL => ?_)
    refine hm_callv (hm_rV (i := 36) (As := [.int r7]) (rest := []) cx hw (ct_8_look h) (mw_8_94 cx.1.2.2.2.2 ⟨Nat.le_of_ble_eq_true rfl, Nat.le_of_ble_eq_true rfl⟩) (by decide) sx_36 rfl rfl hl.1 rfl (Nat.le_of_ble_eq_true rfl) d_8_reachableFrom_91 ⟨Nat.zero_le _, Nat.zero_le _⟩) hL (fun S8 T8 H locs h hw hL => ?_)
    refine lv_iinc (v := (x5 + 1)) (lv' := [(5, .int (x5 + 1)), (0, .ref (o + 36)), (2, .int x2), (4, .int x4)]) hx hb d_8_reachableFrom_94 hl (k := 3) rfl rfl (by decide) rfl (fun ls hl => ?_)
    refine lv_goto (tgt := 74) hx hb d_8_reachableFrom_97 (by decide) ?_
    exact k74 _ _ _ _ _ _ _ _ h hw hL (lv_sub hl [1, 2, 3, 0] rfl)
def wl_8_reachableFrom_74 (Q : Int32 → hm_S → hm_T → Prop) (K28 : Int32 → hm_S → hm_T → Prop) : Nat → Int32 → Int32 → Int32 → hm_S → hm_T → Prop
  | 0, _, _, _, _, _ => False
  | f + 1, x2, x4, x5, S, T => wb_8_reachableFrom_74 Q K28 (wl_8_reachableFrom_74 Q K28 f) x2 x4 x5 S T
theorem lp_8_reachableFrom_74 {Q : Int32 → hm_S → hm_T → Prop} {K28 : Int32 → hm_S → hm_T → Prop} (cx : hm_cx G p s m args c prog_10_method_6_code 6 "HeapGames$Solver") (hr : meth.sig.returnType = some .int) (hlk : meth.locks = false) (k28 : ∀ (x2 : Int32) (S : hm_S) (T : hm_T) (H : Heap) (locs : List Loc) (ls : Array Slot), K28 x2 S T → hm_w G H0 o 74 shX S T H → hm_L o 74 locs → lv_has ls 6 [(0, .ref (o + 36)), (2, .int x2)] → W p l e rm_8_reachableFrom s m args below meth c H locs 0 0 (MQ below (hm_Qi G H0 o 74 shX Q) args s 0 0 (t_fr o (o + 74))) (F0 m 28 ls [])) : ∀ (f : Nat) (x2 : Int32) (x4 : Int32) (x5 : Int32) (S : hm_S) (T : hm_T) (H : Heap) (locs : List Loc) (ls : Array Slot), wl_8_reachableFrom_74 Q K28 f x2 x4 x5 S T → hm_w G H0 o 74 shX S T H → hm_L o 74 locs → lv_has ls 6 [(0, .ref (o + 36)), (2, .int x2), (4, .int x4), (5, .int x5)] → W p l e rm_8_reachableFrom s m args below meth c H locs 0 0 (MQ below (hm_Qi G H0 o 74 shX Q) args s 0 0 (t_fr o (o + 74))) (F0 m 74 ls []) := by
  intro f
  induction f with
  | zero => intro x2 x4 x5 S T H locs ls h; exact h.elim
  | succ f ih => intro x2 x4 x5 S T H locs ls h hw hL hl; exact bk_8_reachableFrom_74 cx hr hlk k28 ih h hw hL hl
def wb_8_reachableFrom_28 (Q : Int32 → hm_S → hm_T → Prop) (K28 : Int32 → hm_S → hm_T → Prop) (x2 : Int32) (S : hm_S) (T : hm_T) : Prop :=
  (if (S 36 14) ≤ x2 then Q (S 36 14) S T else (if 2430 ≤ x2 then Q (S 36 14) S T else wp_5_get 55 2430 x2 S T (fun r4 S4 T4 => wp_5_get 41 2431 (r4 + 1) S4 T4 (fun r5 S5 T5 => wp_5_get 41 2431 r4 S5 T5 (fun r6 S6 T6 => ∃ f, wl_8_reachableFrom_74 Q K28 f x2 r5 r6 S6 T6)))))
set_option maxHeartbeats 4000000 in
set_option maxRecDepth 20000 in
theorem bk_8_reachableFrom_28 {Q : Int32 → hm_S → hm_T → Prop} {K28 : Int32 → hm_S → hm_T → Prop} (cx : hm_cx G p s m args c prog_10_method_6_code 6 "HeapGames$Solver") (hr : meth.sig.returnType = some .int) (hlk : meth.locks = false) (k28 : ∀ (x2 : Int32) (S : hm_S) (T : hm_T) (H : Heap) (locs : List Loc) (ls : Array Slot), K28 x2 S T → hm_w G H0 o 74 shX S T H → hm_L o 74 locs → lv_has ls 6 [(0, .ref (o + 36)), (2, .int x2)] → W p l e rm_8_reachableFrom s m args below meth c H locs 0 0 (MQ below (hm_Qi G H0 o 74 shX Q) args s 0 0 (t_fr o (o + 74))) (F0 m 28 ls [])) {x2 : Int32} {S : hm_S} {T : hm_T} {H : Heap} {locs : List Loc} {ls : Array Slot} (h : wb_8_reachableFrom_28 Q K28 x2 S T) (hw : hm_w G H0 o 74 shX S T H) (hL : hm_L o 74 locs) (hl : lv_has ls 6 [(0, .ref (o + 36)), (2, .int x2)]) : W p l e rm_8_reachableFrom s m args below meth c H locs 0 0 (MQ below (hm_Qi G H0 o 74 shX Q) args s 0 0 (t_fr o (o + 74))) (F0 m 28 ls []) := by
  have hx := cx.1.1
  have hb := cx.1.2.1
  unfold wb_8_reachableFrom_28 at h
  refine lv_iload_n hx hb d_8_reachableFrom_28 rfl (lv_at hl 1 rfl) ?_
  refine lv_aload_n hx hb d_8_reachableFrom_29 rfl (lv_at hl 0 rfl) ?_
  refine gf_8_91 cx hw (i := 36) (by decide) sx_36 rfl d_8_reachableFrom_30 ?_
  refine lv_icmp_ge (tgt := 106) hx hb d_8_reachableFrom_33 (by decide) (fun hc => ?_) (fun hc => ?_)
  · replace h := hm_pos hc h
    refine lv_aload_n hx hb d_8_reachableFrom_106 rfl (lv_at hl 0 rfl) ?_
    refine gf_8_91 cx hw (i := 36) (by decide) sx_36 rfl d_8_reachableFrom_107 ?_
    exact W.iret hx hb hr (fun t ht _ => ⟨_, _, _, rfl, h, by rw [ht]; exact hw⟩) hL d_8_reachableFrom_110
  · replace h := hm_neg hc h
    refine lv_iload_n hx hb d_8_reachableFrom_36 rfl (lv_at hl 1 rfl) ?_
    refine lv_sipush (v := 2430) hx hb d_8_reachableFrom_37 (by decide) ?_
    refine lv_icmp_ge (tgt := 106) hx hb d_8_reachableFrom_40 (by decide) (fun hc => ?_) (fun hc => ?_)
    · replace h := hm_pos hc h
      refine lv_aload_n hx hb d_8_reachableFrom_106 rfl (lv_at hl 0 rfl) ?_
      refine gf_8_91 cx hw (i := 36) (by decide) sx_36 rfl d_8_reachableFrom_107 ?_
      exact W.iret hx hb hr (fun t ht _ => ⟨_, _, _, rfl, h, by rw [ht]; exact hw⟩) hL d_8_reachableFrom_110
    · replace h := hm_neg hc h
      refine lv_aload_n hx hb d_8_reachableFrom_43 rfl (lv_at hl 0 rfl) ?_
      refine gf_8_44 cx hw (i := 36) (r := 55) (by decide) sx_36 rfl d_8_reachableFrom_44 ?_
      refine lv_iload_n hx hb d_8_reachableFrom_47 rfl (lv_at hl 1 rfl) ?_
      refine hm_calli (hm_rV (i := 55) (As := [.int x2]) (rest := []) cx hw (ct_5_get (by decide) sx_55 sx_56 h) (mw_8_73 cx.1.2.2.2.2 ⟨Nat.le_of_ble_eq_true rfl, Nat.le_of_ble_eq_true rfl⟩) (by decide) sx_55 rfl rfl hl.1 rfl (Nat.le_of_ble_eq_true rfl) d_8_reachableFrom_48 ⟨Nat.zero_le _, Nat.zero_le _⟩) hL (fun r4 S4 T4 H locs h hw hL => ?_)
      refine lv_istore_n (lv' := [(3, .int r4), (0, .ref (o + 36)), (2, .int x2)]) hx hb d_8_reachableFrom_51 rfl hl (by decide) rfl (fun ls hl => ?_)
      refine lv_aload_n hx hb d_8_reachableFrom_52 rfl (lv_at hl 1 rfl) ?_
      refine gf_8_23 cx hw (i := 36) (r := 41) (by decide) sx_36 rfl d_8_reachableFrom_53 ?_
      refine lv_iload_n hx hb d_8_reachableFrom_56 rfl (lv_at hl 0 rfl) ?_
      refine lv_iconst (v := 1) hx hb d_8_reachableFrom_57 (by decide) ?_
      refine lv_iadd hx hb d_8_reachableFrom_58 ?_
      refine hm_calli (hm_rV (i := 41) (As := [.int (r4 + 1)]) (rest := []) cx hw (ct_5_get (by decide) sx_41 sx_42 h) (mw_8_73 cx.1.2.2.2.2 ⟨Nat.le_of_ble_eq_true rfl, Nat.le_of_ble_eq_true rfl⟩) (by decide) sx_41 rfl rfl hl.1 rfl (Nat.le_of_ble_eq_true rfl) d_8_reachableFrom_59 ⟨Nat.zero_le _, Nat.zero_le _⟩) hL (fun r5 S5 T5 H locs h hw hL => ?_)
      refine lv_istore (lv' := [(4, .int r5), (3, .int r4), (0, .ref (o + 36)), (2, .int x2)]) hx hb d_8_reachableFrom_62 hl (by decide) rfl (fun ls hl => ?_)
      refine lv_aload_n hx hb d_8_reachableFrom_64 rfl (lv_at hl 2 rfl) ?_
      refine gf_8_23 cx hw (i := 36) (r := 41) (by decide) sx_36 rfl d_8_reachableFrom_65 ?_
      refine lv_iload_n hx hb d_8_reachableFrom_68 rfl (lv_at hl 1 rfl) ?_
      refine hm_calli (hm_rV (i := 41) (As := [.int r4]) (rest := []) cx hw (ct_5_get (by decide) sx_41 sx_42 h) (mw_8_73 cx.1.2.2.2.2 ⟨Nat.le_of_ble_eq_true rfl, Nat.le_of_ble_eq_true rfl⟩) (by decide) sx_41 rfl rfl hl.1 rfl (Nat.le_of_ble_eq_true rfl) d_8_reachableFrom_69 ⟨Nat.zero_le _, Nat.zero_le _⟩) hL (fun r6 S6 T6 H locs h hw hL => ?_)
      refine lv_istore (lv' := [(5, .int r6), (4, .int r5), (3, .int r4), (0, .ref (o + 36)), (2, .int x2)]) hx hb d_8_reachableFrom_72 hl (by decide) rfl (fun ls hl => ?_)
      obtain ⟨f, h⟩ := h
      exact lp_8_reachableFrom_74 cx hr hlk k28 f _ _ _ _ _ _ _ _ h hw hL (lv_sub hl [3, 4, 1, 0] rfl)
def wl_8_reachableFrom_28 (Q : Int32 → hm_S → hm_T → Prop) : Nat → Int32 → hm_S → hm_T → Prop
  | 0, _, _, _ => False
  | f + 1, x2, S, T => wb_8_reachableFrom_28 Q (wl_8_reachableFrom_28 Q f) x2 S T
theorem lp_8_reachableFrom_28 {Q : Int32 → hm_S → hm_T → Prop} (cx : hm_cx G p s m args c prog_10_method_6_code 6 "HeapGames$Solver") (hr : meth.sig.returnType = some .int) (hlk : meth.locks = false) : ∀ (f : Nat) (x2 : Int32) (S : hm_S) (T : hm_T) (H : Heap) (locs : List Loc) (ls : Array Slot), wl_8_reachableFrom_28 Q f x2 S T → hm_w G H0 o 74 shX S T H → hm_L o 74 locs → lv_has ls 6 [(0, .ref (o + 36)), (2, .int x2)] → W p l e rm_8_reachableFrom s m args below meth c H locs 0 0 (MQ below (hm_Qi G H0 o 74 shX Q) args s 0 0 (t_fr o (o + 74))) (F0 m 28 ls []) := by
  intro f
  induction f with
  | zero => intro x2 S T H locs ls h; exact h.elim
  | succ f ih => intro x2 S T H locs ls h hw hL hl; exact bk_8_reachableFrom_28 cx hr hlk ih h hw hL hl
def wp_8_reachableFrom (x1 : Int32) (S : hm_S) (T : hm_T) (Q : Int32 → hm_S → hm_T → Prop) : Prop :=
  wp_5_clear 57 2430 S T (fun S1 T1 => wp_5_get 37 2430 x1 (hm_up S1 36 14 0) T1 (fun r2 S2 T2 => wp_8_look (r2 - 1) S2 T2 (fun S3 T3 => ∃ f, wl_8_reachableFrom_28 Q f 0 S3 T3)))
set_option maxHeartbeats 4000000 in
set_option maxRecDepth 20000 in
theorem bk_8_reachableFrom_0 {Q : Int32 → hm_S → hm_T → Prop} (cx : hm_cx G p s m args c prog_10_method_6_code 6 "HeapGames$Solver") (hr : meth.sig.returnType = some .int) (hlk : meth.locks = false) {x1 : Int32} {S : hm_S} {T : hm_T} {H : Heap} {locs : List Loc} {ls : Array Slot} (h : wp_8_reachableFrom x1 S T Q) (hw : hm_w G H0 o 74 shX S T H) (hL : hm_L o 74 locs) (hl : lv_has ls 6 [(0, .ref (o + 36)), (1, .int x1)]) : W p l e rm_8_reachableFrom s m args below meth c H locs 0 0 (MQ below (hm_Qi G H0 o 74 shX Q) args s 0 0 (t_fr o (o + 74))) (F0 m 0 ls []) := by
  have hx := cx.1.1
  have hb := cx.1.2.1
  unfold wp_8_reachableFrom at h
  refine lv_aload_n hx hb d_8_reachableFrom_0 rfl (lv_at hl 0 rfl) ?_
  refine gf_8_47 cx hw (i := 36) (r := 57) (by decide) sx_36 rfl d_8_reachableFrom_1 ?_
  refine hm_callv (hm_rV (i := 57) (As := []) (rest := []) cx hw (ct_5_clear (by decide) sx_57 sx_58 h) (mw_8_58 cx.1.2.2.2.2 ⟨Nat.le_of_ble_eq_true rfl, Nat.le_of_ble_eq_true rfl⟩) (by decide) sx_57 rfl rfl hl.1 rfl (Nat.le_of_ble_eq_true rfl) d_8_reachableFrom_4 ⟨Nat.zero_le _, Nat.zero_le _⟩) hL (fun S1 T1 H locs h hw hL => ?_)
  refine lv_aload_n hx hb d_8_reachableFrom_7 rfl (lv_at hl 0 rfl) ?_
  refine lv_iconst (v := 0) hx hb d_8_reachableFrom_8 (by decide) ?_
  refine pf_8_91 cx hw (i := 36) (by decide) sx_36 rfl hL d_8_reachableFrom_9 (fun H locs hw hL => ?_)
  refine lv_aload_n hx hb d_8_reachableFrom_12 rfl (lv_at hl 0 rfl) ?_
  refine lv_aload_n hx hb d_8_reachableFrom_13 rfl (lv_at hl 0 rfl) ?_
  refine gf_8_14 cx hw (i := 36) (r := 37) (by decide) sx_36 rfl d_8_reachableFrom_14 ?_
  refine lv_iload_n hx hb d_8_reachableFrom_17 rfl (lv_at hl 1 rfl) ?_
  refine hm_calli (hm_rV (i := 37) (As := [.int x1]) (rest := [.ref (o + 36)]) cx hw (ct_5_get (by decide) sx_37 sx_38 h) (mw_8_73 cx.1.2.2.2.2 ⟨Nat.le_of_ble_eq_true rfl, Nat.le_of_ble_eq_true rfl⟩) (by decide) sx_37 rfl rfl hl.1 rfl (Nat.le_of_ble_eq_true rfl) d_8_reachableFrom_18 ⟨Nat.zero_le _, Nat.zero_le _⟩) hL (fun r2 S2 T2 H locs h hw hL => ?_)
  refine lv_iconst (v := 1) hx hb d_8_reachableFrom_21 (by decide) ?_
  refine lv_isub hx hb d_8_reachableFrom_22 ?_
  refine hm_callv (hm_rV (i := 36) (As := [.int (r2 - 1)]) (rest := []) cx hw (ct_8_look h) (mw_8_94 cx.1.2.2.2.2 ⟨Nat.le_of_ble_eq_true rfl, Nat.le_of_ble_eq_true rfl⟩) (by decide) sx_36 rfl rfl hl.1 rfl (Nat.le_of_ble_eq_true rfl) d_8_reachableFrom_23 ⟨Nat.zero_le _, Nat.zero_le _⟩) hL (fun S3 T3 H locs h hw hL => ?_)
  refine lv_iconst (v := 0) hx hb d_8_reachableFrom_26 (by decide) ?_
  refine lv_istore_n (lv' := [(2, .int 0), (0, .ref (o + 36)), (1, .int x1)]) hx hb d_8_reachableFrom_27 rfl hl (by decide) rfl (fun ls hl => ?_)
  obtain ⟨f, h⟩ := h
  exact lp_8_reachableFrom_28 cx hr hlk f _ _ _ _ _ _ h hw hL (lv_sub hl [1, 0] rfl)
set_option maxHeartbeats 4000000 in
set_option maxRecDepth 20000 in
theorem ct_8_reachableFrom {x1 : Int32} {S : hm_S} {T : hm_T} {Q : Int32 → hm_S → hm_T → Prop} (h : wp_8_reachableFrom x1 S T Q) : hm_M l G H0 o 74 shX y_8_reachableFrom prog_10_method_6_code 6 (some .int) rm_8_reachableFrom S T [.ref (o + 36), .int x1] (hm_Qi G H0 o 74 shX Q) := by
  refine Met.ofW (cc := prog_10_method_6_code) (maxL := 6) (ret := some .int) (by decide) rfl ?_
  intro p e s m args below meth c s₁ B hml hv
  obtain ⟨rfl, hK, hw⟩ := hv
  have cx : hm_cx G p s m _ c prog_10_method_6_code 6 "HeapGames$Solver" := ⟨⟨B.exec, B.bytes, hml, findClass_of_methodNamed B.named, fun w hq => atoms_spec (ws := hm_ws y_8_reachableFrom prog_10_method_6_code 6 (some .int)) B.pre w (List.mem_cons_of_mem _ hq)⟩, hK⟩
  have hl := lv_entry ([.ref (o + 36), .int x1]) (n := 6) (Nat.le_of_ble_eq_true rfl)
  rw [lg_entry_eq]
  generalize (lg_sl ([.ref (o + 36), .int x1]) ++ List.replicate (6 - (lg_sl ([.ref (o + 36), .int x1])).length) Slot.unset).toArray = ls at hl ⊢
  have hl : lv_has ls 6 [(0, .ref (o + 36)), (1, .int x1)] := hl
  exact bk_8_reachableFrom_0 cx B.returns B.notSynchronized h hw (hm_L0 _ _) hl
/-! ===== HeapGames$Solver.turnStepsRound()V ===== -/
theorem d_8_turnStepsRound_0 : decode prog_10_method_10_code 0 = .ok (.aload_n 0, 1) := by decide +kernel
theorem d_8_turnStepsRound_1 : decode prog_10_method_10_code 1 = .ok (.getfield 29, 3) := by decide +kernel
theorem d_8_turnStepsRound_4 : decode prog_10_method_10_code 4 = .ok (.invokevirtual 58, 3) := by decide +kernel
theorem d_8_turnStepsRound_7 : decode prog_10_method_10_code 7 = .ok (.aload_n 0, 1) := by decide +kernel
theorem d_8_turnStepsRound_8 : decode prog_10_method_10_code 8 = .ok (.getfield 23, 3) := by decide +kernel
theorem d_8_turnStepsRound_11 : decode prog_10_method_10_code 11 = .ok (.aload_n 0, 1) := by decide +kernel
theorem d_8_turnStepsRound_12 : decode prog_10_method_10_code 12 = .ok (.getfield 61, 3) := by decide +kernel
theorem d_8_turnStepsRound_15 : decode prog_10_method_10_code 15 = .ok (.invokevirtual 73, 3) := by decide +kernel
theorem d_8_turnStepsRound_18 : decode prog_10_method_10_code 18 = .ok (.istore_n 1, 1) := by decide +kernel
theorem d_8_turnStepsRound_19 : decode prog_10_method_10_code 19 = .ok (.iconst 0, 1) := by decide +kernel
theorem d_8_turnStepsRound_20 : decode prog_10_method_10_code 20 = .ok (.istore_n 2, 1) := by decide +kernel
theorem d_8_turnStepsRound_21 : decode prog_10_method_10_code 21 = .ok (.iload_n 2, 1) := by decide +kernel
theorem d_8_turnStepsRound_22 : decode prog_10_method_10_code 22 = .ok (.iload_n 1, 1) := by decide +kernel
theorem d_8_turnStepsRound_23 : decode prog_10_method_10_code 23 = .ok (.if_icmp .ge 25, 3) := by decide +kernel
theorem d_8_turnStepsRound_26 : decode prog_10_method_10_code 26 = .ok (.aload_n 0, 1) := by decide +kernel
theorem d_8_turnStepsRound_27 : decode prog_10_method_10_code 27 = .ok (.getfield 29, 3) := by decide +kernel
theorem d_8_turnStepsRound_30 : decode prog_10_method_10_code 30 = .ok (.aload_n 0, 1) := by decide +kernel
theorem d_8_turnStepsRound_31 : decode prog_10_method_10_code 31 = .ok (.getfield 26, 3) := by decide +kernel
theorem d_8_turnStepsRound_34 : decode prog_10_method_10_code 34 = .ok (.iload_n 2, 1) := by decide +kernel
theorem d_8_turnStepsRound_35 : decode prog_10_method_10_code 35 = .ok (.invokevirtual 73, 3) := by decide +kernel
theorem d_8_turnStepsRound_38 : decode prog_10_method_10_code 38 = .ok (.iconst 1, 1) := by decide +kernel
theorem d_8_turnStepsRound_39 : decode prog_10_method_10_code 39 = .ok (.invokevirtual 106, 3) := by decide +kernel
theorem d_8_turnStepsRound_42 : decode prog_10_method_10_code 42 = .ok (.iinc 2 1, 3) := by decide +kernel
theorem d_8_turnStepsRound_45 : decode prog_10_method_10_code 45 = .ok (.goto (-24), 3) := by decide +kernel
theorem d_8_turnStepsRound_48 : decode prog_10_method_10_code 48 = .ok (.iconst 1, 1) := by decide +kernel
theorem d_8_turnStepsRound_49 : decode prog_10_method_10_code 49 = .ok (.istore_n 2, 1) := by decide +kernel
theorem d_8_turnStepsRound_50 : decode prog_10_method_10_code 50 = .ok (.iload_n 2, 1) := by decide +kernel
theorem d_8_turnStepsRound_51 : decode prog_10_method_10_code 51 = .ok (.aload_n 0, 1) := by decide +kernel
theorem d_8_turnStepsRound_52 : decode prog_10_method_10_code 52 = .ok (.getfield 61, 3) := by decide +kernel
theorem d_8_turnStepsRound_55 : decode prog_10_method_10_code 55 = .ok (.if_icmp .gt 27, 3) := by decide +kernel
theorem d_8_turnStepsRound_58 : decode prog_10_method_10_code 58 = .ok (.aload_n 0, 1) := by decide +kernel
theorem d_8_turnStepsRound_59 : decode prog_10_method_10_code 59 = .ok (.getfield 29, 3) := by decide +kernel
theorem d_8_turnStepsRound_62 : decode prog_10_method_10_code 62 = .ok (.iload_n 2, 1) := by decide +kernel
theorem d_8_turnStepsRound_63 : decode prog_10_method_10_code 63 = .ok (.aload_n 0, 1) := by decide +kernel
theorem d_8_turnStepsRound_64 : decode prog_10_method_10_code 64 = .ok (.getfield 29, 3) := by decide +kernel
theorem d_8_turnStepsRound_67 : decode prog_10_method_10_code 67 = .ok (.iload_n 2, 1) := by decide +kernel
theorem d_8_turnStepsRound_68 : decode prog_10_method_10_code 68 = .ok (.iconst 1, 1) := by decide +kernel
theorem d_8_turnStepsRound_69 : decode prog_10_method_10_code 69 = .ok (.isub, 1) := by decide +kernel
theorem d_8_turnStepsRound_70 : decode prog_10_method_10_code 70 = .ok (.invokevirtual 73, 3) := by decide +kernel
theorem d_8_turnStepsRound_73 : decode prog_10_method_10_code 73 = .ok (.invokevirtual 106, 3) := by decide +kernel
theorem d_8_turnStepsRound_76 : decode prog_10_method_10_code 76 = .ok (.iinc 2 1, 3) := by decide +kernel
theorem d_8_turnStepsRound_79 : decode prog_10_method_10_code 79 = .ok (.goto (-29), 3) := by decide +kernel
theorem d_8_turnStepsRound_82 : decode prog_10_method_10_code 82 = .ok (.iconst 0, 1) := by decide +kernel
theorem d_8_turnStepsRound_83 : decode prog_10_method_10_code 83 = .ok (.istore_n 2, 1) := by decide +kernel
theorem d_8_turnStepsRound_84 : decode prog_10_method_10_code 84 = .ok (.iload_n 2, 1) := by decide +kernel
theorem d_8_turnStepsRound_85 : decode prog_10_method_10_code 85 = .ok (.aload_n 0, 1) := by decide +kernel
theorem d_8_turnStepsRound_86 : decode prog_10_method_10_code 86 = .ok (.getfield 61, 3) := by decide +kernel
theorem d_8_turnStepsRound_89 : decode prog_10_method_10_code 89 = .ok (.if_icmp .ge 80, 3) := by decide +kernel
theorem d_8_turnStepsRound_92 : decode prog_10_method_10_code 92 = .ok (.aload_n 0, 1) := by decide +kernel
theorem d_8_turnStepsRound_93 : decode prog_10_method_10_code 93 = .ok (.getfield 23, 3) := by decide +kernel
theorem d_8_turnStepsRound_96 : decode prog_10_method_10_code 96 = .ok (.iload_n 2, 1) := by decide +kernel
theorem d_8_turnStepsRound_97 : decode prog_10_method_10_code 97 = .ok (.iconst 1, 1) := by decide +kernel
theorem d_8_turnStepsRound_98 : decode prog_10_method_10_code 98 = .ok (.iadd, 1) := by decide +kernel
theorem d_8_turnStepsRound_99 : decode prog_10_method_10_code 99 = .ok (.invokevirtual 73, 3) := by decide +kernel
theorem d_8_turnStepsRound_102 : decode prog_10_method_10_code 102 = .ok (.istore_n 3, 1) := by decide +kernel
theorem d_8_turnStepsRound_103 : decode prog_10_method_10_code 103 = .ok (.aload_n 0, 1) := by decide +kernel
theorem d_8_turnStepsRound_104 : decode prog_10_method_10_code 104 = .ok (.getfield 23, 3) := by decide +kernel
theorem d_8_turnStepsRound_107 : decode prog_10_method_10_code 107 = .ok (.iload_n 2, 1) := by decide +kernel
theorem d_8_turnStepsRound_108 : decode prog_10_method_10_code 108 = .ok (.invokevirtual 73, 3) := by decide +kernel
theorem d_8_turnStepsRound_111 : decode prog_10_method_10_code 111 = .ok (.istore 4, 2) := by decide +kernel
theorem d_8_turnStepsRound_113 : decode prog_10_method_10_code 113 = .ok (.iload 4, 2) := by decide +kernel
theorem d_8_turnStepsRound_115 : decode prog_10_method_10_code 115 = .ok (.iload_n 3, 1) := by decide +kernel
theorem d_8_turnStepsRound_116 : decode prog_10_method_10_code 116 = .ok (.if_icmp .ge 47, 3) := by decide +kernel
theorem d_8_turnStepsRound_119 : decode prog_10_method_10_code 119 = .ok (.aload_n 0, 1) := by decide +kernel
theorem d_8_turnStepsRound_120 : decode prog_10_method_10_code 120 = .ok (.getfield 26, 3) := by decide +kernel
theorem d_8_turnStepsRound_123 : decode prog_10_method_10_code 123 = .ok (.iload 4, 2) := by decide +kernel
theorem d_8_turnStepsRound_125 : decode prog_10_method_10_code 125 = .ok (.invokevirtual 73, 3) := by decide +kernel
theorem d_8_turnStepsRound_128 : decode prog_10_method_10_code 128 = .ok (.istore 5, 2) := by decide +kernel
theorem d_8_turnStepsRound_130 : decode prog_10_method_10_code 130 = .ok (.aload_n 0, 1) := by decide +kernel
theorem d_8_turnStepsRound_131 : decode prog_10_method_10_code 131 = .ok (.getfield 29, 3) := by decide +kernel
theorem d_8_turnStepsRound_134 : decode prog_10_method_10_code 134 = .ok (.iload 5, 2) := by decide +kernel
theorem d_8_turnStepsRound_136 : decode prog_10_method_10_code 136 = .ok (.iconst (-1), 1) := by decide +kernel
theorem d_8_turnStepsRound_137 : decode prog_10_method_10_code 137 = .ok (.invokevirtual 106, 3) := by decide +kernel
theorem d_8_turnStepsRound_140 : decode prog_10_method_10_code 140 = .ok (.aload_n 0, 1) := by decide +kernel
theorem d_8_turnStepsRound_141 : decode prog_10_method_10_code 141 = .ok (.getfield 32, 3) := by decide +kernel
theorem d_8_turnStepsRound_144 : decode prog_10_method_10_code 144 = .ok (.aload_n 0, 1) := by decide +kernel
theorem d_8_turnStepsRound_145 : decode prog_10_method_10_code 145 = .ok (.getfield 29, 3) := by decide +kernel
theorem d_8_turnStepsRound_148 : decode prog_10_method_10_code 148 = .ok (.iload 5, 2) := by decide +kernel
theorem d_8_turnStepsRound_150 : decode prog_10_method_10_code 150 = .ok (.invokevirtual 73, 3) := by decide +kernel
theorem d_8_turnStepsRound_153 : decode prog_10_method_10_code 153 = .ok (.iload_n 2, 1) := by decide +kernel
theorem d_8_turnStepsRound_154 : decode prog_10_method_10_code 154 = .ok (.invokevirtual 87, 3) := by decide +kernel
theorem d_8_turnStepsRound_157 : decode prog_10_method_10_code 157 = .ok (.iinc 4 1, 3) := by decide +kernel
theorem d_8_turnStepsRound_160 : decode prog_10_method_10_code 160 = .ok (.goto (-47), 3) := by decide +kernel
theorem d_8_turnStepsRound_163 : decode prog_10_method_10_code 163 = .ok (.iinc 2 1, 3) := by decide +kernel
theorem d_8_turnStepsRound_166 : decode prog_10_method_10_code 166 = .ok (.goto (-82), 3) := by decide +kernel
theorem d_8_turnStepsRound_169 : decode prog_10_method_10_code 169 = .ok (.return_, 1) := by decide +kernel
def wb_8_turnStepsRound_163 (Q : hm_S → hm_T → Prop) (K84 : Int32 → hm_S → hm_T → Prop) (x2 : Int32) (S : hm_S) (T : hm_T) : Prop :=
  K84 (x2 + 1) S T
set_option maxHeartbeats 4000000 in
set_option maxRecDepth 20000 in
theorem bk_8_turnStepsRound_163 {Q : hm_S → hm_T → Prop} {K84 : Int32 → hm_S → hm_T → Prop} (cx : hm_cx G p s m args c prog_10_method_10_code 6 "HeapGames$Solver") (hr : meth.sig.returnType = none) (hlk : meth.locks = false) (k84 : ∀ (x2 : Int32) (S : hm_S) (T : hm_T) (H : Heap) (locs : List Loc) (ls : Array Slot), K84 x2 S T → hm_w G H0 o 74 shX S T H → hm_L o 74 locs → lv_has ls 6 [(0, .ref (o + 36)), (2, .int x2)] → W p l e rm_8_turnStepsRound s m args below meth c H locs 0 0 (MQ below (hm_Qv G H0 o 74 shX Q) args s 0 0 (t_fr o (o + 74))) (F0 m 84 ls [])) {x2 : Int32} {S : hm_S} {T : hm_T} {H : Heap} {locs : List Loc} {ls : Array Slot} (h : wb_8_turnStepsRound_163 Q K84 x2 S T) (hw : hm_w G H0 o 74 shX S T H) (hL : hm_L o 74 locs) (hl : lv_has ls 6 [(0, .ref (o + 36)), (2, .int x2)]) : W p l e rm_8_turnStepsRound s m args below meth c H locs 0 0 (MQ below (hm_Qv G H0 o 74 shX Q) args s 0 0 (t_fr o (o + 74))) (F0 m 163 ls []) := by
  have hx := cx.1.1
  have hb := cx.1.2.1
  unfold wb_8_turnStepsRound_163 at h
  refine lv_iinc (v := (x2 + 1)) (lv' := [(2, .int (x2 + 1)), (0, .ref (o + 36))]) hx hb d_8_turnStepsRound_163 hl (k := 1) rfl rfl (by decide) rfl (fun ls hl => ?_)
  refine lv_goto (tgt := 84) hx hb d_8_turnStepsRound_166 (by decide) ?_
  exact k84 _ _ _ _ _ _ h hw hL (lv_sub hl [1, 0] rfl)
def wb_8_turnStepsRound_113 (Q : hm_S → hm_T → Prop) (K84 : Int32 → hm_S → hm_T → Prop) (K113 : Int32 → Int32 → Int32 → hm_S → hm_T → Prop) (x2 : Int32) (x3 : Int32) (x4 : Int32) (S : hm_S) (T : hm_T) : Prop :=
  (if x3 ≤ x4 then wb_8_turnStepsRound_163 Q K84 x2 S T else wp_5_get 43 15010 x4 S T (fun r5 S5 T5 => wp_5_add 45 2431 r5 (-1) S5 T5 (fun S6 T6 => wp_5_get 45 2431 r5 S6 T6 (fun r7 S7 T7 => wp_5_set 47 15010 r7 x2 S7 T7 (fun S8 T8 => K113 x2 x3 (x4 + 1) S8 T8)))))
set_option maxHeartbeats 4000000 in
set_option maxRecDepth 20000 in
theorem bk_8_turnStepsRound_113 {Q : hm_S → hm_T → Prop} {K84 : Int32 → hm_S → hm_T → Prop} {K113 : Int32 → Int32 → Int32 → hm_S → hm_T → Prop} (cx : hm_cx G p s m args c prog_10_method_10_code 6 "HeapGames$Solver") (hr : meth.sig.returnType = none) (hlk : meth.locks = false) (k84 : ∀ (x2 : Int32) (S : hm_S) (T : hm_T) (H : Heap) (locs : List Loc) (ls : Array Slot), K84 x2 S T → hm_w G H0 o 74 shX S T H → hm_L o 74 locs → lv_has ls 6 [(0, .ref (o + 36)), (2, .int x2)] → W p l e rm_8_turnStepsRound s m args below meth c H locs 0 0 (MQ below (hm_Qv G H0 o 74 shX Q) args s 0 0 (t_fr o (o + 74))) (F0 m 84 ls [])) (k113 : ∀ (x2 : Int32) (x3 : Int32) (x4 : Int32) (S : hm_S) (T : hm_T) (H : Heap) (locs : List Loc) (ls : Array Slot), K113 x2 x3 x4 S T → hm_w G H0 o 74 shX S T H → hm_L o 74 locs → lv_has ls 6 [(0, .ref (o + 36)), (2, .int x2), (3, .int x3), (4, .int x4)] → W p l e rm_8_turnStepsRound s m args below meth c H locs 0 0 (MQ below (hm_Qv G H0 o 74 shX Q) args s 0 0 (t_fr o (o + 74))) (F0 m 113 ls [])) {x2 : Int32} {x3 : Int32} {x4 : Int32} {S : hm_S} {T : hm_T} {H : Heap} {locs : List Loc} {ls : Array Slot} (h : wb_8_turnStepsRound_113 Q K84 K113 x2 x3 x4 S T) (hw : hm_w G H0 o 74 shX S T H) (hL : hm_L o 74 locs) (hl : lv_has ls 6 [(0, .ref (o + 36)), (2, .int x2), (3, .int x3), (4, .int x4)]) : W p l e rm_8_turnStepsRound s m args below meth c H locs 0 0 (MQ below (hm_Qv G H0 o 74 shX Q) args s 0 0 (t_fr o (o + 74))) (F0 m 113 ls []) := by
  have hx := cx.1.1
  have hb := cx.1.2.1
  unfold wb_8_turnStepsRound_113 at h
  refine lv_iload hx hb d_8_turnStepsRound_113 (lv_at hl 3 rfl) ?_
  refine lv_iload_n hx hb d_8_turnStepsRound_115 rfl (lv_at hl 2 rfl) ?_
  refine lv_icmp_ge (tgt := 163) hx hb d_8_turnStepsRound_116 (by decide) (fun hc => ?_) (fun hc => ?_)
  · replace h := hm_pos hc h
    exact bk_8_turnStepsRound_163 cx hr hlk k84 h hw hL (lv_sub hl [0, 1] rfl)
  · replace h := hm_neg hc h
    refine lv_aload_n hx hb d_8_turnStepsRound_119 rfl (lv_at hl 0 rfl) ?_
    refine gf_8_26 cx hw (i := 36) (r := 43) (by decide) sx_36 rfl d_8_turnStepsRound_120 ?_
    refine lv_iload hx hb d_8_turnStepsRound_123 (lv_at hl 3 rfl) ?_
    refine hm_calli (hm_rV (i := 43) (As := [.int x4]) (rest := []) cx hw (ct_5_get (by decide) sx_43 sx_44 h) (mw_8_73 cx.1.2.2.2.2 ⟨Nat.le_of_ble_eq_true rfl, Nat.le_of_ble_eq_true rfl⟩) (by decide) sx_43 rfl rfl hl.1 rfl (Nat.le_of_ble_eq_true rfl) d_8_turnStepsRound_125 ⟨Nat.zero_le _, Nat.zero_le _⟩) hL (fun r5 S5 T5 H locs h hw hL => ?_)
    refine lv_istore (lv' := [(5, .int r5), (0, .ref (o + 36)), (2, .int x2), (3, .int x3), (4, .int x4)]) hx hb d_8_turnStepsRound_128 hl (by decide) rfl (fun ls hl => ?_)
    refine lv_aload_n hx hb d_8_turnStepsRound_130 rfl (lv_at hl 1 rfl) ?_
    refine gf_8_29 cx hw (i := 36) (r := 45) (by decide) sx_36 rfl d_8_turnStepsRound_131 ?_
    refine lv_iload hx hb d_8_turnStepsRound_134 (lv_at hl 0 rfl) ?_
    refine lv_iconst (v := (-1)) hx hb d_8_turnStepsRound_136 (by decide) ?_
    refine hm_callv (hm_rV (i := 45) (As := [.int r5, .int (-1)]) (rest := []) cx hw (ct_5_add (by decide) sx_45 sx_46 h) (mw_8_106 cx.1.2.2.2.2 ⟨Nat.le_of_ble_eq_true rfl, Nat.le_of_ble_eq_true rfl⟩) (by decide) sx_45 rfl rfl hl.1 rfl (Nat.le_of_ble_eq_true rfl) d_8_turnStepsRound_137 ⟨Nat.zero_le _, Nat.zero_le _⟩) hL (fun S6 T6 H locs h hw hL => ?_)
    refine lv_aload_n hx hb d_8_turnStepsRound_140 rfl (lv_at hl 1 rfl) ?_
    refine gf_8_32 cx hw (i := 36) (r := 47) (by decide) sx_36 rfl d_8_turnStepsRound_141 ?_
    refine lv_aload_n hx hb d_8_turnStepsRound_144 rfl (lv_at hl 1 rfl) ?_
    refine gf_8_29 cx hw (i := 36) (r := 45) (by decide) sx_36 rfl d_8_turnStepsRound_145 ?_
    refine lv_iload hx hb d_8_turnStepsRound_148 (lv_at hl 0 rfl) ?_
    refine hm_calli (hm_rV (i := 45) (As := [.int r5]) (rest := [.ref (o + 47)]) cx hw (ct_5_get (by decide) sx_45 sx_46 h) (mw_8_73 cx.1.2.2.2.2 ⟨Nat.le_of_ble_eq_true rfl, Nat.le_of_ble_eq_true rfl⟩) (by decide) sx_45 rfl rfl hl.1 rfl (Nat.le_of_ble_eq_true rfl) d_8_turnStepsRound_150 ⟨Nat.zero_le _, Nat.zero_le _⟩) hL (fun r7 S7 T7 H locs h hw hL => ?_)
    refine lv_iload_n hx hb d_8_turnStepsRound_153 rfl (lv_at hl 2 rfl) ?_
    refine hm_callv (hm_rV (i := 47) (As := [.int r7, .int x2]) (rest := []) cx hw (ct_5_set (by decide) sx_47 sx_48 h) (mw_8_87 cx.1.2.2.2.2 ⟨Nat.le_of_ble_eq_true rfl, Nat.le_of_ble_eq_true rfl⟩) (by decide) sx_47 rfl rfl hl.1 rfl (Nat.le_of_ble_eq_true rfl) d_8_turnStepsRound_154 ⟨Nat.zero_le _, Nat.zero_le _⟩) hL (fun S8 T8 H locs h hw hL => ?_)
    refine lv_iinc (v := (x4 + 1)) (lv' := [(4, .int (x4 + 1)), (5, .int r5), (0, .ref (o + 36)), (2, .int x2), (3, .int x3)]) hx hb d_8_turnStepsRound_157 hl (k := 4) rfl rfl (by decide) rfl (fun ls hl => ?_)
    refine lv_goto (tgt := 113) hx hb d_8_turnStepsRound_160 (by decide) ?_
    exact k113 _ _ _ _ _ _ _ _ h hw hL (lv_sub hl [2, 3, 4, 0] rfl)
def wl_8_turnStepsRound_113 (Q : hm_S → hm_T → Prop) (K84 : Int32 → hm_S → hm_T → Prop) : Nat → Int32 → Int32 → Int32 → hm_S → hm_T → Prop
  | 0, _, _, _, _, _ => False
  | f + 1, x2, x3, x4, S, T => wb_8_turnStepsRound_113 Q K84 (wl_8_turnStepsRound_113 Q K84 f) x2 x3 x4 S T
theorem lp_8_turnStepsRound_113 {Q : hm_S → hm_T → Prop} {K84 : Int32 → hm_S → hm_T → Prop} (cx : hm_cx G p s m args c prog_10_method_10_code 6 "HeapGames$Solver") (hr : meth.sig.returnType = none) (hlk : meth.locks = false) (k84 : ∀ (x2 : Int32) (S : hm_S) (T : hm_T) (H : Heap) (locs : List Loc) (ls : Array Slot), K84 x2 S T → hm_w G H0 o 74 shX S T H → hm_L o 74 locs → lv_has ls 6 [(0, .ref (o + 36)), (2, .int x2)] → W p l e rm_8_turnStepsRound s m args below meth c H locs 0 0 (MQ below (hm_Qv G H0 o 74 shX Q) args s 0 0 (t_fr o (o + 74))) (F0 m 84 ls [])) : ∀ (f : Nat) (x2 : Int32) (x3 : Int32) (x4 : Int32) (S : hm_S) (T : hm_T) (H : Heap) (locs : List Loc) (ls : Array Slot), wl_8_turnStepsRound_113 Q K84 f x2 x3 x4 S T → hm_w G H0 o 74 shX S T H → hm_L o 74 locs → lv_has ls 6 [(0, .ref (o + 36)), (2, .int x2), (3, .int x3), (4, .int x4)] → W p l e rm_8_turnStepsRound s m args below meth c H locs 0 0 (MQ below (hm_Qv G H0 o 74 shX Q) args s 0 0 (t_fr o (o + 74))) (F0 m 113 ls []) := by
  intro f
  induction f with
  | zero => intro x2 x3 x4 S T H locs ls h; exact h.elim
  | succ f ih => intro x2 x3 x4 S T H locs ls h hw hL hl; exact bk_8_turnStepsRound_113 cx hr hlk k84 ih h hw hL hl
def wb_8_turnStepsRound_84 (Q : hm_S → hm_T → Prop) (K84 : Int32 → hm_S → hm_T → Prop) (x2 : Int32) (S : hm_S) (T : hm_T) : Prop :=
  (if (S 36 13) ≤ x2 then Q S T else wp_5_get 41 2431 (x2 + 1) S T (fun r3 S3 T3 => wp_5_get 41 2431 x2 S3 T3 (fun r4 S4 T4 => ∃ f, wl_8_turnStepsRound_113 Q K84 f x2 r3 r4 S4 T4)))
set_option maxHeartbeats 4000000 in
set_option maxRecDepth 20000 in
theorem bk_8_turnStepsRound_84 {Q : hm_S → hm_T → Prop} {K84 : Int32 → hm_S → hm_T → Prop} (cx : hm_cx G p s m args c prog_10_method_10_code 6 "HeapGames$Solver") (hr : meth.sig.returnType = none) (hlk : meth.locks = false) (k84 : ∀ (x2 : Int32) (S : hm_S) (T : hm_T) (H : Heap) (locs : List Loc) (ls : Array Slot), K84 x2 S T → hm_w G H0 o 74 shX S T H → hm_L o 74 locs → lv_has ls 6 [(0, .ref (o + 36)), (2, .int x2)] → W p l e rm_8_turnStepsRound s m args below meth c H locs 0 0 (MQ below (hm_Qv G H0 o 74 shX Q) args s 0 0 (t_fr o (o + 74))) (F0 m 84 ls [])) {x2 : Int32} {S : hm_S} {T : hm_T} {H : Heap} {locs : List Loc} {ls : Array Slot} (h : wb_8_turnStepsRound_84 Q K84 x2 S T) (hw : hm_w G H0 o 74 shX S T H) (hL : hm_L o 74 locs) (hl : lv_has ls 6 [(0, .ref (o + 36)), (2, .int x2)]) : W p l e rm_8_turnStepsRound s m args below meth c H locs 0 0 (MQ below (hm_Qv G H0 o 74 shX Q) args s 0 0 (t_fr o (o + 74))) (F0 m 84 ls []) := by
  have hx := cx.1.1
  have hb := cx.1.2.1
  unfold wb_8_turnStepsRound_84 at h
  refine lv_iload_n hx hb d_8_turnStepsRound_84 rfl (lv_at hl 1 rfl) ?_
  refine lv_aload_n hx hb d_8_turnStepsRound_85 rfl (lv_at hl 0 rfl) ?_
  refine gf_8_61 cx hw (i := 36) (by decide) sx_36 rfl d_8_turnStepsRound_86 ?_
  refine lv_icmp_ge (tgt := 169) hx hb d_8_turnStepsRound_89 (by decide) (fun hc => ?_) (fun hc => ?_)
  · replace h := hm_pos hc h
    exact W.vret hx hb hr (fun t ht _ => ⟨_, _, rfl, h, by rw [ht]; exact hw⟩) hL d_8_turnStepsRound_169
  · replace h := hm_neg hc h
    refine lv_aload_n hx hb d_8_turnStepsRound_92 rfl (lv_at hl 0 rfl) ?_
    refine gf_8_23 cx hw (i := 36) (r := 41) (by decide) sx_36 rfl d_8_turnStepsRound_93 ?_
    refine lv_iload_n hx hb d_8_turnStepsRound_96 rfl (lv_at hl 1 rfl) ?_
    refine lv_iconst (v := 1) hx hb d_8_turnStepsRound_97 (by decide) ?_
    refine lv_iadd hx hb d_8_turnStepsRound_98 ?_
    refine hm_calli (hm_rV (i := 41) (As := [.int (x2 + 1)]) (rest := []) cx hw (ct_5_get (by decide) sx_41 sx_42 h) (mw_8_73 cx.1.2.2.2.2 ⟨Nat.le_of_ble_eq_true rfl, Nat.le_of_ble_eq_true rfl⟩) (by decide) sx_41 rfl rfl hl.1 rfl (Nat.le_of_ble_eq_true rfl) d_8_turnStepsRound_99 ⟨Nat.zero_le _, Nat.zero_le _⟩) hL (fun r3 S3 T3 H locs h hw hL => ?_)
    refine lv_istore_n (lv' := [(3, .int r3), (0, .ref (o + 36)), (2, .int x2)]) hx hb d_8_turnStepsRound_102 rfl hl (by decide) rfl (fun ls hl => ?_)
    refine lv_aload_n hx hb d_8_turnStepsRound_103 rfl (lv_at hl 1 rfl) ?_
    refine gf_8_23 cx hw (i := 36) (r := 41) (by decide) sx_36 rfl d_8_turnStepsRound_104 ?_
    refine lv_iload_n hx hb d_8_turnStepsRound_107 rfl (lv_at hl 2 rfl) ?_
    refine hm_calli (hm_rV (i := 41) (As := [.int x2]) (rest := []) cx hw (ct_5_get (by decide) sx_41 sx_42 h) (mw_8_73 cx.1.2.2.2.2 ⟨Nat.le_of_ble_eq_true rfl, Nat.le_of_ble_eq_true rfl⟩) (by decide) sx_41 rfl rfl hl.1 rfl (Nat.le_of_ble_eq_true rfl) d_8_turnStepsRound_108 ⟨Nat.zero_le _, Nat.zero_le _⟩) hL (fun r4 S4 T4 H locs h hw hL => ?_)
    refine lv_istore (lv' := [(4, .int r4), (3, .int r3), (0, .ref (o + 36)), (2, .int x2)]) hx hb d_8_turnStepsRound_111 hl (by decide) rfl (fun ls hl => ?_)
    obtain ⟨f, h⟩ := h
    exact lp_8_turnStepsRound_113 cx hr hlk k84 f _ _ _ _ _ _ _ _ h hw hL (lv_sub hl [2, 3, 1, 0] rfl)
def wl_8_turnStepsRound_84 (Q : hm_S → hm_T → Prop) : Nat → Int32 → hm_S → hm_T → Prop
  | 0, _, _, _ => False
  | f + 1, x2, S, T => wb_8_turnStepsRound_84 Q (wl_8_turnStepsRound_84 Q f) x2 S T
theorem lp_8_turnStepsRound_84 {Q : hm_S → hm_T → Prop} (cx : hm_cx G p s m args c prog_10_method_10_code 6 "HeapGames$Solver") (hr : meth.sig.returnType = none) (hlk : meth.locks = false) : ∀ (f : Nat) (x2 : Int32) (S : hm_S) (T : hm_T) (H : Heap) (locs : List Loc) (ls : Array Slot), wl_8_turnStepsRound_84 Q f x2 S T → hm_w G H0 o 74 shX S T H → hm_L o 74 locs → lv_has ls 6 [(0, .ref (o + 36)), (2, .int x2)] → W p l e rm_8_turnStepsRound s m args below meth c H locs 0 0 (MQ below (hm_Qv G H0 o 74 shX Q) args s 0 0 (t_fr o (o + 74))) (F0 m 84 ls []) := by
  intro f
  induction f with
  | zero => intro x2 S T H locs ls h; exact h.elim
  | succ f ih => intro x2 S T H locs ls h hw hL hl; exact bk_8_turnStepsRound_84 cx hr hlk ih h hw hL hl
def wb_8_turnStepsRound_82 (Q : hm_S → hm_T → Prop) (S : hm_S) (T : hm_T) : Prop :=
  ∃ f, wl_8_turnStepsRound_84 Q f 0 S T
set_option maxHeartbeats 4000000 in
set_option maxRecDepth 20000 in
theorem bk_8_turnStepsRound_82 {Q : hm_S → hm_T → Prop} (cx : hm_cx G p s m args c prog_10_method_10_code 6 "HeapGames$Solver") (hr : meth.sig.returnType = none) (hlk : meth.locks = false) {S : hm_S} {T : hm_T} {H : Heap} {locs : List Loc} {ls : Array Slot} (h : wb_8_turnStepsRound_82 Q S T) (hw : hm_w G H0 o 74 shX S T H) (hL : hm_L o 74 locs) (hl : lv_has ls 6 [(0, .ref (o + 36))]) : W p l e rm_8_turnStepsRound s m args below meth c H locs 0 0 (MQ below (hm_Qv G H0 o 74 shX Q) args s 0 0 (t_fr o (o + 74))) (F0 m 82 ls []) := by
  have hx := cx.1.1
  have hb := cx.1.2.1
  unfold wb_8_turnStepsRound_82 at h
  refine lv_iconst (v := 0) hx hb d_8_turnStepsRound_82 (by decide) ?_
  refine lv_istore_n (lv' := [(2, .int 0), (0, .ref (o + 36))]) hx hb d_8_turnStepsRound_83 rfl hl (by decide) rfl (fun ls hl => ?_)
  obtain ⟨f, h⟩ := h
  exact lp_8_turnStepsRound_84 cx hr hlk f _ _ _ _ _ _ h hw hL (lv_sub hl [1, 0] rfl)
def wb_8_turnStepsRound_50 (Q : hm_S → hm_T → Prop) (K50 : Int32 → hm_S → hm_T → Prop) (x2 : Int32) (S : hm_S) (T : hm_T) : Prop :=
  (if (S 36 13) < x2 then wb_8_turnStepsRound_82 Q S T else wp_5_get 45 2431 (x2 - 1) S T (fun r9 S9 T9 => wp_5_add 45 2431 x2 r9 S9 T9 (fun S10 T10 => K50 (x2 + 1) S10 T10)))
set_option maxHeartbeats 4000000 in
set_option maxRecDepth 20000 in
theorem bk_8_turnStepsRound_50 {Q : hm_S → hm_T → Prop} {K50 : Int32 → hm_S → hm_T → Prop} (cx : hm_cx G p s m args c prog_10_method_10_code 6 "HeapGames$Solver") (hr : meth.sig.returnType = none) (hlk : meth.locks = false) (k50 : ∀ (x2 : Int32) (S : hm_S) (T : hm_T) (H : Heap) (locs : List Loc) (ls : Array Slot), K50 x2 S T → hm_w G H0 o 74 shX S T H → hm_L o 74 locs → lv_has ls 6 [(0, .ref (o + 36)), (2, .int x2)] → W p l e rm_8_turnStepsRound s m args below meth c H locs 0 0 (MQ below (hm_Qv G H0 o 74 shX Q) args s 0 0 (t_fr o (o + 74))) (F0 m 50 ls [])) {x2 : Int32} {S : hm_S} {T : hm_T} {H : Heap} {locs : List Loc} {ls : Array Slot} (h : wb_8_turnStepsRound_50 Q K50 x2 S T) (hw : hm_w G H0 o 74 shX S T H) (hL : hm_L o 74 locs) (hl : lv_has ls 6 [(0, .ref (o + 36)), (2, .int x2)]) : W p l e rm_8_turnStepsRound s m args below meth c H locs 0 0 (MQ below (hm_Qv G H0 o 74 shX Q) args s 0 0 (t_fr o (o + 74))) (F0 m 50 ls []) := by
  have hx := cx.1.1
  have hb := cx.1.2.1
  unfold wb_8_turnStepsRound_50 at h
  refine lv_iload_n hx hb d_8_turnStepsRound_50 rfl (lv_at hl 1 rfl) ?_
  refine lv_aload_n hx hb d_8_turnStepsRound_51 rfl (lv_at hl 0 rfl) ?_
  refine gf_8_61 cx hw (i := 36) (by decide) sx_36 rfl d_8_turnStepsRound_52 ?_
  refine lv_icmp_gt (tgt := 82) hx hb d_8_turnStepsRound_55 (by decide) (fun hc => ?_) (fun hc => ?_)
  · replace h := hm_pos hc h
    exact bk_8_turnStepsRound_82 cx hr hlk h hw hL (lv_sub hl [0] rfl)
  · replace h := hm_neg hc h
    refine lv_aload_n hx hb d_8_turnStepsRound_58 rfl (lv_at hl 0 rfl) ?_
    refine gf_8_29 cx hw (i := 36) (r := 45) (by decide) sx_36 rfl d_8_turnStepsRound_59 ?_
    refine lv_iload_n hx hb d_8_turnStepsRound_62 rfl (lv_at hl 1 rfl) ?_
    refine lv_aload_n hx hb d_8_turnStepsRound_63 rfl (lv_at hl 0 rfl) ?_
    refine gf_8_29 cx hw (i := 36) (r := 45) (by decide) sx_36 rfl d_8_turnStepsRound_64 ?_
    refine lv_iload_n hx hb d_8_turnStepsRound_67 rfl (lv_at hl 1 rfl) ?_
    refine lv_iconst (v := 1) hx hb d_8_turnStepsRound_68 (by decide) ?_
    refine lv_isub hx hb d_8_turnStepsRound_69 ?_
    refine hm_calli (hm_rV (i := 45) (As := [.int (x2 - 1)]) (rest := [.int x2, .ref (o + 45)]) cx hw (ct_5_get (by decide) sx_45 sx_46 h) (mw_8_73 cx.1.2.2.2.2 ⟨Nat.le_of_ble_eq_true rfl, Nat.le_of_ble_eq_true rfl⟩) (by decide) sx_45 rfl rfl hl.1 rfl (Nat.le_of_ble_eq_true rfl) d_8_turnStepsRound_70 ⟨Nat.zero_le _, Nat.zero_le _⟩) hL (fun r9 S9 T9 H locs h hw hL => ?_)
    refine hm_callv (hm_rV (i := 45) (As := [.int x2, .int r9]) (rest := []) cx hw (ct_5_add (by decide) sx_45 sx_46 h) (mw_8_106 cx.1.2.2.2.2 ⟨Nat.le_of_ble_eq_true rfl, Nat.le_of_ble_eq_true rfl⟩) (by decide) sx_45 rfl rfl hl.1 rfl (Nat.le_of_ble_eq_true rfl) d_8_turnStepsRound_73 ⟨Nat.zero_le _, Nat.zero_le _⟩) hL (fun S10 T10 H locs h hw hL => ?_)
    refine lv_iinc (v := (x2 + 1)) (lv' := [(2, .int (x2 + 1)), (0, .ref (o + 36))]) hx hb d_8_turnStepsRound_76 hl (k := 1) rfl rfl (by decide) rfl (fun ls hl => ?_)
    refine lv_goto (tgt := 50) hx hb d_8_turnStepsRound_79 (by decide) ?_
    exact k50 _ _ _ _ _ _ h hw hL (lv_sub hl [1, 0] rfl)
def wl_8_turnStepsRound_50 (Q : hm_S → hm_T → Prop) : Nat → Int32 → hm_S → hm_T → Prop
  | 0, _, _, _ => False
  | f + 1, x2, S, T => wb_8_turnStepsRound_50 Q (wl_8_turnStepsRound_50 Q f) x2 S T
theorem lp_8_turnStepsRound_50 {Q : hm_S → hm_T → Prop} (cx : hm_cx G p s m args c prog_10_method_10_code 6 "HeapGames$Solver") (hr : meth.sig.returnType = none) (hlk : meth.locks = false) : ∀ (f : Nat) (x2 : Int32) (S : hm_S) (T : hm_T) (H : Heap) (locs : List Loc) (ls : Array Slot), wl_8_turnStepsRound_50 Q f x2 S T → hm_w G H0 o 74 shX S T H → hm_L o 74 locs → lv_has ls 6 [(0, .ref (o + 36)), (2, .int x2)] → W p l e rm_8_turnStepsRound s m args below meth c H locs 0 0 (MQ below (hm_Qv G H0 o 74 shX Q) args s 0 0 (t_fr o (o + 74))) (F0 m 50 ls []) := by
  intro f
  induction f with
  | zero => intro x2 S T H locs ls h; exact h.elim
  | succ f ih => intro x2 S T H locs ls h hw hL hl; exact bk_8_turnStepsRound_50 cx hr hlk ih h hw hL hl
def wb_8_turnStepsRound_48 (Q : hm_S → hm_T → Prop) (S : hm_S) (T : hm_T) : Prop :=
  ∃ f, wl_8_turnStepsRound_50 Q f 1 S T
set_option maxHeartbeats 4000000 in
set_option maxRecDepth 20000 in
theorem bk_8_turnStepsRound_48 {Q : hm_S → hm_T → Prop} (cx : hm_cx G p s m args c prog_10_method_10_code 6 "HeapGames$Solver") (hr : meth.sig.returnType = none) (hlk : meth.locks = false) {S : hm_S} {T : hm_T} {H : Heap} {locs : List Loc} {ls : Array Slot} (h : wb_8_turnStepsRound_48 Q S T) (hw : hm_w G H0 o 74 shX S T H) (hL : hm_L o 74 locs) (hl : lv_has ls 6 [(0, .ref (o + 36))]) : W p l e rm_8_turnStepsRound s m args below meth c H locs 0 0 (MQ below (hm_Qv G H0 o 74 shX Q) args s 0 0 (t_fr o (o + 74))) (F0 m 48 ls []) := by
  have hx := cx.1.1
  have hb := cx.1.2.1
  unfold wb_8_turnStepsRound_48 at h
  refine lv_iconst (v := 1) hx hb d_8_turnStepsRound_48 (by decide) ?_
  refine lv_istore_n (lv' := [(2, .int 1), (0, .ref (o + 36))]) hx hb d_8_turnStepsRound_49 rfl hl (by decide) rfl (fun ls hl => ?_)
  obtain ⟨f, h⟩ := h
  exact lp_8_turnStepsRound_50 cx hr hlk f _ _ _ _ _ _ h hw hL (lv_sub hl [1, 0] rfl)
def wb_8_turnStepsRound_21 (Q : hm_S → hm_T → Prop) (K21 : Int32 → Int32 → hm_S → hm_T → Prop) (x1 : Int32) (x2 : Int32) (S : hm_S) (T : hm_T) : Prop :=
  (if x1 ≤ x2 then wb_8_turnStepsRound_48 Q S T else wp_5_get 43 15010 x2 S T (fun r11 S11 T11 => wp_5_add 45 2431 r11 1 S11 T11 (fun S12 T12 => K21 x1 (x2 + 1) S12 T12)))
set_option maxHeartbeats 4000000 in
set_option maxRecDepth 20000 in
theorem bk_8_turnStepsRound_21 {Q : hm_S → hm_T → Prop} {K21 : Int32 → Int32 → hm_S → hm_T → Prop} (cx : hm_cx G p s m args c prog_10_method_10_code 6 "HeapGames$Solver") (hr : meth.sig.returnType = none) (hlk : meth.locks = false) (k21 : ∀ (x1 : Int32) (x2 : Int32) (S : hm_S) (T : hm_T) (H : Heap) (locs : List Loc) (ls : Array Slot), K21 x1 x2 S T → hm_w G H0 o 74 shX S T H → hm_L o 74 locs → lv_has ls 6 [(0, .ref (o + 36)), (1, .int x1), (2, .int x2)] → W p l e rm_8_turnStepsRound s m args below meth c H locs 0 0 (MQ below (hm_Qv G H0 o 74 shX Q) args s 0 0 (t_fr o (o + 74))) (F0 m 21 ls [])) {x1 : Int32} {x2 : Int32} {S : hm_S} {T : hm_T} {H : Heap} {locs : List Loc} {ls : Array Slot} (h : wb_8_turnStepsRound_21 Q K21 x1 x2 S T) (hw : hm_w G H0 o 74 shX S T H) (hL : hm_L o 74 locs) (hl : lv_has ls 6 [(0, .ref (o + 36)), (1, .int x1), (2, .int x2)]) : W p l e rm_8_turnStepsRound s m args below meth c H locs 0 0 (MQ below (hm_Qv G H0 o 74 shX Q) args s 0 0 (t_fr o (o + 74))) (F0 m 21 ls []) := by
  have hx := cx.1.1
  have hb := cx.1.2.1
  unfold wb_8_turnStepsRound_21 at h
  refine lv_iload_n hx hb d_8_turnStepsRound_21 rfl (lv_at hl 2 rfl) ?_
  refine lv_iload_n hx hb d_8_turnStepsRound_22 rfl (lv_at hl 1 rfl) ?_
  refine lv_icmp_ge (tgt := 48) hx hb d_8_turnStepsRound_23 (by decide) (fun hc => ?_) (fun hc => ?_)
  · replace h := hm_pos hc h
    exact bk_8_turnStepsRound_48 cx hr hlk h hw hL (lv_sub hl [0] rfl)
  · replace h := hm_neg hc h
    refine lv_aload_n hx hb d_8_turnStepsRound_26 rfl (lv_at hl 0 rfl) ?_
    refine gf_8_29 cx hw (i := 36) (r := 45) (by decide) sx_36 rfl d_8_turnStepsRound_27 ?_
    refine lv_aload_n hx hb d_8_turnStepsRound_30 rfl (lv_at hl 0 rfl) ?_
    refine gf_8_26 cx hw (i := 36) (r := 43) (by decide) sx_36 rfl d_8_turnStepsRound_31 ?_
    refine lv_iload_n hx hb d_8_turnStepsRound_34 rfl (lv_at hl 2 rfl) ?_
    refine hm_calli (hm_rV (i := 43) (As := [.int x2]) (rest := [.ref (o + 45)]) cx hw (ct_5_get (by decide) sx_43 sx_44 h) (mw_8_73 cx.1.2.2.2.2 ⟨Nat.le_of_ble_eq_true rfl, Nat.le_of_ble_eq_true rfl⟩) (by decide) sx_43 rfl rfl hl.1 rfl (Nat.le_of_ble_eq_true rfl) d_8_turnStepsRound_35 ⟨Nat.zero_le _, Nat.zero_le _⟩) hL (fun r11 S11 T11 H locs h hw hL => ?_)
    refine lv_iconst (v := 1) hx hb d_8_turnStepsRound_38 (by decide) ?_
    refine hm_callv (hm_rV (i := 45) (As := [.int r11, .int 1]) (rest := []) cx hw (ct_5_add (by decide) sx_45 sx_46 h) (mw_8_106 cx.1.2.2.2.2 ⟨Nat.le_of_ble_eq_true rfl, Nat.le_of_ble_eq_true rfl⟩) (by decide) sx_45 rfl rfl hl.1 rfl (Nat.le_of_ble_eq_true rfl) d_8_turnStepsRound_39 ⟨Nat.zero_le _, Nat.zero_le _⟩) hL (fun S12 T12 H locs h hw hL => ?_)
    refine lv_iinc (v := (x2 + 1)) (lv' := [(2, .int (x2 + 1)), (0, .ref (o + 36)), (1, .int x1)]) hx hb d_8_turnStepsRound_42 hl (k := 2) rfl rfl (by decide) rfl (fun ls hl => ?_)
    refine lv_goto (tgt := 21) hx hb d_8_turnStepsRound_45 (by decide) ?_
    exact k21 _ _ _ _ _ _ _ h hw hL (lv_sub hl [1, 2, 0] rfl)
def wl_8_turnStepsRound_21 (Q : hm_S → hm_T → Prop) : Nat → Int32 → Int32 → hm_S → hm_T → Prop
  | 0, _, _, _, _ => False
  | f + 1, x1, x2, S, T => wb_8_turnStepsRound_21 Q (wl_8_turnStepsRound_21 Q f) x1 x2 S T
theorem lp_8_turnStepsRound_21 {Q : hm_S → hm_T → Prop} (cx : hm_cx G p s m args c prog_10_method_10_code 6 "HeapGames$Solver") (hr : meth.sig.returnType = none) (hlk : meth.locks = false) : ∀ (f : Nat) (x1 : Int32) (x2 : Int32) (S : hm_S) (T : hm_T) (H : Heap) (locs : List Loc) (ls : Array Slot), wl_8_turnStepsRound_21 Q f x1 x2 S T → hm_w G H0 o 74 shX S T H → hm_L o 74 locs → lv_has ls 6 [(0, .ref (o + 36)), (1, .int x1), (2, .int x2)] → W p l e rm_8_turnStepsRound s m args below meth c H locs 0 0 (MQ below (hm_Qv G H0 o 74 shX Q) args s 0 0 (t_fr o (o + 74))) (F0 m 21 ls []) := by
  intro f
  induction f with
  | zero => intro x1 x2 S T H locs ls h; exact h.elim
  | succ f ih => intro x1 x2 S T H locs ls h hw hL hl; exact bk_8_turnStepsRound_21 cx hr hlk ih h hw hL hl
def wp_8_turnStepsRound (S : hm_S) (T : hm_T) (Q : hm_S → hm_T → Prop) : Prop :=
  wp_5_clear 45 2431 S T (fun S1 T1 => wp_5_get 41 2431 (S1 36 13) S1 T1 (fun r2 S2 T2 => ∃ f, wl_8_turnStepsRound_21 Q f r2 0 S2 T2))
set_option maxHeartbeats 4000000 in
set_option maxRecDepth 20000 in
theorem bk_8_turnStepsRound_0 {Q : hm_S → hm_T → Prop} (cx : hm_cx G p s m args c prog_10_method_10_code 6 "HeapGames$Solver") (hr : meth.sig.returnType = none) (hlk : meth.locks = false) {S : hm_S} {T : hm_T} {H : Heap} {locs : List Loc} {ls : Array Slot} (h : wp_8_turnStepsRound S T Q) (hw : hm_w G H0 o 74 shX S T H) (hL : hm_L o 74 locs) (hl : lv_has ls 6 [(0, .ref (o + 36))]) : W p l e rm_8_turnStepsRound s m args below meth c H locs 0 0 (MQ below (hm_Qv G H0 o 74 shX Q) args s 0 0 (t_fr o (o + 74))) (F0 m 0 ls []) := by
  have hx := cx.1.1
  have hb := cx.1.2.1
  unfold wp_8_turnStepsRound at h
  refine lv_aload_n hx hb d_8_turnStepsRound_0 rfl (lv_at hl 0 rfl) ?_
  refine gf_8_29 cx hw (i := 36) (r := 45) (by decide) sx_36 rfl d_8_turnStepsRound_1 ?_
  refine hm_callv (hm_rV (i := 45) (As := []) (rest := []) cx hw (ct_5_clear (by decide) sx_45 sx_46 h) (mw_8_58 cx.1.2.2.2.2 ⟨Nat.le_of_ble_eq_true rfl, Nat.le_of_ble_eq_true rfl⟩) (by decide) sx_45 rfl rfl hl.1 rfl (Nat.le_of_ble_eq_true rfl) d_8_turnStepsRound_4 ⟨Nat.zero_le _, Nat.zero_le _⟩) hL (fun S1 T1 H locs h hw hL => ?_)
  refine lv_aload_n hx hb d_8_turnStepsRound_7 rfl (lv_at hl 0 rfl) ?_
  refine gf_8_23 cx hw (i := 36) (r := 41) (by decide) sx_36 rfl d_8_turnStepsRound_8 ?_
  refine lv_aload_n hx hb d_8_turnStepsRound_11 rfl (lv_at hl 0 rfl) ?_
  refine gf_8_61 cx hw (i := 36) (by decide) sx_36 rfl d_8_turnStepsRound_12 ?_
  refine hm_calli (hm_rV (i := 41) (As := [.int (S1 36 13)]) (rest := []) cx hw (ct_5_get (by decide) sx_41 sx_42 h) (mw_8_73 cx.1.2.2.2.2 ⟨Nat.le_of_ble_eq_true rfl, Nat.le_of_ble_eq_true rfl⟩) (by decide) sx_41 rfl rfl hl.1 rfl (Nat.le_of_ble_eq_true rfl) d_8_turnStepsRound_15 ⟨Nat.zero_le _, Nat.zero_le _⟩) hL (fun r2 S2 T2 H locs h hw hL => ?_)
  refine lv_istore_n (lv' := [(1, .int r2), (0, .ref (o + 36))]) hx hb d_8_turnStepsRound_18 rfl hl (by decide) rfl (fun ls hl => ?_)
  refine lv_iconst (v := 0) hx hb d_8_turnStepsRound_19 (by decide) ?_
  refine lv_istore_n (lv' := [(2, .int 0), (1, .int r2), (0, .ref (o + 36))]) hx hb d_8_turnStepsRound_20 rfl hl (by decide) rfl (fun ls hl => ?_)
  obtain ⟨f, h⟩ := h
  exact lp_8_turnStepsRound_21 cx hr hlk f _ _ _ _ _ _ _ h hw hL (lv_sub hl [2, 1, 0] rfl)
set_option maxHeartbeats 4000000 in
set_option maxRecDepth 20000 in
theorem ct_8_turnStepsRound {S : hm_S} {T : hm_T} {Q : hm_S → hm_T → Prop} (h : wp_8_turnStepsRound S T Q) : hm_M l G H0 o 74 shX y_8_turnStepsRound prog_10_method_10_code 6 (none) rm_8_turnStepsRound S T [.ref (o + 36)] (hm_Qv G H0 o 74 shX Q) := by
  refine Met.ofW (cc := prog_10_method_10_code) (maxL := 6) (ret := none) (by decide) rfl ?_
  intro p e s m args below meth c s₁ B hml hv
  obtain ⟨rfl, hK, hw⟩ := hv
  have cx : hm_cx G p s m _ c prog_10_method_10_code 6 "HeapGames$Solver" := ⟨⟨B.exec, B.bytes, hml, findClass_of_methodNamed B.named, fun w hq => atoms_spec (ws := hm_ws y_8_turnStepsRound prog_10_method_10_code 6 (none)) B.pre w (List.mem_cons_of_mem _ hq)⟩, hK⟩
  have hl := lv_entry ([.ref (o + 36)]) (n := 6) (Nat.le_of_ble_eq_true rfl)
  rw [lg_entry_eq]
  generalize (lg_sl ([.ref (o + 36)]) ++ List.replicate (6 - (lg_sl ([.ref (o + 36)])).length) Slot.unset).toArray = ls at hl ⊢
  have hl : lv_has ls 6 [(0, .ref (o + 36))] := hl
  exact bk_8_turnStepsRound_0 cx B.returns B.notSynchronized h hw (hm_L0 _ _) hl
/-! ===== HeapGames$Solver.settle(III)V ===== -/
theorem d_8_settle_0 : decode prog_10_method_13_code 0 = .ok (.aload_n 0, 1) := by decide +kernel
theorem d_8_settle_1 : decode prog_10_method_13_code 1 = .ok (.getfield 35, 3) := by decide +kernel
theorem d_8_settle_4 : decode prog_10_method_13_code 4 = .ok (.iload_n 1, 1) := by decide +kernel
theorem d_8_settle_5 : decode prog_10_method_13_code 5 = .ok (.iload_n 2, 1) := by decide +kernel
theorem d_8_settle_6 : decode prog_10_method_13_code 6 = .ok (.invokevirtual 87, 3) := by decide +kernel
theorem d_8_settle_9 : decode prog_10_method_13_code 9 = .ok (.aload_n 0, 1) := by decide +kernel
theorem d_8_settle_10 : decode prog_10_method_13_code 10 = .ok (.getfield 38, 3) := by decide +kernel
theorem d_8_settle_13 : decode prog_10_method_13_code 13 = .ok (.iload_n 1, 1) := by decide +kernel
theorem d_8_settle_14 : decode prog_10_method_13_code 14 = .ok (.iload_n 3, 1) := by decide +kernel
theorem d_8_settle_15 : decode prog_10_method_13_code 15 = .ok (.invokevirtual 87, 3) := by decide +kernel
theorem d_8_settle_18 : decode prog_10_method_13_code 18 = .ok (.aload_n 0, 1) := by decide +kernel
theorem d_8_settle_19 : decode prog_10_method_13_code 19 = .ok (.getfield 44, 3) := by decide +kernel
theorem d_8_settle_22 : decode prog_10_method_13_code 22 = .ok (.aload_n 0, 1) := by decide +kernel
theorem d_8_settle_23 : decode prog_10_method_13_code 23 = .ok (.getfield 91, 3) := by decide +kernel
theorem d_8_settle_26 : decode prog_10_method_13_code 26 = .ok (.iload_n 1, 1) := by decide +kernel
theorem d_8_settle_27 : decode prog_10_method_13_code 27 = .ok (.invokevirtual 87, 3) := by decide +kernel
theorem d_8_settle_30 : decode prog_10_method_13_code 30 = .ok (.aload_n 0, 1) := by decide +kernel
theorem d_8_settle_31 : decode prog_10_method_13_code 31 = .ok (.dup, 1) := by decide +kernel
theorem d_8_settle_32 : decode prog_10_method_13_code 32 = .ok (.getfield 91, 3) := by decide +kernel
theorem d_8_settle_35 : decode prog_10_method_13_code 35 = .ok (.iconst 1, 1) := by decide +kernel
theorem d_8_settle_36 : decode prog_10_method_13_code 36 = .ok (.iadd, 1) := by decide +kernel
theorem d_8_settle_37 : decode prog_10_method_13_code 37 = .ok (.putfield 91, 3) := by decide +kernel
theorem d_8_settle_40 : decode prog_10_method_13_code 40 = .ok (.return_, 1) := by decide +kernel
def wp_8_settle (x1 : Int32) (x2 : Int32) (x3 : Int32) (S : hm_S) (T : hm_T) (Q : hm_S → hm_T → Prop) : Prop :=
  wp_5_set 49 2430 x1 x2 S T (fun S1 T1 => wp_5_set 51 2430 x1 x3 S1 T1 (fun S2 T2 => wp_5_set 55 2430 (S2 36 14) x1 S2 T2 (fun S3 T3 => Q (hm_up S3 36 14 ((S3 36 14) + 1)) T3)))
set_option maxHeartbeats 4000000 in
set_option maxRecDepth 20000 in
theorem bk_8_settle_0 {Q : hm_S → hm_T → Prop} (cx : hm_cx G p s m args c prog_10_method_13_code 4 "HeapGames$Solver") (hr : meth.sig.returnType = none) (hlk : meth.locks = false) {x1 : Int32} {x2 : Int32} {x3 : Int32} {S : hm_S} {T : hm_T} {H : Heap} {locs : List Loc} {ls : Array Slot} (h : wp_8_settle x1 x2 x3 S T Q) (hw : hm_w G H0 o 74 shX S T H) (hL : hm_L o 74 locs) (hl : lv_has ls 4 [(0, .ref (o + 36)), (1, .int x1), (2, .int x2), (3, .int x3)]) : W p l e rm_8_settle s m args below meth c H locs 0 0 (MQ below (hm_Qv G H0 o 74 shX Q) args s 0 0 (t_fr o (o + 74))) (F0 m 0 ls []) := by
  have hx := cx.1.1
  have hb := cx.1.2.1
  unfold wp_8_settle at h
  refine lv_aload_n hx hb d_8_settle_0 rfl (lv_at hl 0 rfl) ?_
  refine gf_8_35 cx hw (i := 36) (r := 49) (by decide) sx_36 rfl d_8_settle_1 ?_
  refine lv_iload_n hx hb d_8_settle_4 rfl (lv_at hl 1 rfl) ?_
  refine lv_iload_n hx hb d_8_settle_5 rfl (lv_at hl 2 rfl) ?_
  refine hm_callv (hm_rV (i := 49) (As := [.int x1, .int x2]) (rest := []) cx hw (ct_5_set (by decide) sx_49 sx_50 h) (mw_8_87 cx.1.2.2.2.2 ⟨Nat.le_of_ble_eq_true rfl, Nat.le_of_ble_eq_true rfl⟩) (by decide) sx_49 rfl rfl hl.1 rfl (Nat.le_of_ble_eq_true rfl) d_8_settle_6 ⟨Nat.zero_le _, Nat.zero_le _⟩) hL (fun S1 T1 H locs h hw hL => ?_)
  refine lv_aload_n hx hb d_8_settle_9 rfl (lv_at hl 0 rfl) ?_
  refine gf_8_38 cx hw (i := 36) (r := 51) (by decide) sx_36 rfl d_8_settle_10 ?_
  refine lv_iload_n hx hb d_8_settle_13 rfl (lv_at hl 1 rfl) ?_
  refine lv_iload_n hx hb d_8_settle_14 rfl (lv_at hl 3 rfl) ?_
  refine hm_callv (hm_rV (i := 51) (As := [.int x1, .int x3]) (rest := []) cx hw (ct_5_set (by decide) sx_51 sx_52 h) (mw_8_87 cx.1.2.2.2.2 ⟨Nat.le_of_ble_eq_true rfl, Nat.le_of_ble_eq_true rfl⟩) (by decide) sx_51 rfl rfl hl.1 rfl (Nat.le_of_ble_eq_true rfl) d_8_settle_15 ⟨Nat.zero_le _, Nat.zero_le _⟩) hL (fun S2 T2 H locs h hw hL => ?_)
  refine lv_aload_n hx hb d_8_settle_18 rfl (lv_at hl 0 rfl) ?_
  refine gf_8_44 cx hw (i := 36) (r := 55) (by decide) sx_36 rfl d_8_settle_19 ?_
  refine lv_aload_n hx hb d_8_settle_22 rfl (lv_at hl 0 rfl) ?_
  refine gf_8_91 cx hw (i := 36) (by decide) sx_36 rfl d_8_settle_23 ?_
  refine lv_iload_n hx hb d_8_settle_26 rfl (lv_at hl 1 rfl) ?_
  refine hm_callv (hm_rV (i := 55) (As := [.int (S2 36 14), .int x1]) (rest := []) cx hw (ct_5_set (by decide) sx_55 sx_56 h) (mw_8_87 cx.1.2.2.2.2 ⟨Nat.le_of_ble_eq_true rfl, Nat.le_of_ble_eq_true rfl⟩) (by decide) sx_55 rfl rfl hl.1 rfl (Nat.le_of_ble_eq_true rfl) d_8_settle_27 ⟨Nat.zero_le _, Nat.zero_le _⟩) hL (fun S3 T3 H locs h hw hL => ?_)
  refine lv_aload_n hx hb d_8_settle_30 rfl (lv_at hl 0 rfl) ?_
  refine lv_dup hx hb d_8_settle_31 rfl ?_
  refine gf_8_91 cx hw (i := 36) (by decide) sx_36 rfl d_8_settle_32 ?_
  refine lv_iconst (v := 1) hx hb d_8_settle_35 (by decide) ?_
  refine lv_iadd hx hb d_8_settle_36 ?_
  refine pf_8_91 cx hw (i := 36) (by decide) sx_36 rfl hL d_8_settle_37 (fun H locs hw hL => ?_)
  exact W.vret hx hb hr (fun t ht _ => ⟨_, _, rfl, h, by rw [ht]; exact hw⟩) hL d_8_settle_40
set_option maxHeartbeats 4000000 in
set_option maxRecDepth 20000 in
theorem ct_8_settle {x1 : Int32} {x2 : Int32} {x3 : Int32} {S : hm_S} {T : hm_T} {Q : hm_S → hm_T → Prop} (h : wp_8_settle x1 x2 x3 S T Q) : hm_M l G H0 o 74 shX y_8_settle prog_10_method_13_code 4 (none) rm_8_settle S T [.ref (o + 36), .int x1, .int x2, .int x3] (hm_Qv G H0 o 74 shX Q) := by
  refine Met.ofW (cc := prog_10_method_13_code) (maxL := 4) (ret := none) (by decide) rfl ?_
  intro p e s m args below meth c s₁ B hml hv
  obtain ⟨rfl, hK, hw⟩ := hv
  have cx : hm_cx G p s m _ c prog_10_method_13_code 4 "HeapGames$Solver" := ⟨⟨B.exec, B.bytes, hml, findClass_of_methodNamed B.named, fun w hq => atoms_spec (ws := hm_ws y_8_settle prog_10_method_13_code 4 (none)) B.pre w (List.mem_cons_of_mem _ hq)⟩, hK⟩
  have hl := lv_entry ([.ref (o + 36), .int x1, .int x2, .int x3]) (n := 4) (Nat.le_of_ble_eq_true rfl)
  rw [lg_entry_eq]
  generalize (lg_sl ([.ref (o + 36), .int x1, .int x2, .int x3]) ++ List.replicate (4 - (lg_sl ([.ref (o + 36), .int x1, .int x2, .int x3])).length) Slot.unset).toArray = ls at hl ⊢
  have hl : lv_has ls 4 [(0, .ref (o + 36)), (1, .int x1), (2, .int x2), (3, .int x3)] := hl
  exact bk_8_settle_0 cx B.returns B.notSynchronized h hw (hm_L0 _ _) hl
/-! ===== HeapGames$Solver.startWith(I)V ===== -/
theorem d_8_startWith_0 : decode prog_10_method_11_code 0 = .ok (.aload_n 0, 1) := by decide +kernel
theorem d_8_startWith_1 : decode prog_10_method_11_code 1 = .ok (.getfield 23, 3) := by decide +kernel
theorem d_8_startWith_4 : decode prog_10_method_11_code 4 = .ok (.iload_n 1, 1) := by decide +kernel
theorem d_8_startWith_5 : decode prog_10_method_11_code 5 = .ok (.iconst 1, 1) := by decide +kernel
theorem d_8_startWith_6 : decode prog_10_method_11_code 6 = .ok (.iadd, 1) := by decide +kernel
theorem d_8_startWith_7 : decode prog_10_method_11_code 7 = .ok (.invokevirtual 73, 3) := by decide +kernel
theorem d_8_startWith_10 : decode prog_10_method_11_code 10 = .ok (.aload_n 0, 1) := by decide +kernel
theorem d_8_startWith_11 : decode prog_10_method_11_code 11 = .ok (.getfield 23, 3) := by decide +kernel
theorem d_8_startWith_14 : decode prog_10_method_11_code 14 = .ok (.iload_n 1, 1) := by decide +kernel
theorem d_8_startWith_15 : decode prog_10_method_11_code 15 = .ok (.invokevirtual 73, 3) := by decide +kernel
theorem d_8_startWith_18 : decode prog_10_method_11_code 18 = .ok (.isub, 1) := by decide +kernel
theorem d_8_startWith_19 : decode prog_10_method_11_code 19 = .ok (.istore_n 2, 1) := by decide +kernel
theorem d_8_startWith_20 : decode prog_10_method_11_code 20 = .ok (.aload_n 0, 1) := by decide +kernel
theorem d_8_startWith_21 : decode prog_10_method_11_code 21 = .ok (.getfield 41, 3) := by decide +kernel
theorem d_8_startWith_24 : decode prog_10_method_11_code 24 = .ok (.iload_n 1, 1) := by decide +kernel
theorem d_8_startWith_25 : decode prog_10_method_11_code 25 = .ok (.iload_n 2, 1) := by decide +kernel
theorem d_8_startWith_26 : decode prog_10_method_11_code 26 = .ok (.invokevirtual 87, 3) := by decide +kernel
theorem d_8_startWith_29 : decode prog_10_method_11_code 29 = .ok (.iload_n 2, 1) := by decide +kernel
theorem d_8_startWith_30 : decode prog_10_method_11_code 30 = .ok (.ifCond .ne 19, 3) := by decide +kernel
theorem d_8_startWith_33 : decode prog_10_method_11_code 33 = .ok (.aload_n 0, 1) := by decide +kernel
theorem d_8_startWith_34 : decode prog_10_method_11_code 34 = .ok (.iload_n 1, 1) := by decide +kernel
theorem d_8_startWith_35 : decode prog_10_method_11_code 35 = .ok (.aload_n 0, 1) := by decide +kernel
theorem d_8_startWith_36 : decode prog_10_method_11_code 36 = .ok (.getfield 50, 3) := by decide +kernel
theorem d_8_startWith_39 : decode prog_10_method_11_code 39 = .ok (.getfield 109, 3) := by decide +kernel
theorem d_8_startWith_42 : decode prog_10_method_11_code 42 = .ok (.iconst 0, 1) := by decide +kernel
theorem d_8_startWith_43 : decode prog_10_method_11_code 43 = .ok (.invokevirtual 114, 3) := by decide +kernel
theorem d_8_startWith_46 : decode prog_10_method_11_code 46 = .ok (.goto 21, 3) := by decide +kernel
theorem d_8_startWith_49 : decode prog_10_method_11_code 49 = .ok (.aload_n 0, 1) := by decide +kernel
theorem d_8_startWith_50 : decode prog_10_method_11_code 50 = .ok (.getfield 35, 3) := by decide +kernel
theorem d_8_startWith_53 : decode prog_10_method_11_code 53 = .ok (.iload_n 1, 1) := by decide +kernel
theorem d_8_startWith_54 : decode prog_10_method_11_code 54 = .ok (.iconst 2, 1) := by decide +kernel
theorem d_8_startWith_55 : decode prog_10_method_11_code 55 = .ok (.invokevirtual 87, 3) := by decide +kernel
theorem d_8_startWith_58 : decode prog_10_method_11_code 58 = .ok (.aload_n 0, 1) := by decide +kernel
theorem d_8_startWith_59 : decode prog_10_method_11_code 59 = .ok (.getfield 38, 3) := by decide +kernel
theorem d_8_startWith_62 : decode prog_10_method_11_code 62 = .ok (.iload_n 1, 1) := by decide +kernel
theorem d_8_startWith_63 : decode prog_10_method_11_code 63 = .ok (.iconst (-1), 1) := by decide +kernel
theorem d_8_startWith_64 : decode prog_10_method_11_code 64 = .ok (.invokevirtual 87, 3) := by decide +kernel
theorem d_8_startWith_67 : decode prog_10_method_11_code 67 = .ok (.return_, 1) := by decide +kernel
def wp_8_startWith (x1 : Int32) (S : hm_S) (T : hm_T) (Q : hm_S → hm_T → Prop) : Prop :=
  wp_5_get 41 2431 (x1 + 1) S T (fun r1 S1 T1 => wp_5_get 41 2431 x1 S1 T1 (fun r2 S2 T2 => wp_5_set 53 2430 x1 (r1 - r2) S2 T2 (fun S3 T3 => (if (r1 - r2) = 0 then wp_8_settle x1 (S3 1 3) 0 S3 T3 (fun S6 T6 => Q S6 T6) else wp_5_set 49 2430 x1 2 S3 T3 (fun S4 T4 => wp_5_set 51 2430 x1 (-1) S4 T4 (fun S5 T5 => Q S5 T5))))))
set_option maxHeartbeats 4000000 in
set_option maxRecDepth 20000 in
theorem bk_8_startWith_0 {Q : hm_S → hm_T → Prop} (cx : hm_cx G p s m args c prog_10_method_11_code 3 "HeapGames$Solver") (hr : meth.sig.returnType = none) (hlk : meth.locks = false) {x1 : Int32} {S : hm_S} {T : hm_T} {H : Heap} {locs : List Loc} {ls : Array Slot} (h : wp_8_startWith x1 S T Q) (hw : hm_w G H0 o 74 shX S T H) (hL : hm_L o 74 locs) (hl : lv_has ls 3 [(0, .ref (o + 36)), (1, .int x1)]) : W p l e rm_8_startWith s m args below meth c H locs 0 0 (MQ below (hm_Qv G H0 o 74 shX Q) args s 0 0 (t_fr o (o + 74))) (F0 m 0 ls []) := by
  have hx := cx.1.1
  have hb := cx.1.2.1
  unfold wp_8_startWith at h
  refine lv_aload_n hx hb d_8_startWith_0 rfl (lv_at hl 0 rfl) ?_
  refine gf_8_23 cx hw (i := 36) (r := 41) (by decide) sx_36 rfl d_8_startWith_1 ?_
  refine lv_iload_n hx hb d_8_startWith_4 rfl (lv_at hl 1 rfl) ?_
  refine lv_iconst (v := 1) hx hb d_8_startWith_5 (by decide) ?_
  refine lv_iadd hx hb d_8_startWith_6 ?_
  refine hm_calli (hm_rV (i := 41) (As := [.int (x1 + 1)]) (rest := []) cx hw (ct_5_get (by decide) sx_41 sx_42 h) (mw_8_73 cx.1.2.2.2.2 ⟨Nat.le_of_ble_eq_true rfl, Nat.le_of_ble_eq_true rfl⟩) (by decide) sx_41 rfl rfl hl.1 rfl (Nat.le_of_ble_eq_true rfl) d_8_startWith_7 ⟨Nat.zero_le _, Nat.zero_le _⟩) hL (fun r1 S1 T1 H locs h hw hL => ?_)
  refine lv_aload_n hx hb d_8_startWith_10 rfl (lv_at hl 0 rfl) ?_
  refine gf_8_23 cx hw (i := 36) (r := 41) (by decide) sx_36 rfl d_8_startWith_11 ?_
  refine lv_iload_n hx hb d_8_startWith_14 rfl (lv_at hl 1 rfl) ?_
  refine hm_calli (hm_rV (i := 41) (As := [.int x1]) (rest := [.int r1]) cx hw (ct_5_get (by decide) sx_41 sx_42 h) (mw_8_73 cx.1.2.2.2.2 ⟨Nat.le_of_ble_eq_true rfl, Nat.le_of_ble_eq_true rfl⟩) (by decide) sx_41 rfl rfl hl.1 rfl (Nat.le_of_ble_eq_true rfl) d_8_startWith_15 ⟨Nat.zero_le _, Nat.zero_le _⟩) hL (fun r2 S2 T2 H locs h hw hL => ?_)
  refine lv_isub hx hb d_8_startWith_18 ?_
  refine lv_istore_n (lv' := [(2, .int (r1 - r2)), (0, .ref (o + 36)), (1, .int x1)]) hx hb d_8_startWith_19 rfl hl (by decide) rfl (fun ls hl => ?_)
  refine lv_aload_n hx hb d_8_startWith_20 rfl (lv_at hl 1 rfl) ?_
  refine gf_8_41 cx hw (i := 36) (r := 53) (by decide) sx_36 rfl d_8_startWith_21 ?_
  refine lv_iload_n hx hb d_8_startWith_24 rfl (lv_at hl 2 rfl) ?_
  refine lv_iload_n hx hb d_8_startWith_25 rfl (lv_at hl 0 rfl) ?_
  refine hm_callv (hm_rV (i := 53) (As := [.int x1, .int (r1 - r2)]) (rest := []) cx hw (ct_5_set (by decide) sx_53 sx_54 h) (mw_8_87 cx.1.2.2.2.2 ⟨Nat.le_of_ble_eq_true rfl, Nat.le_of_ble_eq_true rfl⟩) (by decide) sx_53 rfl rfl hl.1 rfl (Nat.le_of_ble_eq_true rfl) d_8_startWith_26 ⟨Nat.zero_le _, Nat.zero_le _⟩) hL (fun S3 T3 H locs h hw hL => ?_)
  refine lv_iload_n hx hb d_8_startWith_29 rfl (lv_at hl 0 rfl) ?_
  refine lv_if_ne (tgt := 49) hx hb d_8_startWith_30 (by decide) (fun hc => ?_) (fun hc => ?_)
  · replace h := hm_neg hc h
    refine lv_aload_n hx hb d_8_startWith_49 rfl (lv_at hl 1 rfl) ?_
    refine gf_8_35 cx hw (i := 36) (r := 49) (by decide) sx_36 rfl d_8_startWith_50 ?_
    refine lv_iload_n hx hb d_8_startWith_53 rfl (lv_at hl 2 rfl) ?_
    refine lv_iconst (v := 2) hx hb d_8_startWith_54 (by decide) ?_
    refine hm_callv (hm_rV (i := 49) (As := [.int x1, .int 2]) (rest := []) cx hw (ct_5_set (by decide) sx_49 sx_50 h) (mw_8_87 cx.1.2.2.2.2 ⟨Nat.le_of_ble_eq_true rfl, Nat.le_of_ble_eq_true rfl⟩) (by decide) sx_49 rfl rfl hl.1 rfl (Nat.le_of_ble_eq_true rfl) d_8_startWith_55 ⟨Nat.zero_le _, Nat.zero_le _⟩) hL (fun S4 T4 H locs h hw hL => ?_)
    refine lv_aload_n hx hb d_8_startWith_58 rfl (lv_at hl 1 rfl) ?_
    refine gf_8_38 cx hw (i := 36) (r := 51) (by decide) sx_36 rfl d_8_startWith_59 ?_
    refine lv_iload_n hx hb d_8_startWith_62 rfl (lv_at hl 2 rfl) ?_
    refine lv_iconst (v := (-1)) hx hb d_8_startWith_63 (by decide) ?_
    refine hm_callv (hm_rV (i := 51) (As := [.int x1, .int (-1)]) (rest := []) cx hw (ct_5_set (by decide) sx_51 sx_52 h) (mw_8_87 cx.1.2.2.2.2 ⟨Nat.le_of_ble_eq_true rfl, Nat.le_of_ble_eq_true rfl⟩) (by decide) sx_51 rfl rfl hl.1 rfl (Nat.le_of_ble_eq_true rfl) d_8_startWith_64 ⟨Nat.zero_le _, Nat.zero_le _⟩) hL (fun S5 T5 H locs h hw hL => ?_)
    exact W.vret hx hb hr (fun t ht _ => ⟨_, _, rfl, h, by rw [ht]; exact hw⟩) hL d_8_startWith_67
  · replace h := hm_pos hc h
    refine lv_aload_n hx hb d_8_startWith_33 rfl (lv_at hl 1 rfl) ?_
    refine lv_iload_n hx hb d_8_startWith_34 rfl (lv_at hl 2 rfl) ?_
    refine lv_aload_n hx hb d_8_startWith_35 rfl (lv_at hl 1 rfl) ?_
    refine gf_8_50 cx hw (i := 36) (r := 1) (by decide) sx_36 rfl d_8_startWith_36 ?_
    refine gf_8_109 cx hw (i := 1) (by decide) sx_1 rfl d_8_startWith_39 ?_
    refine lv_iconst (v := 0) hx hb d_8_startWith_42 (by decide) ?_
    refine hm_callv (hm_rV (i := 36) (As := [.int x1, .int (S3 1 3), .int 0]) (rest := []) cx hw (ct_8_settle h) (mw_8_114 cx.1.2.2.2.2 ⟨Nat.le_of_ble_eq_true rfl, Nat.le_of_ble_eq_true rfl⟩) (by decide) sx_36 rfl rfl hl.1 rfl (Nat.le_of_ble_eq_true rfl) d_8_startWith_43 ⟨Nat.zero_le _, Nat.zero_le _⟩) hL (fun S6 T6 H locs h hw hL => ?_)
    refine lv_goto (tgt := 67) hx hb d_8_startWith_46 (by decide) ?_
    exact W.vret hx hb hr (fun t ht _ => ⟨_, _, rfl, h, by rw [ht]; exact hw⟩) hL d_8_startWith_67
set_option maxHeartbeats 4000000 in
set_option maxRecDepth 20000 in
theorem ct_8_startWith {x1 : Int32} {S : hm_S} {T : hm_T} {Q : hm_S → hm_T → Prop} (h : wp_8_startWith x1 S T Q) : hm_M l G H0 o 74 shX y_8_startWith prog_10_method_11_code 3 (none) rm_8_startWith S T [.ref (o + 36), .int x1] (hm_Qv G H0 o 74 shX Q) := by
  refine Met.ofW (cc := prog_10_method_11_code) (maxL := 3) (ret := none) (by decide) rfl ?_
  intro p e s m args below meth c s₁ B hml hv
  obtain ⟨rfl, hK, hw⟩ := hv
  have cx : hm_cx G p s m _ c prog_10_method_11_code 3 "HeapGames$Solver" := ⟨⟨B.exec, B.bytes, hml, findClass_of_methodNamed B.named, fun w hq => atoms_spec (ws := hm_ws y_8_startWith prog_10_method_11_code 3 (none)) B.pre w (List.mem_cons_of_mem _ hq)⟩, hK⟩
  have hl := lv_entry ([.ref (o + 36), .int x1]) (n := 3) (Nat.le_of_ble_eq_true rfl)
  rw [lg_entry_eq]
  generalize (lg_sl ([.ref (o + 36), .int x1]) ++ List.replicate (3 - (lg_sl ([.ref (o + 36), .int x1])).length) Slot.unset).toArray = ls at hl ⊢
  have hl : lv_has ls 3 [(0, .ref (o + 36)), (1, .int x1)] := hl
  exact bk_8_startWith_0 cx B.returns B.notSynchronized h hw (hm_L0 _ _) hl
/-! ===== HeapGames$Solver.stepBackFrom(I)V ===== -/
theorem d_8_stepBackFrom_0 : decode prog_10_method_12_code 0 = .ok (.aload_n 0, 1) := by decide +kernel
theorem d_8_stepBackFrom_1 : decode prog_10_method_12_code 1 = .ok (.getfield 35, 3) := by decide +kernel
theorem d_8_stepBackFrom_4 : decode prog_10_method_12_code 4 = .ok (.iload_n 1, 1) := by decide +kernel
theorem d_8_stepBackFrom_5 : decode prog_10_method_12_code 5 = .ok (.invokevirtual 73, 3) := by decide +kernel
theorem d_8_stepBackFrom_8 : decode prog_10_method_12_code 8 = .ok (.istore_n 2, 1) := by decide +kernel
theorem d_8_stepBackFrom_9 : decode prog_10_method_12_code 9 = .ok (.aload_n 0, 1) := by decide +kernel
theorem d_8_stepBackFrom_10 : decode prog_10_method_12_code 10 = .ok (.getfield 38, 3) := by decide +kernel
theorem d_8_stepBackFrom_13 : decode prog_10_method_12_code 13 = .ok (.iload_n 1, 1) := by decide +kernel
theorem d_8_stepBackFrom_14 : decode prog_10_method_12_code 14 = .ok (.invokevirtual 73, 3) := by decide +kernel
theorem d_8_stepBackFrom_17 : decode prog_10_method_12_code 17 = .ok (.iconst 1, 1) := by decide +kernel
theorem d_8_stepBackFrom_18 : decode prog_10_method_12_code 18 = .ok (.iadd, 1) := by decide +kernel
theorem d_8_stepBackFrom_19 : decode prog_10_method_12_code 19 = .ok (.istore_n 3, 1) := by decide +kernel
theorem d_8_stepBackFrom_20 : decode prog_10_method_12_code 20 = .ok (.aload_n 0, 1) := by decide +kernel
theorem d_8_stepBackFrom_21 : decode prog_10_method_12_code 21 = .ok (.getfield 29, 3) := by decide +kernel
theorem d_8_stepBackFrom_24 : decode prog_10_method_12_code 24 = .ok (.iload_n 1, 1) := by decide +kernel
theorem d_8_stepBackFrom_25 : decode prog_10_method_12_code 25 = .ok (.iconst 1, 1) := by decide +kernel
theorem d_8_stepBackFrom_26 : decode prog_10_method_12_code 26 = .ok (.iadd, 1) := by decide +kernel
theorem d_8_stepBackFrom_27 : decode prog_10_method_12_code 27 = .ok (.invokevirtual 73, 3) := by decide +kernel
theorem d_8_stepBackFrom_30 : decode prog_10_method_12_code 30 = .ok (.istore 4, 2) := by decide +kernel
theorem d_8_stepBackFrom_32 : decode prog_10_method_12_code 32 = .ok (.aload_n 0, 1) := by decide +kernel
theorem d_8_stepBackFrom_33 : decode prog_10_method_12_code 33 = .ok (.getfield 29, 3) := by decide +kernel
theorem d_8_stepBackFrom_36 : decode prog_10_method_12_code 36 = .ok (.iload_n 1, 1) := by decide +kernel
theorem d_8_stepBackFrom_37 : decode prog_10_method_12_code 37 = .ok (.invokevirtual 73, 3) := by decide +kernel
theorem d_8_stepBackFrom_40 : decode prog_10_method_12_code 40 = .ok (.istore 5, 2) := by decide +kernel
theorem d_8_stepBackFrom_42 : decode prog_10_method_12_code 42 = .ok (.iload 5, 2) := by decide +kernel
theorem d_8_stepBackFrom_44 : decode prog_10_method_12_code 44 = .ok (.iload 4, 2) := by decide +kernel
theorem d_8_stepBackFrom_46 : decode prog_10_method_12_code 46 = .ok (.if_icmp .ge 81, 3) := by decide +kernel
theorem d_8_stepBackFrom_49 : decode prog_10_method_12_code 49 = .ok (.aload_n 0, 1) := by decide +kernel
theorem d_8_stepBackFrom_50 : decode prog_10_method_12_code 50 = .ok (.getfield 32, 3) := by decide +kernel
theorem d_8_stepBackFrom_53 : decode prog_10_method_12_code 53 = .ok (.iload 5, 2) := by decide +kernel
theorem d_8_stepBackFrom_55 : decode prog_10_method_12_code 55 = .ok (.invokevirtual 73, 3) := by decide +kernel
theorem d_8_stepBackFrom_58 : decode prog_10_method_12_code 58 = .ok (.istore 6, 2) := by decide +kernel
theorem d_8_stepBackFrom_60 : decode prog_10_method_12_code 60 = .ok (.aload_n 0, 1) := by decide +kernel
theorem d_8_stepBackFrom_61 : decode prog_10_method_12_code 61 = .ok (.getfield 35, 3) := by decide +kernel
theorem d_8_stepBackFrom_64 : decode prog_10_method_12_code 64 = .ok (.iload 6, 2) := by decide +kernel
theorem d_8_stepBackFrom_66 : decode prog_10_method_12_code 66 = .ok (.invokevirtual 73, 3) := by decide +kernel
theorem d_8_stepBackFrom_69 : decode prog_10_method_12_code 69 = .ok (.iconst 2, 1) := by decide +kernel
theorem d_8_stepBackFrom_70 : decode prog_10_method_12_code 70 = .ok (.if_icmp .eq 6, 3) := by decide +kernel
theorem d_8_stepBackFrom_73 : decode prog_10_method_12_code 73 = .ok (.goto 48, 3) := by decide +kernel
theorem d_8_stepBackFrom_76 : decode prog_10_method_12_code 76 = .ok (.iload_n 2, 1) := by decide +kernel
theorem d_8_stepBackFrom_77 : decode prog_10_method_12_code 77 = .ok (.ifCond .ne 14, 3) := by decide +kernel
theorem d_8_stepBackFrom_80 : decode prog_10_method_12_code 80 = .ok (.aload_n 0, 1) := by decide +kernel
theorem d_8_stepBackFrom_81 : decode prog_10_method_12_code 81 = .ok (.iload 6, 2) := by decide +kernel
theorem d_8_stepBackFrom_83 : decode prog_10_method_12_code 83 = .ok (.iconst 1, 1) := by decide +kernel
theorem d_8_stepBackFrom_84 : decode prog_10_method_12_code 84 = .ok (.iload_n 3, 1) := by decide +kernel
theorem d_8_stepBackFrom_85 : decode prog_10_method_12_code 85 = .ok (.invokevirtual 114, 3) := by decide +kernel
theorem d_8_stepBackFrom_88 : decode prog_10_method_12_code 88 = .ok (.goto 33, 3) := by decide +kernel
theorem d_8_stepBackFrom_91 : decode prog_10_method_12_code 91 = .ok (.aload_n 0, 1) := by decide +kernel
theorem d_8_stepBackFrom_92 : decode prog_10_method_12_code 92 = .ok (.getfield 41, 3) := by decide +kernel
theorem d_8_stepBackFrom_95 : decode prog_10_method_12_code 95 = .ok (.iload 6, 2) := by decide +kernel
theorem d_8_stepBackFrom_97 : decode prog_10_method_12_code 97 = .ok (.iconst (-1), 1) := by decide +kernel
theorem d_8_stepBackFrom_98 : decode prog_10_method_12_code 98 = .ok (.invokevirtual 106, 3) := by decide +kernel
theorem d_8_stepBackFrom_101 : decode prog_10_method_12_code 101 = .ok (.aload_n 0, 1) := by decide +kernel
theorem d_8_stepBackFrom_102 : decode prog_10_method_12_code 102 = .ok (.getfield 41, 3) := by decide +kernel
theorem d_8_stepBackFrom_105 : decode prog_10_method_12_code 105 = .ok (.iload 6, 2) := by decide +kernel
theorem d_8_stepBackFrom_107 : decode prog_10_method_12_code 107 = .ok (.invokevirtual 73, 3) := by decide +kernel
theorem d_8_stepBackFrom_110 : decode prog_10_method_12_code 110 = .ok (.ifCond .ne 11, 3) := by decide +kernel
theorem d_8_stepBackFrom_113 : decode prog_10_method_12_code 113 = .ok (.aload_n 0, 1) := by decide +kernel
theorem d_8_stepBackFrom_114 : decode prog_10_method_12_code 114 = .ok (.iload 6, 2) := by decide +kernel
theorem d_8_stepBackFrom_116 : decode prog_10_method_12_code 116 = .ok (.iconst 0, 1) := by decide +kernel
theorem d_8_stepBackFrom_117 : decode prog_10_method_12_code 117 = .ok (.iload_n 3, 1) := by decide +kernel
theorem d_8_stepBackFrom_118 : decode prog_10_method_12_code 118 = .ok (.invokevirtual 114, 3) := by decide +kernel
theorem d_8_stepBackFrom_121 : decode prog_10_method_12_code 121 = .ok (.iinc 5 1, 3) := by decide +kernel
theorem d_8_stepBackFrom_124 : decode prog_10_method_12_code 124 = .ok (.goto (-82), 3) := by decide +kernel
theorem d_8_stepBackFrom_127 : decode prog_10_method_12_code 127 = .ok (.return_, 1) := by decide +kernel
def wb_8_stepBackFrom_121 (Q : hm_S → hm_T → Prop) (K42 : Int32 → Int32 → Int32 → Int32 → hm_S → hm_T → Prop) (x2 : Int32) (x3 : Int32) (x4 : Int32) (x5 : Int32) (S : hm_S) (T : hm_T) : Prop :=
  K42 x2 x3 x4 (x5 + 1) S T
set_option maxHeartbeats 4000000 in
set_option maxRecDepth 20000 in
theorem bk_8_stepBackFrom_121 {Q : hm_S → hm_T → Prop} {K42 : Int32 → Int32 → Int32 → Int32 → hm_S → hm_T → Prop} (cx : hm_cx G p s m args c prog_10_method_12_code 7 "HeapGames$Solver") (hr : meth.sig.returnType = none) (hlk : meth.locks = false) (k42 : ∀ (x2 : Int32) (x3 : Int32) (x4 : Int32) (x5 : Int32) (S : hm_S) (T : hm_T) (H : Heap) (locs : List Loc) (ls : Array Slot), K42 x2 x3 x4 x5 S T → hm_w G H0 o 74 shX S T H → hm_L o 74 locs → lv_has ls 7 [(0, .ref (o + 36)), (2, .int x2), (3, .int x3), (4, .int x4), (5, .int x5)] → W p l e rm_8_stepBackFrom s m args below meth c H locs 0 0 (MQ below (hm_Qv G H0 o 74 shX Q) args s 0 0 (t_fr o (o + 74))) (F0 m 42 ls [])) {x2 : Int32} {x3 : Int32} {x4 : Int32} {x5 : Int32} {S : hm_S} {T : hm_T} {H : Heap} {locs : List Loc} {ls : Array Slot} (h : wb_8_stepBackFrom_121 Q K42 x2 x3 x4 x5 S T) (hw : hm_w G H0 o 74 shX S T H) (hL : hm_L o 74 locs) (hl : lv_has ls 7 [(0, .ref (o + 36)), (2, .int x2), (3, .int x3), (4, .int x4), (5, .int x5)]) : W p l e rm_8_stepBackFrom s m args below meth c H locs 0 0 (MQ below (hm_Qv G H0 o 74 shX Q) args s 0 0 (t_fr o (o + 74))) (F0 m 121 ls []) := by
  have hx := cx.1.1
  have hb := cx.1.2.1
  unfold wb_8_stepBackFrom_121 at h
  refine lv_iinc (v := (x5 + 1)) (lv' := [(5, .int (x5 + 1)), (0, .ref (o + 36)), (2, .int x2), (3, .int x3), (4, .int x4)]) hx hb d_8_stepBackFrom_121 hl (k := 4) rfl rfl (by decide) rfl (fun ls hl => ?_)
  refine lv_goto (tgt := 42) hx hb d_8_stepBackFrom_124 (by decide) ?_
  exact k42 _ _ _ _ _ _ _ _ _ h hw hL (lv_sub hl [1, 2, 3, 4, 0] rfl)
def wb_8_stepBackFrom_42 (Q : hm_S → hm_T → Prop) (K42 : Int32 → Int32 → Int32 → Int32 → hm_S → hm_T → Prop) (x2 : Int32) (x3 : Int32) (x4 : Int32) (x5 : Int32) (S : hm_S) (T : hm_T) : Prop :=
  (if x4 ≤ x5 then Q S T else wp_5_get 47 15010 x5 S T (fun r5 S5 T5 => wp_5_get 49 2430 r5 S5 T5 (fun r6 S6 T6 => (if r6 = 2 then (if x2 = 0 then wp_8_settle r5 1 x3 S6 T6 (fun S10 T10 => wb_8_stepBackFrom_121 Q K42 x2 x3 x4 x5 S10 T10) else wp_5_add 53 2430 r5 (-1) S6 T6 (fun S7 T7 => wp_5_get 53 2430 r5 S7 T7 (fun r8 S8 T8 => (if r8 = 0 then wp_8_settle r5 0 x3 S8 T8 (fun S9 T9 => wb_8_stepBackFrom_121 Q K42 x2 x3 x4 x5 S9 T9) else wb_8_stepBackFrom_121 Q K42 x2 x3 x4 x5 S8 T8)))) else wb_8_stepBackFrom_121 Q K42 x2 x3 x4 x5 S6 T6))))
set_option maxHeartbeats 4000000 in
set_option maxRecDepth 20000 in
theorem bk_8_stepBackFrom_42 {Q : hm_S → hm_T → Prop} {K42 : Int32 → Int32 → Int32 → Int32 → hm_S → hm_T → Prop} (cx : hm_cx G p s m args c prog_10_method_12_code 7 "HeapGames$Solver") (hr : meth.sig.returnType = none) (hlk : meth.locks = false) (k42 : ∀ (x2 : Int32) (x3 : Int32) (x4 : Int32) (x5 : Int32) (S : hm_S) (T : hm_T) (H : Heap) (locs : List Loc) (ls : Array Slot), K42 x2 x3 x4 x5 S T → hm_w G H0 o 74 shX S T H → hm_L o 74 locs → lv_has ls 7 [(0, .ref (o + 36)), (2, .int x2), (3, .int x3), (4, .int x4), (5, .int x5)] → W p l e rm_8_stepBackFrom s m args below meth c H locs 0 0 (MQ below (hm_Qv G H0 o 74 shX Q) args s 0 0 (t_fr o (o + 74))) (F0 m 42 ls [])) {x2 : Int32} {x3 : Int32} {x4 : Int32} {x5 : Int32} {S : hm_S} {T : hm_T} {H : Heap} {locs : List Loc} {ls : Array Slot} (h : wb_8_stepBackFrom_42 Q K42 x2 x3 x4 x5 S T) (hw : hm_w G H0 o 74 shX S T H) (hL : hm_L o 74 locs) (hl : lv_has ls 7 [(0, .ref (o + 36)), (2, .int x2), (3, .int x3), (4, .int x4), (5, .int x5)]) : W p l e rm_8_stepBackFrom s m args below meth c H locs 0 0 (MQ below (hm_Qv G H0 o 74 shX Q) args s 0 0 (t_fr o (o + 74))) (F0 m 42 ls []) := by
  have hx := cx.1.1
  have hb := cx.1.2.1
  unfold wb_8_stepBackFrom_42 at h
  refine lv_iload hx hb d_8_stepBackFrom_42 (lv_at hl 4 rfl) ?_
  refine lv_iload hx hb d_8_stepBackFrom_44 (lv_at hl 3 rfl) ?_
  refine lv_icmp_ge (tgt := 127) hx hb d_8_stepBackFrom_46 (by decide) (fun hc => ?_) (fun hc => ?_)
  · replace h := hm_pos hc h
    exact W.vret hx hb hr (fun t ht _ => ⟨_, _, rfl, h, by rw [ht]; exact hw⟩) hL d_8_stepBackFrom_127
  · replace h := hm_neg hc h
    refine lv_aload_n hx hb d_8_stepBackFrom_49 rfl (lv_at hl 0 rfl) ?_
    refine gf_8_32 cx hw (i := 36) (r := 47) (by decide) sx_36 rfl d_8_stepBackFrom_50 ?_
    refine lv_iload hx hb d_8_stepBackFrom_53 (lv_at hl 4 rfl) ?_
    refine hm_calli (hm_rV (i := 47) (As := [.int x5]) (rest := []) cx hw (ct_5_get (by decide) sx_47 sx_48 h) (mw_8_73 cx.1.2.2.2.2 ⟨Nat.le_of_ble_eq_true rfl, Nat.le_of_ble_eq_true rfl⟩) (by decide) sx_47 rfl rfl hl.1 rfl (Nat.le_of_ble_eq_true rfl) d_8_stepBackFrom_55 ⟨Nat.zero_le _, Nat.zero_le _⟩) hL (fun r5 S5 T5 H locs h hw hL => ?_)
    refine lv_istore (lv' := [(6, .int r5), (0, .ref (o + 36)), (2, .int x2), (3, .int x3), (4, .int x4), (5, .int x5)]) hx hb d_8_stepBackFrom_58 hl (by decide) rfl (fun ls hl => ?_)
    refine lv_aload_n hx hb d_8_stepBackFrom_60 rfl (lv_at hl 1 rfl) ?_
    refine gf_8_35 cx hw (i := 36) (r := 49) (by decide) sx_36 rfl d_8_stepBackFrom_61 ?_
    refine lv_iload hx hb d_8_stepBackFrom_64 (lv_at hl 0 rfl) ?_
    refine hm_calli (hm_rV (i := 49) (As := [.int r5]) (rest := []) cx hw (ct_5_get (by decide) sx_49 sx_50 h) (mw_8_73 cx.1.2.2.2.2 ⟨Nat.le_of_ble_eq_true rfl, Nat.le_of_ble_eq_true rfl⟩) (by decide) sx_49 rfl rfl hl.1 rfl (Nat.le_of_ble_eq_true rfl) d_8_stepBackFrom_66 ⟨Nat.zero_le _, Nat.zero_le _⟩) hL (fun r6 S6 T6 H locs h hw hL => ?_)
    refine lv_iconst (v := 2) hx hb d_8_stepBackFrom_69 (by decide) ?_
    refine lv_icmp_eq (tgt := 76) hx hb d_8_stepBackFrom_70 (by decide) (fun hc => ?_) (fun hc => ?_)
    · replace h := hm_pos hc h
      refine lv_iload_n hx hb d_8_stepBackFrom_76 rfl (lv_at hl 2 rfl) ?_
      refine lv_if_ne (tgt := 91) hx hb d_8_stepBackFrom_77 (by decide) (fun hc => ?_) (fun hc => ?_)
      · replace h := hm_neg hc h
        refine lv_aload_n hx hb d_8_stepBackFrom_91 rfl (lv_at hl 1 rfl) ?_
        refine gf_8_41 cx hw (i := 36) (r := 53) (by decide) sx_36 rfl d_8_stepBackFrom_92 ?_
        refine lv_iload hx hb d_8_stepBackFrom_95 (lv_at hl 0 rfl) ?_
        refine lv_iconst (v := (-1)) hx hb d_8_stepBackFrom_97 (by decide) ?_
        refine hm_callv (hm_rV (i := 53) (As := [.int r5, .int (-1)]) (rest := []) cx hw (ct_5_add (by decide) sx_53 sx_54 h) (mw_8_106 cx.1.2.2.2.2 ⟨Nat.le_of_ble_eq_true rfl, Nat.le_of_ble_eq_true rfl⟩) (by decide) sx_53 rfl rfl hl.1 rfl (Nat.le_of_ble_eq_true rfl) d_8_stepBackFrom_98 ⟨Nat.zero_le _, Nat.zero_le _⟩) hL (fun S7 T7 H locs h hw hL => ?_)
        refine lv_aload_n hx hb d_8_stepBackFrom_101 rfl (lv_at hl 1 rfl) ?_
        refine gf_8_41 cx hw (i := 36) (r := 53) (by decide) sx_36 rfl d_8_stepBackFrom_102 ?_
        refine lv_iload hx hb d_8_stepBackFrom_105 (lv_at hl 0 rfl) ?_
        refine hm_calli (hm_rV (i := 53) (As := [.int r5]) (rest := []) cx hw (ct_5_get (by decide) sx_53 sx_54 h) (mw_8_73 cx.1.2.2.2.2 ⟨Nat.le_of_ble_eq_true rfl, Nat.le_of_ble_eq_true rfl⟩) (by decide) sx_53 rfl rfl hl.1 rfl (Nat.le_of_ble_eq_true rfl) d_8_stepBackFrom_107 ⟨Nat.zero_le _, Nat.zero_le _⟩) hL (fun r8 S8 T8 H locs h hw hL => ?_)
        refine lv_if_ne (tgt := 121) hx hb d_8_stepBackFrom_110 (by decide) (fun hc => ?_) (fun hc => ?_)
        · replace h := hm_neg hc h
          exact bk_8_stepBackFrom_121 cx hr hlk k42 h hw hL (lv_sub hl [1, 2, 3, 4, 5] rfl)
        · replace h := hm_pos hc h
          refine lv_aload_n hx hb d_8_stepBackFrom_113 rfl (lv_at hl 1 rfl) ?_
          refine lv_iload hx hb d_8_stepBackFrom_114 (lv_at hl 0 rfl) ?_
          refine lv_iconst (v := 0) hx hb d_8_stepBackFrom_116 (by decide) ?_
          refine lv_iload_n hx hb d_8_stepBackFrom_117 rfl (lv_at hl 3 rfl) ?_
          refine hm_callv (hm_rV (i := 36) (As := [.int r5, .int 0, .int x3]) (rest := []) cx hw (ct_8_settle h) (mw_8_114 cx.1.2.2.2.2 ⟨Nat.le_of_ble_eq_true rfl, Nat.le_of_ble_eq_true rfl⟩) (by decide) sx_36 rfl rfl hl.1 rfl (Nat.le_of_ble_eq_true rfl) d_8_stepBackFrom_118 ⟨Nat.zero_le _, Nat.zero_le _⟩) hL (fun S9 T9 H locs h hw hL => ?_)
          exact bk_8_stepBackFrom_121 cx hr hlk k42 h hw hL (lv_sub hl [1, 2, 3, 4, 5] rfl)
      · replace h := hm_pos hc h
        refine lv_aload_n hx hb d_8_stepBackFrom_80 rfl (lv_at hl 1 rfl) ?_
        refine lv_iload hx hb d_8_stepBackFrom_81 (lv_at hl 0 rfl) ?_
        refine lv_iconst (v := 1) hx hb d_8_stepBackFrom_83 (by decide) ?_
        refine lv_iload_n hx hb d_8_stepBackFrom_84 rfl (lv_at hl 3 rfl) ?_
        refine hm_callv (hm_rV (i := 36) (As := [.int r5, .int 1, .int x3]) (rest := []) cx hw (ct_8_settle h) (mw_8_114 cx.1.2.2.2.2 ⟨Nat.le_of_ble_eq_true rfl, Nat.le_of_ble_eq_true rfl⟩) (by decide) sx_36 rfl rfl hl.1 rfl (Nat.le_of_ble_eq_true rfl) d_8_stepBackFrom_85 ⟨Nat.zero_le _, Nat.zero_le _⟩) hL (fun S10 T10 H locs h hw hL => ?_)
        refine lv_goto (tgt := 121) hx hb d_8_stepBackFrom_88 (by decide) ?_
        exact bk_8_stepBackFrom_121 cx hr hlk k42 h hw hL (lv_sub hl [1, 2, 3, 4, 5] rfl)
    · replace h := hm_neg hc h
      refine lv_goto (tgt := 121) hx hb d_8_stepBackFrom_73 (by decide) ?_
      exact bk_8_stepBackFrom_121 cx hr hlk k42 h hw hL (lv_sub hl [1, 2, 3, 4, 5] rfl)
def wl_8_stepBackFrom_42 (Q : hm_S → hm_T → Prop) : Nat → Int32 → Int32 → Int32 → Int32 → hm_S → hm_T → Prop
  | 0, _, _, _, _, _, _ => False
  | f + 1, x2, x3, x4, x5, S, T => wb_8_stepBackFrom_42 Q (wl_8_stepBackFrom_42 Q f) x2 x3 x4 x5 S T
theorem lp_8_stepBackFrom_42 {Q : hm_S → hm_T → Prop} (cx : hm_cx G p s m args c prog_10_method_12_code 7 "HeapGames$Solver") (hr : meth.sig.returnType = none) (hlk : meth.locks = false) : ∀ (f : Nat) (x2 : Int32) (x3 : Int32) (x4 : Int32) (x5 : Int32) (S : hm_S) (T : hm_T) (H : Heap) (locs : List Loc) (ls : Array Slot), wl_8_stepBackFrom_42 Q f x2 x3 x4 x5 S T → hm_w G H0 o 74 shX S T H → hm_L o 74 locs → lv_has ls 7 [(0, .ref (o + 36)), (2, .int x2), (3, .int x3), (4, .int x4), (5, .int x5)] → W p l e rm_8_stepBackFrom s m args below meth c H locs 0 0 (MQ below (hm_Qv G H0 o 74 shX Q) args s 0 0 (t_fr o (o + 74))) (F0 m 42 ls []) := by
  intro f
  induction f with
  | zero => intro x2 x3 x4 x5 S T H locs ls h; exact h.elim
  | succ f ih => intro x2 x3 x4 x5 S T H locs ls h hw hL hl; exact bk_8_stepBackFrom_42 cx hr hlk ih h hw hL hl
def wp_8_stepBackFrom (x1 : Int32) (S : hm_S) (T : hm_T) (Q : hm_S → hm_T → Prop) : Prop :=
  wp_5_get 49 2430 x1 S T (fun r1 S1 T1 => wp_5_get 51 2430 x1 S1 T1 (fun r2 S2 T2 => wp_5_get 45 2431 (x1 + 1) S2 T2 (fun r3 S3 T3 => wp_5_get 45 2431 x1 S3 T3 (fun r4 S4 T4 => ∃ f, wl_8_stepBackFrom_42 Q f r1 (r2 + 1) r3 r4 S4 T4))))
set_option maxHeartbeats 4000000 in
set_option maxRecDepth 20000 in
theorem bk_8_stepBackFrom_0 {Q : hm_S → hm_T → Prop} (cx : hm_cx G p s m args c prog_10_method_12_code 7 "HeapGames$Solver") (hr : meth.sig.returnType = none) (hlk : meth.locks = false) {x1 : Int32} {S : hm_S} {T : hm_T} {H : Heap} {locs : List Loc} {ls : Array Slot} (h : wp_8_stepBackFrom x1 S T Q) (hw : hm_w G H0 o 74 shX S T H) (hL : hm_L o 74 locs) (hl : lv_has ls 7 [(0, .ref (o + 36)), (1, .int x1)]) : W p l e rm_8_stepBackFrom s m args below meth c H locs 0 0 (MQ below (hm_Qv G H0 o 74 shX Q) args s 0 0 (t_fr o (o + 74))) (F0 m 0 ls []) := by
  have hx := cx.1.1
  have hb := cx.1.2.1
  unfold wp_8_stepBackFrom at h
  refine lv_aload_n hx hb d_8_stepBackFrom_0 rfl (lv_at hl 0 rfl) ?_
  refine gf_8_35 cx hw (i := 36) (r := 49) (by decide) sx_36 rfl d_8_stepBackFrom_1 ?_
  refine lv_iload_n hx hb d_8_stepBackFrom_4 rfl (lv_at hl 1 rfl) ?_
  refine hm_calli (hm_rV (i := 49) (As := [.int x1]) (rest := []) cx hw (ct_5_get (by decide) sx_49 sx_50 h) (mw_8_73 cx.1.2.2.2.2 ⟨Nat.le_of_ble_eq_true rfl, Nat.le_of_ble_eq_true rfl⟩) (by decide) sx_49 rfl rfl hl.1 rfl (Nat.le_of_ble_eq_true rfl) d_8_stepBackFrom_5 ⟨Nat.zero_le _, Nat.zero_le _⟩) hL (fun r1 S1 T1 H locs h hw hL => ?_)
  refine lv_istore_n (lv' := [(2, .int r1), (0, .ref (o + 36)), (1, .int x1)]) hx hb d_8_stepBackFrom_8 rfl hl (by decide) rfl (fun ls hl => ?_)
  refine lv_aload_n hx hb d_8_stepBackFrom_9 rfl (lv_at hl 1 rfl) ?_
  refine gf_8_38 cx hw (i := 36) (r := 51) (by decide) sx_36 rfl d_8_stepBackFrom_10 ?_
  refine lv_iload_n hx hb d_8_stepBackFrom_13 rfl (lv_at hl 2 rfl) ?_
  refine hm_calli (hm_rV (i := 51) (As := [.int x1]) (rest := []) cx hw (ct_5_get (by decide) sx_51 sx_52 h) (mw_8_73 cx.1.2.2.2.2 ⟨Nat.le_of_ble_eq_true rfl, Nat.le_of_ble_eq_true rfl⟩) (by decide) sx_51 rfl rfl hl.1 rfl (Nat.le_of_ble_eq_true rfl) d_8_stepBackFrom_14 ⟨Nat.zero_le _, Nat.zero_le _⟩) hL (fun r2 S2 T2 H locs h hw hL => ?_)
  refine lv_iconst (v := 1) hx hb d_8_stepBackFrom_17 (by decide) ?_
  refine lv_iadd hx hb d_8_stepBackFrom_18 ?_
  refine lv_istore_n (lv' := [(3, .int (r2 + 1)), (2, .int r1), (0, .ref (o + 36)), (1, .int x1)]) hx hb d_8_stepBackFrom_19 rfl hl (by decide) rfl (fun ls hl => ?_)
  refine lv_aload_n hx hb d_8_stepBackFrom_20 rfl (lv_at hl 2 rfl) ?_
  refine gf_8_29 cx hw (i := 36) (r := 45) (by decide) sx_36 rfl d_8_stepBackFrom_21 ?_
  refine lv_iload_n hx hb d_8_stepBackFrom_24 rfl (lv_at hl 3 rfl) ?_
  refine lv_iconst (v := 1) hx hb d_8_stepBackFrom_25 (by decide) ?_
  refine lv_iadd hx hb d_8_stepBackFrom_26 ?_
  refine hm_calli (hm_rV (i := 45) (As := [.int (x1 + 1)]) (rest := []) cx hw (ct_5_get (by decide) sx_45 sx_46 h) (mw_8_73 cx.1.2.2.2.2 ⟨Nat.le_of_ble_eq_true rfl, Nat.le_of_ble_eq_true rfl⟩) (by decide) sx_45 rfl rfl hl.1 rfl (Nat.le_of_ble_eq_true rfl) d_8_stepBackFrom_27 ⟨Nat.zero_le _, Nat.zero_le _⟩) hL (fun r3 S3 T3 H locs h hw hL => ?_)
  refine lv_istore (lv' := [(4, .int r3), (3, .int (r2 + 1)), (2, .int r1), (0, .ref (o + 36)), (1, .int x1)]) hx hb d_8_stepBackFrom_30 hl (by decide) rfl (fun ls hl => ?_)
  refine lv_aload_n hx hb d_8_stepBackFrom_32 rfl (lv_at hl 3 rfl) ?_
  refine gf_8_29 cx hw (i := 36) (r := 45) (by decide) sx_36 rfl d_8_stepBackFrom_33 ?_
  refine lv_iload_n hx hb d_8_stepBackFrom_36 rfl (lv_at hl 4 rfl) ?_
  refine hm_calli (hm_rV (i := 45) (As := [.int x1]) (rest := []) cx hw (ct_5_get (by decide) sx_45 sx_46 h) (mw_8_73 cx.1.2.2.2.2 ⟨Nat.le_of_ble_eq_true rfl, Nat.le_of_ble_eq_true rfl⟩) (by decide) sx_45 rfl rfl hl.1 rfl (Nat.le_of_ble_eq_true rfl) d_8_stepBackFrom_37 ⟨Nat.zero_le _, Nat.zero_le _⟩) hL (fun r4 S4 T4 H locs h hw hL => ?_)
  refine lv_istore (lv' := [(5, .int r4), (4, .int r3), (3, .int (r2 + 1)), (2, .int r1), (0, .ref (o + 36)), (1, .int x1)]) hx hb d_8_stepBackFrom_40 hl (by decide) rfl (fun ls hl => ?_)
  obtain ⟨f, h⟩ := h
  exact lp_8_stepBackFrom_42 cx hr hlk f _ _ _ _ _ _ _ _ _ h hw hL (lv_sub hl [4, 3, 2, 1, 0] rfl)
set_option maxHeartbeats 4000000 in
set_option maxRecDepth 20000 in
theorem ct_8_stepBackFrom {x1 : Int32} {S : hm_S} {T : hm_T} {Q : hm_S → hm_T → Prop} (h : wp_8_stepBackFrom x1 S T Q) : hm_M l G H0 o 74 shX y_8_stepBackFrom prog_10_method_12_code 7 (none) rm_8_stepBackFrom S T [.ref (o + 36), .int x1] (hm_Qv G H0 o 74 shX Q) := by
  refine Met.ofW (cc := prog_10_method_12_code) (maxL := 7) (ret := none) (by decide) rfl ?_
  intro p e s m args below meth c s₁ B hml hv
  obtain ⟨rfl, hK, hw⟩ := hv
  have cx : hm_cx G p s m _ c prog_10_method_12_code 7 "HeapGames$Solver" := ⟨⟨B.exec, B.bytes, hml, findClass_of_methodNamed B.named, fun w hq => atoms_spec (ws := hm_ws y_8_stepBackFrom prog_10_method_12_code 7 (none)) B.pre w (List.mem_cons_of_mem _ hq)⟩, hK⟩
  have hl := lv_entry ([.ref (o + 36), .int x1]) (n := 7) (Nat.le_of_ble_eq_true rfl)
  rw [lg_entry_eq]
  generalize (lg_sl ([.ref (o + 36), .int x1]) ++ List.replicate (7 - (lg_sl ([.ref (o + 36), .int x1])).length) Slot.unset).toArray = ls at hl ⊢
  have hl : lv_has ls 7 [(0, .ref (o + 36)), (1, .int x1)] := hl
  exact bk_8_stepBackFrom_0 cx B.returns B.notSynchronized h hw (hm_L0 _ _) hl
/-! ===== HeapGames$Solver.solve()V ===== -/
theorem d_8_solve_0 : decode prog_10_method_9_code 0 = .ok (.aload_n 0, 1) := by decide +kernel
theorem d_8_solve_1 : decode prog_10_method_9_code 1 = .ok (.getfield 65, 3) := by decide +kernel
theorem d_8_solve_4 : decode prog_10_method_9_code 4 = .ok (.ifCond .eq 4, 3) := by decide +kernel
theorem d_8_solve_7 : decode prog_10_method_9_code 7 = .ok (.return_, 1) := by decide +kernel
theorem d_8_solve_8 : decode prog_10_method_9_code 8 = .ok (.aload_n 0, 1) := by decide +kernel
theorem d_8_solve_9 : decode prog_10_method_9_code 9 = .ok (.invokevirtual 97, 3) := by decide +kernel
theorem d_8_solve_12 : decode prog_10_method_9_code 12 = .ok (.aload_n 0, 1) := by decide +kernel
theorem d_8_solve_13 : decode prog_10_method_9_code 13 = .ok (.iconst 0, 1) := by decide +kernel
theorem d_8_solve_14 : decode prog_10_method_9_code 14 = .ok (.putfield 91, 3) := by decide +kernel
theorem d_8_solve_17 : decode prog_10_method_9_code 17 = .ok (.iconst 0, 1) := by decide +kernel
theorem d_8_solve_18 : decode prog_10_method_9_code 18 = .ok (.istore_n 1, 1) := by decide +kernel
theorem d_8_solve_19 : decode prog_10_method_9_code 19 = .ok (.iload_n 1, 1) := by decide +kernel
theorem d_8_solve_20 : decode prog_10_method_9_code 20 = .ok (.aload_n 0, 1) := by decide +kernel
theorem d_8_solve_21 : decode prog_10_method_9_code 21 = .ok (.getfield 61, 3) := by decide +kernel
theorem d_8_solve_24 : decode prog_10_method_9_code 24 = .ok (.if_icmp .ge 14, 3) := by decide +kernel
theorem d_8_solve_27 : decode prog_10_method_9_code 27 = .ok (.aload_n 0, 1) := by decide +kernel
theorem d_8_solve_28 : decode prog_10_method_9_code 28 = .ok (.iload_n 1, 1) := by decide +kernel
theorem d_8_solve_29 : decode prog_10_method_9_code 29 = .ok (.invokevirtual 100, 3) := by decide +kernel
theorem d_8_solve_32 : decode prog_10_method_9_code 32 = .ok (.iinc 1 1, 3) := by decide +kernel
theorem d_8_solve_35 : decode prog_10_method_9_code 35 = .ok (.goto (-16), 3) := by decide +kernel
theorem d_8_solve_38 : decode prog_10_method_9_code 38 = .ok (.iconst 0, 1) := by decide +kernel
theorem d_8_solve_39 : decode prog_10_method_9_code 39 = .ok (.istore_n 1, 1) := by decide +kernel
theorem d_8_solve_40 : decode prog_10_method_9_code 40 = .ok (.iload_n 1, 1) := by decide +kernel
theorem d_8_solve_41 : decode prog_10_method_9_code 41 = .ok (.aload_n 0, 1) := by decide +kernel
theorem d_8_solve_42 : decode prog_10_method_9_code 42 = .ok (.getfield 91, 3) := by decide +kernel
theorem d_8_solve_45 : decode prog_10_method_9_code 45 = .ok (.if_icmp .ge 28, 3) := by decide +kernel
theorem d_8_solve_48 : decode prog_10_method_9_code 48 = .ok (.iload_n 1, 1) := by decide +kernel
theorem d_8_solve_49 : decode prog_10_method_9_code 49 = .ok (.sipush 2430, 3) := by decide +kernel
theorem d_8_solve_52 : decode prog_10_method_9_code 52 = .ok (.if_icmp .ge 21, 3) := by decide +kernel
theorem d_8_solve_55 : decode prog_10_method_9_code 55 = .ok (.aload_n 0, 1) := by decide +kernel
theorem d_8_solve_56 : decode prog_10_method_9_code 56 = .ok (.aload_n 0, 1) := by decide +kernel
theorem d_8_solve_57 : decode prog_10_method_9_code 57 = .ok (.getfield 44, 3) := by decide +kernel
theorem d_8_solve_60 : decode prog_10_method_9_code 60 = .ok (.iload_n 1, 1) := by decide +kernel
theorem d_8_solve_61 : decode prog_10_method_9_code 61 = .ok (.invokevirtual 73, 3) := by decide +kernel
theorem d_8_solve_64 : decode prog_10_method_9_code 64 = .ok (.invokevirtual 103, 3) := by decide +kernel
theorem d_8_solve_67 : decode prog_10_method_9_code 67 = .ok (.iinc 1 1, 3) := by decide +kernel
theorem d_8_solve_70 : decode prog_10_method_9_code 70 = .ok (.goto (-30), 3) := by decide +kernel
theorem d_8_solve_73 : decode prog_10_method_9_code 73 = .ok (.aload_n 0, 1) := by decide +kernel
theorem d_8_solve_74 : decode prog_10_method_9_code 74 = .ok (.iconst 1, 1) := by decide +kernel
theorem d_8_solve_75 : decode prog_10_method_9_code 75 = .ok (.putfield 65, 3) := by decide +kernel
theorem d_8_solve_78 : decode prog_10_method_9_code 78 = .ok (.return_, 1) := by decide +kernel
def wb_8_solve_73 (Q : hm_S → hm_T → Prop) (S : hm_S) (T : hm_T) : Prop :=
  Q (hm_up S 36 15 1) T
set_option maxHeartbeats 4000000 in
set_option maxRecDepth 20000 in
theorem bk_8_solve_73 {Q : hm_S → hm_T → Prop} (cx : hm_cx G p s m args c prog_10_method_9_code 2 "HeapGames$Solver") (hr : meth.sig.returnType = none) (hlk : meth.locks = false) {S : hm_S} {T : hm_T} {H : Heap} {locs : List Loc} {ls : Array Slot} (h : wb_8_solve_73 Q S T) (hw : hm_w G H0 o 74 shX S T H) (hL : hm_L o 74 locs) (hl : lv_has ls 2 [(0, .ref (o + 36))]) : W p l e rm_8_solve s m args below meth c H locs 0 0 (MQ below (hm_Qv G H0 o 74 shX Q) args s 0 0 (t_fr o (o + 74))) (F0 m 73 ls []) := by
  have hx := cx.1.1
  have hb := cx.1.2.1
  unfold wb_8_solve_73 at h
  refine lv_aload_n hx hb d_8_solve_73 rfl (lv_at hl 0 rfl) ?_
  refine lv_iconst (v := 1) hx hb d_8_solve_74 (by decide) ?_
  refine pf_8_65 cx hw (i := 36) (by decide) sx_36 rfl hm_b1 hL d_8_solve_75 (fun H locs hw hL => ?_)
  exact W.vret hx hb hr (fun t ht _ => ⟨_, _, rfl, h, by rw [ht]; exact hw⟩) hL d_8_solve_78
def wb_8_solve_40 (Q : hm_S → hm_T → Prop) (K40 : Int32 → hm_S → hm_T → Prop) (x1 : Int32) (S : hm_S) (T : hm_T) : Prop :=
  (if (S 36 14) ≤ x1 then wb_8_solve_73 Q S T else (if 2430 ≤ x1 then wb_8_solve_73 Q S T else wp_5_get 55 2430 x1 S T (fun r2 S2 T2 => wp_8_stepBackFrom r2 S2 T2 (fun S3 T3 => K40 (x1 + 1) S3 T3))))
set_option maxHeartbeats 4000000 in
set_option maxRecDepth 20000 in
theorem bk_8_solve_40 {Q : hm_S → hm_T → Prop} {K40 : Int32 → hm_S → hm_T → Prop} (cx : hm_cx G p s m args c prog_10_method_9_code 2 "HeapGames$Solver") (hr : meth.sig.returnType = none) (hlk : meth.locks = false) (k40 : ∀ (x1 : Int32) (S : hm_S) (T : hm_T) (H : Heap) (locs : List Loc) (ls : Array Slot), K40 x1 S T → hm_w G H0 o 74 shX S T H → hm_L o 74 locs → lv_has ls 2 [(0, .ref (o + 36)), (1, .int x1)] → W p l e rm_8_solve s m args below meth c H locs 0 0 (MQ below (hm_Qv G H0 o 74 shX Q) args s 0 0 (t_fr o (o + 74))) (F0 m 40 ls [])) {x1 : Int32} {S : hm_S} {T : hm_T} {H : Heap} {locs : List Loc} {ls : Array Slot} (h : wb_8_solve_40 Q K40 x1 S T) (hw : hm_w G H0 o 74 shX S T H) (hL : hm_L o 74 locs) (hl : lv_has ls 2 [(0, .ref (o + 36)), (1, .int x1)]) : W p l e rm_8_solve s m args below meth c H locs 0 0 (MQ below (hm_Qv G H0 o 74 shX Q) args s 0 0 (t_fr o (o + 74))) (F0 m 40 ls []) := by
  have hx := cx.1.1
  have hb := cx.1.2.1
  unfold wb_8_solve_40 at h
  refine lv_iload_n hx hb d_8_solve_40 rfl (lv_at hl 1 rfl) ?_
  refine lv_aload_n hx hb d_8_solve_41 rfl (lv_at hl 0 rfl) ?_
  refine gf_8_91 cx hw (i := 36) (by decide) sx_36 rfl d_8_solve_42 ?_
  refine lv_icmp_ge (tgt := 73) hx hb d_8_solve_45 (by decide) (fun hc => ?_) (fun hc => ?_)
  · replace h := hm_pos hc h
    exact bk_8_solve_73 cx hr hlk h hw hL (lv_sub hl [0] rfl)
  · replace h := hm_neg hc h
    refine lv_iload_n hx hb d_8_solve_48 rfl (lv_at hl 1 rfl) ?_
    refine lv_sipush (v := 2430) hx hb d_8_solve_49 (by decide) ?_
    refine lv_icmp_ge (tgt := 73) hx hb d_8_solve_52 (by decide) (fun hc => ?_) (fun hc => ?_)
    · replace h := hm_pos hc h
      exact bk_8_solve_73 cx hr hlk h hw hL (lv_sub hl [0] rfl)
    · replace h := hm_neg hc h
      refine lv_aload_n hx hb d_8_solve_55 rfl (lv_at hl 0 rfl) ?_
      refine lv_aload_n hx hb d_8_solve_56 rfl (lv_at hl 0 rfl) ?_
      refine gf_8_44 cx hw (i := 36) (r := 55) (by decide) sx_36 rfl d_8_solve_57 ?_
      refine lv_iload_n hx hb d_8_solve_60 rfl (lv_at hl 1 rfl) ?_
      refine hm_calli (hm_rV (i := 55) (As := [.int x1]) (rest := [.ref (o + 36)]) cx hw (ct_5_get (by decide) sx_55 sx_56 h) (mw_8_73 cx.1.2.2.2.2 ⟨Nat.le_of_ble_eq_true rfl, Nat.le_of_ble_eq_true rfl⟩) (by decide) sx_55 rfl rfl hl.1 rfl (Nat.le_of_ble_eq_true rfl) d_8_solve_61 ⟨Nat.zero_le _, Nat.zero_le _⟩) hL (fun r2 S2 T2 H locs h hw hL => ?_)
      refine hm_callv (hm_rV (i := 36) (As := [.int r2]) (rest := []) cx hw (ct_8_stepBackFrom h) (mw_8_103 cx.1.2.2.2.2 ⟨Nat.le_of_ble_eq_true rfl, Nat.le_of_ble_eq_true rfl⟩) (by decide) sx_36 rfl rfl hl.1 rfl (Nat.le_of_ble_eq_true rfl) d_8_solve_64 ⟨Nat.zero_le _, Nat.zero_le _⟩) hL (fun S3 T3 H locs h hw hL => ?_)
      refine lv_iinc (v := (x1 + 1)) (lv' := [(1, .int (x1 + 1)), (0, .ref (o + 36))]) hx hb d_8_solve_67 hl (k := 1) rfl rfl (by decide) rfl (fun ls hl => ?_)
      refine lv_goto (tgt := 40) hx hb d_8_solve_70 (by decide) ?_
      exact k40 _ _ _ _ _ _ h hw hL (lv_sub hl [1, 0] rfl)
def wl_8_solve_40 (Q : hm_S → hm_T → Prop) : Nat → Int32 → hm_S → hm_T → Prop
  | 0, _, _, _ => False
  | f + 1, x1, S, T => wb_8_solve_40 Q (wl_8_solve_40 Q f) x1 S T
theorem lp_8_solve_40 {Q : hm_S → hm_T → Prop} (cx : hm_cx G p s m args c prog_10_method_9_code 2 "HeapGames$Solver") (hr : meth.sig.returnType = none) (hlk : meth.locks = false) : ∀ (f : Nat) (x1 : Int32) (S : hm_S) (T : hm_T) (H : Heap) (locs : List Loc) (ls : Array Slot), wl_8_solve_40 Q f x1 S T → hm_w G H0 o 74 shX S T H → hm_L o 74 locs → lv_has ls 2 [(0, .ref (o + 36)), (1, .int x1)] → W p l e rm_8_solve s m args below meth c H locs 0 0 (MQ below (hm_Qv G H0 o 74 shX Q) args s 0 0 (t_fr o (o + 74))) (F0 m 40 ls []) := by
  intro f
  induction f with
  | zero => intro x1 S T H locs ls h; exact h.elim
  | succ f ih => intro x1 S T H locs ls h hw hL hl; exact bk_8_solve_40 cx hr hlk ih h hw hL hl
def wb_8_solve_38 (Q : hm_S → hm_T → Prop) (S : hm_S) (T : hm_T) : Prop :=
  ∃ f, wl_8_solve_40 Q f 0 S T
set_option maxHeartbeats 4000000 in
set_option maxRecDepth 20000 in
theorem bk_8_solve_38 {Q : hm_S → hm_T → Prop} (cx : hm_cx G p s m args c prog_10_method_9_code 2 "HeapGames$Solver") (hr : meth.sig.returnType = none) (hlk : meth.locks = false) {S : hm_S} {T : hm_T} {H : Heap} {locs : List Loc} {ls : Array Slot} (h : wb_8_solve_38 Q S T) (hw : hm_w G H0 o 74 shX S T H) (hL : hm_L o 74 locs) (hl : lv_has ls 2 [(0, .ref (o + 36))]) : W p l e rm_8_solve s m args below meth c H locs 0 0 (MQ below (hm_Qv G H0 o 74 shX Q) args s 0 0 (t_fr o (o + 74))) (F0 m 38 ls []) := by
  have hx := cx.1.1
  have hb := cx.1.2.1
  unfold wb_8_solve_38 at h
  refine lv_iconst (v := 0) hx hb d_8_solve_38 (by decide) ?_
  refine lv_istore_n (lv' := [(1, .int 0), (0, .ref (o + 36))]) hx hb d_8_solve_39 rfl hl (by decide) rfl (fun ls hl => ?_)
  obtain ⟨f, h⟩ := h
  exact lp_8_solve_40 cx hr hlk f _ _ _ _ _ _ h hw hL (lv_sub hl [1, 0] rfl)
def wb_8_solve_19 (Q : hm_S → hm_T → Prop) (K19 : Int32 → hm_S → hm_T → Prop) (x1 : Int32) (S : hm_S) (T : hm_T) : Prop :=
  (if (S 36 13) ≤ x1 then wb_8_solve_38 Q S T else wp_8_startWith x1 S T (fun S4 T4 => K19 (x1 + 1) S4 T4))
set_option maxHeartbeats 4000000 in
set_option maxRecDepth 20000 in
theorem bk_8_solve_19 {Q : hm_S → hm_T → Prop} {K19 : Int32 → hm_S → hm_T → Prop} (cx : hm_cx G p s m args c prog_10_method_9_code 2 "HeapGames$Solver") (hr : meth.sig.returnType = none) (hlk : meth.locks = false) (k19 : ∀ (x1 : Int32) (S : hm_S) (T : hm_T) (H : Heap) (locs : List Loc) (ls : Array Slot), K19 x1 S T → hm_w G H0 o 74 shX S T H → hm_L o 74 locs → lv_has ls 2 [(0, .ref (o + 36)), (1, .int x1)] → W p l e rm_8_solve s m args below meth c H locs 0 0 (MQ below (hm_Qv G H0 o 74 shX Q) args s 0 0 (t_fr o (o + 74))) (F0 m 19 ls [])) {x1 : Int32} {S : hm_S} {T : hm_T} {H : Heap} {locs : List Loc} {ls : Array Slot} (h : wb_8_solve_19 Q K19 x1 S T) (hw : hm_w G H0 o 74 shX S T H) (hL : hm_L o 74 locs) (hl : lv_has ls 2 [(0, .ref (o + 36)), (1, .int x1)]) : W p l e rm_8_solve s m args below meth c H locs 0 0 (MQ below (hm_Qv G H0 o 74 shX Q) args s 0 0 (t_fr o (o + 74))) (F0 m 19 ls []) := by
  have hx := cx.1.1
  have hb := cx.1.2.1
  unfold wb_8_solve_19 at h
  refine lv_iload_n hx hb d_8_solve_19 rfl (lv_at hl 1 rfl) ?_
  refine lv_aload_n hx hb d_8_solve_20 rfl (lv_at hl 0 rfl) ?_
  refine gf_8_61 cx hw (i := 36) (by decide) sx_36 rfl d_8_solve_21 ?_
  refine lv_icmp_ge (tgt := 38) hx hb d_8_solve_24 (by decide) (fun hc => ?_) (fun hc => ?_)
  · replace h := hm_pos hc h
    exact bk_8_solve_38 cx hr hlk h hw hL (lv_sub hl [0] rfl)
  · replace h := hm_neg hc h
    refine lv_aload_n hx hb d_8_solve_27 rfl (lv_at hl 0 rfl) ?_
    refine lv_iload_n hx hb d_8_solve_28 rfl (lv_at hl 1 rfl) ?_
    refine hm_callv (hm_rV (i := 36) (As := [.int x1]) (rest := []) cx hw (ct_8_startWith h) (mw_8_100 cx.1.2.2.2.2 ⟨Nat.le_of_ble_eq_true rfl, Nat.le_of_ble_eq_true rfl⟩) (by decide) sx_36 rfl rfl hl.1 rfl (Nat.le_of_ble_eq_true rfl) d_8_solve_29 ⟨Nat.zero_le _, Nat.zero_le _⟩) hL (fun S4 T4 H locs h hw hL => ?_)
    refine lv_iinc (v := (x1 + 1)) (lv' := [(1, .int (x1 + 1)), (0, .ref (o + 36))]) hx hb d_8_solve_32 hl (k := 1) rfl rfl (by decide) rfl (fun ls hl => ?_)
    refine lv_goto (tgt := 19) hx hb d_8_solve_35 (by decide) ?_
    exact k19 _ _ _ _ _ _ h hw hL (lv_sub hl [1, 0] rfl)
def wl_8_solve_19 (Q : hm_S → hm_T → Prop) : Nat → Int32 → hm_S → hm_T → Prop
  | 0, _, _, _ => False
  | f + 1, x1, S, T => wb_8_solve_19 Q (wl_8_solve_19 Q f) x1 S T
theorem lp_8_solve_19 {Q : hm_S → hm_T → Prop} (cx : hm_cx G p s m args c prog_10_method_9_code 2 "HeapGames$Solver") (hr : meth.sig.returnType = none) (hlk : meth.locks = false) : ∀ (f : Nat) (x1 : Int32) (S : hm_S) (T : hm_T) (H : Heap) (locs : List Loc) (ls : Array Slot), wl_8_solve_19 Q f x1 S T → hm_w G H0 o 74 shX S T H → hm_L o 74 locs → lv_has ls 2 [(0, .ref (o + 36)), (1, .int x1)] → W p l e rm_8_solve s m args below meth c H locs 0 0 (MQ below (hm_Qv G H0 o 74 shX Q) args s 0 0 (t_fr o (o + 74))) (F0 m 19 ls []) := by
  intro f
  induction f with
  | zero => intro x1 S T H locs ls h; exact h.elim
  | succ f ih => intro x1 S T H locs ls h hw hL hl; exact bk_8_solve_19 cx hr hlk ih h hw hL hl
def wp_8_solve (S : hm_S) (T : hm_T) (Q : hm_S → hm_T → Prop) : Prop :=
  (if (S 36 15) = 0 then wp_8_turnStepsRound S T (fun S1 T1 => ∃ f, wl_8_solve_19 Q f 0 (hm_up S1 36 14 0) T1) else Q S T)
set_option maxHeartbeats 4000000 in
set_option maxRecDepth 20000 in
theorem bk_8_solve_0 {Q : hm_S → hm_T → Prop} (cx : hm_cx G p s m args c prog_10_method_9_code 2 "HeapGames$Solver") (hr : meth.sig.returnType = none) (hlk : meth.locks = false) {S : hm_S} {T : hm_T} {H : Heap} {locs : List Loc} {ls : Array Slot} (h : wp_8_solve S T Q) (hw : hm_w G H0 o 74 shX S T H) (hL : hm_L o 74 locs) (hl : lv_has ls 2 [(0, .ref (o + 36))]) : W p l e rm_8_solve s m args below meth c H locs 0 0 (MQ below (hm_Qv G H0 o 74 shX Q) args s 0 0 (t_fr o (o + 74))) (F0 m 0 ls []) := by
  have hx := cx.1.1
  have hb := cx.1.2.1
  unfold wp_8_solve at h
  refine lv_aload_n hx hb d_8_solve_0 rfl (lv_at hl 0 rfl) ?_
  refine gf_8_65 cx hw (i := 36) (by decide) sx_36 rfl d_8_solve_1 ?_
  refine lv_if_eq (tgt := 8) hx hb d_8_solve_4 (by decide) (fun hc => ?_) (fun hc => ?_)
  · replace h := hm_pos hc h
    refine lv_aload_n hx hb d_8_solve_8 rfl (lv_at hl 0 rfl) ?_
    refine hm_callv (hm_rV (i := 36) (As := []) (rest := []) cx hw (ct_8_turnStepsRound h) (mw_8_97 cx.1.2.2.2.2 ⟨Nat.le_of_ble_eq_true rfl, Nat.le_of_ble_eq_true rfl⟩) (by decide) sx_36 rfl rfl hl.1 rfl (Nat.le_of_ble_eq_true rfl) d_8_solve_9 ⟨Nat.zero_le _, Nat.zero_le _⟩) hL (fun S1 T1 H locs h hw hL => ?_)
    refine lv_aload_n hx hb d_8_solve_12 rfl (lv_at hl 0 rfl) ?_
    refine lv_iconst (v := 0) hx hb d_8_solve_13 (by decide) ?_
    refine pf_8_91 cx hw (i := 36) (by decide) sx_36 rfl hL d_8_solve_14 (fun H locs hw hL => ?_)
    refine lv_iconst (v := 0) hx hb d_8_solve_17 (by decide) ?_
    refine lv_istore_n (lv' := [(1, .int 0), (0, .ref (o + 36))]) hx hb d_8_solve_18 rfl hl (by decide) rfl (fun ls hl => ?_)
    obtain ⟨f, h⟩ := h
    exact lp_8_solve_19 cx hr hlk f _ _ _ _ _ _ h hw hL (lv_sub hl [1, 0] rfl)
  · replace h := hm_neg hc h
    exact W.vret hx hb hr (fun t ht _ => ⟨_, _, rfl, h, by rw [ht]; exact hw⟩) hL d_8_solve_7
set_option maxHeartbeats 4000000 in
set_option maxRecDepth 20000 in
theorem ct_8_solve {S : hm_S} {T : hm_T} {Q : hm_S → hm_T → Prop} (h : wp_8_solve S T Q) : hm_M l G H0 o 74 shX y_8_solve prog_10_method_9_code 2 (none) rm_8_solve S T [.ref (o + 36)] (hm_Qv G H0 o 74 shX Q) := by
  refine Met.ofW (cc := prog_10_method_9_code) (maxL := 2) (ret := none) (by decide) rfl ?_
  intro p e s m args below meth c s₁ B hml hv
  obtain ⟨rfl, hK, hw⟩ := hv
  have cx : hm_cx G p s m _ c prog_10_method_9_code 2 "HeapGames$Solver" := ⟨⟨B.exec, B.bytes, hml, findClass_of_methodNamed B.named, fun w hq => atoms_spec (ws := hm_ws y_8_solve prog_10_method_9_code 2 (none)) B.pre w (List.mem_cons_of_mem _ hq)⟩, hK⟩
  have hl := lv_entry ([.ref (o + 36)]) (n := 2) (Nat.le_of_ble_eq_true rfl)
  rw [lg_entry_eq]
  generalize (lg_sl ([.ref (o + 36)]) ++ List.replicate (2 - (lg_sl ([.ref (o + 36)])).length) Slot.unset).toArray = ls at hl ⊢
  have hl : lv_has ls 2 [(0, .ref (o + 36))] := hl
  exact bk_8_solve_0 cx B.returns B.notSynchronized h hw (hm_L0 _ _) hl
end WK
