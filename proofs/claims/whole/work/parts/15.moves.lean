section WK
variable {p : Program} {l : Launch} {e : Env} {s : State} {m : MethodId} {args : Array Value} {below : List Frame} {meth : Method} {c : Code} {G : hm_G} {H0 : Heap} {o n : Nat} {sh : hm_Sh}
/-! ===== HeapGames$Moves.forget()V ===== -/
theorem d_3_forget_0 : decode prog_5_method_2_code 0 = .ok (.aload_n 0, 1) := by decide +kernel
theorem d_3_forget_1 : decode prog_5_method_2_code 1 = .ok (.iconst (-1), 1) := by decide +kernel
theorem d_3_forget_2 : decode prog_5_method_2_code 2 = .ok (.putfield 41, 3) := by decide +kernel
theorem d_3_forget_5 : decode prog_5_method_2_code 5 = .ok (.return_, 1) := by decide +kernel
def wp_3_forget (S : hm_S) (T : hm_T) (Q : hm_S → hm_T → Prop) : Prop :=
  Q (hm_up S 19 12 (-1)) T
set_option maxHeartbeats 4000000 in
set_option maxRecDepth 20000 in
theorem bk_3_forget_0 {Q : hm_S → hm_T → Prop} (cx : hm_cx G p s m args c prog_5_method_2_code 1 "HeapGames$Moves") (hr : meth.sig.returnType = none) (hlk : meth.locks = false) {S : hm_S} {T : hm_T} {H : Heap} {locs : List Loc} {ls : Array Slot} (h : wp_3_forget S T Q) (hw : hm_w G H0 o 74 shX S T H) (hL : hm_L o 74 locs) (hl : lv_has ls 1 [(0, .ref (o + 19))]) : W p l e rm_3_forget s m args below meth c H locs 0 0 (MQ below (hm_Qv G H0 o 74 shX Q) args s 0 0 (t_fr o (o + 74))) (F0 m 0 ls []) := by
  have hx := cx.1.1
  have hb := cx.1.2.1
  unfold wp_3_forget at h
  refine lv_aload_n hx hb d_3_forget_0 rfl (lv_at hl 0 rfl) ?_
  refine lv_iconst (v := (-1)) hx hb d_3_forget_1 (by decide) ?_
  refine pf_3_41 cx hw (i := 19) (by decide) sx_19 rfl hL d_3_forget_2 (fun H locs hw hL => ?_)
  exact W.vret hx hb hr (fun t ht _ => ⟨_, _, rfl, h, by rw [ht]; exact hw⟩) hL d_3_forget_5
set_option maxHeartbeats 4000000 in
set_option maxRecDepth 20000 in
theorem ct_3_forget {S : hm_S} {T : hm_T} {Q : hm_S → hm_T → Prop} (h : wp_3_forget S T Q) : hm_M l G H0 o 74 shX y_3_forget prog_5_method_2_code 1 (none) rm_3_forget S T [.ref (o + 19)] (hm_Qv G H0 o 74 shX Q) := by
  refine Met.ofW (cc := prog_5_method_2_code) (maxL := 1) (ret := none) (by decide) rfl ?_
  intro p e s m args below meth c s₁ B hml hv
  obtain ⟨rfl, hK, hw⟩ := hv
  have cx : hm_cx G p s m _ c prog_5_method_2_code 1 "HeapGames$Moves" := ⟨⟨B.exec, B.bytes, hml, findClass_of_methodNamed B.named, fun w hq => atoms_spec (ws := hm_ws y_3_forget prog_5_method_2_code 1 (none)) B.pre w (List.mem_cons_of_mem _ hq)⟩, hK⟩
  have hl := lv_entry ([.ref (o + 19)]) (n := 1) (Nat.le_of_ble_eq_true rfl)
  rw [lg_entry_eq]
  generalize (lg_sl ([.ref (o + 19)]) ++ List.replicate (1 - (lg_sl ([.ref (o + 19)])).length) Slot.unset).toArray = ls at hl ⊢
  have hl : lv_has ls 1 [(0, .ref (o + 19))] := hl
  exact bk_3_forget_0 cx B.returns B.notSynchronized h hw (hm_L0 _ _) hl
/-! ===== HeapGames$Moves.targetOf(I)I ===== -/
theorem d_3_targetOf_0 : decode prog_5_method_3_code 0 = .ok (.aload_n 0, 1) := by decide +kernel
theorem d_3_targetOf_1 : decode prog_5_method_3_code 1 = .ok (.getfield 32, 3) := by decide +kernel
theorem d_3_targetOf_4 : decode prog_5_method_3_code 4 = .ok (.iload_n 1, 1) := by decide +kernel
theorem d_3_targetOf_5 : decode prog_5_method_3_code 5 = .ok (.invokevirtual 53, 3) := by decide +kernel
theorem d_3_targetOf_8 : decode prog_5_method_3_code 8 = .ok (.ireturn, 1) := by decide +kernel
def wp_3_targetOf (x1 : Int32) (S : hm_S) (T : hm_T) (Q : Int32 → hm_S → hm_T → Prop) : Prop :=
  wp_5_get 30 31 x1 S T (fun r1 S1 T1 => Q r1 S1 T1)
set_option maxHeartbeats 4000000 in
set_option maxRecDepth 20000 in
theorem bk_3_targetOf_0 {Q : Int32 → hm_S → hm_T → Prop} (cx : hm_cx G p s m args c prog_5_method_3_code 2 "HeapGames$Moves") (hr : meth.sig.returnType = some .int) (hlk : meth.locks = false) {x1 : Int32} {S : hm_S} {T : hm_T} {H : Heap} {locs : List Loc} {ls : Array Slot} (h : wp_3_targetOf x1 S T Q) (hw : hm_w G H0 o 74 shX S T H) (hL : hm_L o 74 locs) (hl : lv_has ls 2 [(0, .ref (o + 19)), (1, .int x1)]) : W p l e rm_3_targetOf s m args below meth c H locs 0 0 (MQ below (hm_Qi G H0 o 74 shX Q) args s 0 0 (t_fr o (o + 74))) (F0 m 0 ls []) := by
  have hx := cx.1.1
  have hb := cx.1.2.1
  unfold wp_3_targetOf at h
  refine lv_aload_n hx hb d_3_targetOf_0 rfl (lv_at hl 0 rfl) ?_
  refine gf_3_32 cx hw (i := 19) (r := 30) (by decide) sx_19 rfl d_3_targetOf_1 ?_
  refine lv_iload_n hx hb d_3_targetOf_4 rfl (lv_at hl 1 rfl) ?_
  refine hm_calli (hm_rV (i := 30) (As := [.int x1]) (rest := []) cx hw (ct_5_get (by decide) sx_30 sx_31 h) (mw_3_53 cx.1.2.2.2.2 ⟨Nat.le_of_ble_eq_true rfl, Nat.le_of_ble_eq_true rfl⟩) (by decide) sx_30 rfl rfl hl.1 rfl (Nat.le_of_ble_eq_true rfl) d_3_targetOf_5 ⟨Nat.zero_le _, Nat.zero_le _⟩) hL (fun r1 S1 T1 H locs h hw hL => ?_)
  exact W.iret hx hb hr (fun t ht _ => ⟨_, _, _, rfl, h, by rw [ht]; exact hw⟩) hL d_3_targetOf_8
set_option maxHeartbeats 4000000 in
set_option maxRecDepth 20000 in
theorem ct_3_targetOf {x1 : Int32} {S : hm_S} {T : hm_T} {Q : Int32 → hm_S → hm_T → Prop} (h : wp_3_targetOf x1 S T Q) : hm_M l G H0 o 74 shX y_3_targetOf prog_5_method_3_code 2 (some .int) rm_3_targetOf S T [.ref (o + 19), .int x1] (hm_Qi G H0 o 74 shX Q) := by
  refine Met.ofW (cc := prog_5_method_3_code) (maxL := 2) (ret := some .int) (by decide) rfl ?_
  intro p e s m args below meth c s₁ B hml hv
  obtain ⟨rfl, hK, hw⟩ := hv
  have cx : hm_cx G p s m _ c prog_5_method_3_code 2 "HeapGames$Moves" := ⟨⟨B.exec, B.bytes, hml, findClass_of_methodNamed B.named, fun w hq => atoms_spec (ws := hm_ws y_3_targetOf prog_5_method_3_code 2 (some .int)) B.pre w (List.mem_cons_of_mem _ hq)⟩, hK⟩
  have hl := lv_entry ([.ref (o + 19), .int x1]) (n := 2) (Nat.le_of_ble_eq_true rfl)
  rw [lg_entry_eq]
  generalize (lg_sl ([.ref (o + 19), .int x1]) ++ List.replicate (2 - (lg_sl ([.ref (o + 19), .int x1])).length) Slot.unset).toArray = ls at hl ⊢
  have hl : lv_has ls 2 [(0, .ref (o + 19)), (1, .int x1)] := hl
  exact bk_3_targetOf_0 cx B.returns B.notSynchronized h hw (hm_L0 _ _) hl
/-! ===== HeapGames$Moves.findOpenHeaps(I)V ===== -/
theorem d_3_findOpenHeaps_0 : decode prog_5_method_5_code 0 = .ok (.aload_n 0, 1) := by decide +kernel
theorem d_3_findOpenHeaps_1 : decode prog_5_method_5_code 1 = .ok (.iconst 0, 1) := by decide +kernel
theorem d_3_findOpenHeaps_2 : decode prog_5_method_5_code 2 = .ok (.putfield 69, 3) := by decide +kernel
theorem d_3_findOpenHeaps_5 : decode prog_5_method_5_code 5 = .ok (.aload_n 0, 1) := by decide +kernel
theorem d_3_findOpenHeaps_6 : decode prog_5_method_5_code 6 = .ok (.getfield 49, 3) := by decide +kernel
theorem d_3_findOpenHeaps_9 : decode prog_5_method_5_code 9 = .ok (.iload_n 1, 1) := by decide +kernel
theorem d_3_findOpenHeaps_10 : decode prog_5_method_5_code 10 = .ok (.invokevirtual 84, 3) := by decide +kernel
theorem d_3_findOpenHeaps_13 : decode prog_5_method_5_code 13 = .ok (.ifCond .le 7, 3) := by decide +kernel
theorem d_3_findOpenHeaps_16 : decode prog_5_method_5_code 16 = .ok (.iconst 1, 1) := by decide +kernel
theorem d_3_findOpenHeaps_17 : decode prog_5_method_5_code 17 = .ok (.goto 4, 3) := by decide +kernel
theorem d_3_findOpenHeaps_20 : decode prog_5_method_5_code 20 = .ok (.iconst 0, 1) := by decide +kernel
theorem d_3_findOpenHeaps_21 : decode prog_5_method_5_code 21 = .ok (.istore_n 2, 1) := by decide +kernel
theorem d_3_findOpenHeaps_22 : decode prog_5_method_5_code 22 = .ok (.iconst 0, 1) := by decide +kernel
theorem d_3_findOpenHeaps_23 : decode prog_5_method_5_code 23 = .ok (.istore_n 3, 1) := by decide +kernel
theorem d_3_findOpenHeaps_24 : decode prog_5_method_5_code 24 = .ok (.iconst 0, 1) := by decide +kernel
theorem d_3_findOpenHeaps_25 : decode prog_5_method_5_code 25 = .ok (.istore 4, 2) := by decide +kernel
theorem d_3_findOpenHeaps_27 : decode prog_5_method_5_code 27 = .ok (.iload 4, 2) := by decide +kernel
theorem d_3_findOpenHeaps_29 : decode prog_5_method_5_code 29 = .ok (.aload_n 0, 1) := by decide +kernel
theorem d_3_findOpenHeaps_30 : decode prog_5_method_5_code 30 = .ok (.getfield 49, 3) := by decide +kernel
theorem d_3_findOpenHeaps_33 : decode prog_5_method_5_code 33 = .ok (.iload_n 1, 1) := by decide +kernel
theorem d_3_findOpenHeaps_34 : decode prog_5_method_5_code 34 = .ok (.invokevirtual 87, 3) := by decide +kernel
theorem d_3_findOpenHeaps_37 : decode prog_5_method_5_code 37 = .ok (.if_icmp .ge 97, 3) := by decide +kernel
theorem d_3_findOpenHeaps_40 : decode prog_5_method_5_code 40 = .ok (.aload_n 0, 1) := by decide +kernel
theorem d_3_findOpenHeaps_41 : decode prog_5_method_5_code 41 = .ok (.getfield 49, 3) := by decide +kernel
theorem d_3_findOpenHeaps_44 : decode prog_5_method_5_code 44 = .ok (.iload_n 1, 1) := by decide +kernel
theorem d_3_findOpenHeaps_45 : decode prog_5_method_5_code 45 = .ok (.iload 4, 2) := by decide +kernel
theorem d_3_findOpenHeaps_47 : decode prog_5_method_5_code 47 = .ok (.invokevirtual 98, 3) := by decide +kernel
theorem d_3_findOpenHeaps_50 : decode prog_5_method_5_code 50 = .ok (.istore 5, 2) := by decide +kernel
theorem d_3_findOpenHeaps_52 : decode prog_5_method_5_code 52 = .ok (.iload 5, 2) := by decide +kernel
theorem d_3_findOpenHeaps_54 : decode prog_5_method_5_code 54 = .ok (.invokestatic 101, 3) := by decide +kernel
theorem d_3_findOpenHeaps_57 : decode prog_5_method_5_code 57 = .ok (.istore 6, 2) := by decide +kernel
theorem d_3_findOpenHeaps_59 : decode prog_5_method_5_code 59 = .ok (.iload 5, 2) := by decide +kernel
theorem d_3_findOpenHeaps_61 : decode prog_5_method_5_code 61 = .ok (.invokestatic 104, 3) := by decide +kernel
theorem d_3_findOpenHeaps_64 : decode prog_5_method_5_code 64 = .ok (.iload_n 2, 1) := by decide +kernel
theorem d_3_findOpenHeaps_65 : decode prog_5_method_5_code 65 = .ok (.if_icmp .ne 63, 3) := by decide +kernel
theorem d_3_findOpenHeaps_68 : decode prog_5_method_5_code 68 = .ok (.iload 6, 2) := by decide +kernel
theorem d_3_findOpenHeaps_70 : decode prog_5_method_5_code 70 = .ok (.iload_n 3, 1) := by decide +kernel
theorem d_3_findOpenHeaps_71 : decode prog_5_method_5_code 71 = .ok (.if_icmp .eq 57, 3) := by decide +kernel
theorem d_3_findOpenHeaps_74 : decode prog_5_method_5_code 74 = .ok (.aload_n 0, 1) := by decide +kernel
theorem d_3_findOpenHeaps_75 : decode prog_5_method_5_code 75 = .ok (.getfield 35, 3) := by decide +kernel
theorem d_3_findOpenHeaps_78 : decode prog_5_method_5_code 78 = .ok (.aload_n 0, 1) := by decide +kernel
theorem d_3_findOpenHeaps_79 : decode prog_5_method_5_code 79 = .ok (.getfield 69, 3) := by decide +kernel
theorem d_3_findOpenHeaps_82 : decode prog_5_method_5_code 82 = .ok (.iload 6, 2) := by decide +kernel
theorem d_3_findOpenHeaps_84 : decode prog_5_method_5_code 84 = .ok (.invokevirtual 107, 3) := by decide +kernel
theorem d_3_findOpenHeaps_87 : decode prog_5_method_5_code 87 = .ok (.aload_n 0, 1) := by decide +kernel
theorem d_3_findOpenHeaps_88 : decode prog_5_method_5_code 88 = .ok (.getfield 38, 3) := by decide +kernel
theorem d_3_findOpenHeaps_91 : decode prog_5_method_5_code 91 = .ok (.aload_n 0, 1) := by decide +kernel
theorem d_3_findOpenHeaps_92 : decode prog_5_method_5_code 92 = .ok (.getfield 69, 3) := by decide +kernel
theorem d_3_findOpenHeaps_95 : decode prog_5_method_5_code 95 = .ok (.aload_n 0, 1) := by decide +kernel
theorem d_3_findOpenHeaps_96 : decode prog_5_method_5_code 96 = .ok (.getfield 49, 3) := by decide +kernel
theorem d_3_findOpenHeaps_99 : decode prog_5_method_5_code 99 = .ok (.aload_n 0, 1) := by decide +kernel
theorem d_3_findOpenHeaps_100 : decode prog_5_method_5_code 100 = .ok (.getfield 49, 3) := by decide +kernel
theorem d_3_findOpenHeaps_103 : decode prog_5_method_5_code 103 = .ok (.iload_n 1, 1) := by decide +kernel
theorem d_3_findOpenHeaps_104 : decode prog_5_method_5_code 104 = .ok (.iload 4, 2) := by decide +kernel
theorem d_3_findOpenHeaps_106 : decode prog_5_method_5_code 106 = .ok (.invokevirtual 111, 3) := by decide +kernel
theorem d_3_findOpenHeaps_109 : decode prog_5_method_5_code 109 = .ok (.invokevirtual 114, 3) := by decide +kernel
theorem d_3_findOpenHeaps_112 : decode prog_5_method_5_code 112 = .ok (.invokevirtual 107, 3) := by decide +kernel
theorem d_3_findOpenHeaps_115 : decode prog_5_method_5_code 115 = .ok (.aload_n 0, 1) := by decide +kernel
theorem d_3_findOpenHeaps_116 : decode prog_5_method_5_code 116 = .ok (.dup, 1) := by decide +kernel
theorem d_3_findOpenHeaps_117 : decode prog_5_method_5_code 117 = .ok (.getfield 69, 3) := by decide +kernel
theorem d_3_findOpenHeaps_120 : decode prog_5_method_5_code 120 = .ok (.iconst 1, 1) := by decide +kernel
theorem d_3_findOpenHeaps_121 : decode prog_5_method_5_code 121 = .ok (.iadd, 1) := by decide +kernel
theorem d_3_findOpenHeaps_122 : decode prog_5_method_5_code 122 = .ok (.putfield 69, 3) := by decide +kernel
theorem d_3_findOpenHeaps_125 : decode prog_5_method_5_code 125 = .ok (.iload 6, 2) := by decide +kernel
theorem d_3_findOpenHeaps_127 : decode prog_5_method_5_code 127 = .ok (.istore_n 3, 1) := by decide +kernel
theorem d_3_findOpenHeaps_128 : decode prog_5_method_5_code 128 = .ok (.iinc 4 1, 3) := by decide +kernel
theorem d_3_findOpenHeaps_131 : decode prog_5_method_5_code 131 = .ok (.goto (-104), 3) := by decide +kernel
theorem d_3_findOpenHeaps_134 : decode prog_5_method_5_code 134 = .ok (.return_, 1) := by decide +kernel
def wb_3_findOpenHeaps_128 (Q : hm_S → hm_T → Prop) (K27 : Int32 → Int32 → Int32 → Int32 → hm_S → hm_T → Prop) (x1 : Int32) (x2 : Int32) (x3 : Int32) (x4 : Int32) (S : hm_S) (T : hm_T) : Prop :=
  K27 x1 x2 x3 (x4 + 1) S T
set_option maxHeartbeats 4000000 in
set_option maxRecDepth 20000 in
theorem bk_3_findOpenHeaps_128 {Q : hm_S → hm_T → Prop} {K27 : Int32 → Int32 → Int32 → Int32 → hm_S → hm_T → Prop} (cx : hm_cx G p s m args c prog_5_method_5_code 7 "HeapGames$Moves") (hr : meth.sig.returnType = none) (hlk : meth.locks = false) (k27 : ∀ (x1 : Int32) (x2 : Int32) (x3 : Int32) (x4 : Int32) (S : hm_S) (T : hm_T) (H : Heap) (locs : List Loc) (ls : Array Slot), K27 x1 x2 x3 x4 S T → hm_w G H0 o 74 shX S T H → hm_L o 74 locs → lv_has ls 7 [(0, .ref (o + 19)), (1, .int x1), (2, .int x2), (3, .int x3), (4, .int x4)] → W p l e rm_3_findOpenHeaps s m args below meth c H locs 0 0 (MQ below (hm_Qv G H0 o 74 shX Q) args s 0 0 (t_fr o (o + 74))) (F0 m 27 ls [])) {x1 : Int32} {x2 : Int32} {x3 : Int32} {x4 : Int32} {S : hm_S} {T : hm_T} {H : Heap} {locs : List Loc} {ls : Array Slot} (h : wb_3_findOpenHeaps_128 Q K27 x1 x2 x3 x4 S T) (hw : hm_w G H0 o 74 shX S T H) (hL : hm_L o 74 locs) (hl : lv_has ls 7 [(0, .ref (o + 19)), (1, .int x1), (2, .int x2), (3, .int x3), (4, .int x4)]) : W p l e rm_3_findOpenHeaps s m args below meth c H locs 0 0 (MQ below (hm_Qv G H0 o 74 shX Q) args s 0 0 (t_fr o (o + 74))) (F0 m 128 ls []) := by
  have hx := cx.1.1
  have hb := cx.1.2.1
  unfold wb_3_findOpenHeaps_128 at h
  refine lv_iinc (v := (x4 + 1)) (lv' := [(4, .int (x4 + 1)), (0, .ref (o + 19)), (1, .int x1), (2, .int x2), (3, .int x3)]) hx hb d_3_findOpenHeaps_128 hl (k := 4) rfl rfl (by decide) rfl (fun ls hl => ?_)
  refine lv_goto (tgt := 27) hx hb d_3_findOpenHeaps_131 (by decide) ?_
  exact k27 _ _ _ _ _ _ _ _ _ h hw hL (lv_sub hl [1, 2, 3, 4, 0] rfl)
def wb_3_findOpenHeaps_27 (Q : hm_S → hm_T → Prop) (K27 : Int32 → Int32 → Int32 → Int32 → hm_S → hm_T → Prop) (x1 : Int32) (x2 : Int32) (x3 : Int32) (x4 : Int32) (S : hm_S) (T : hm_T) : Prop :=
  wp_2_heapsOf x1 S T (fun r2 S2 T2 => (if r2 ≤ x4 then Q S2 T2 else wp_2_kindAt x1 x4 S2 T2 (fun r3 S3 T3 => wp_10_sizeOfKind r3 S3 T3 (fun r4 S4 T4 => wp_10_boundOfKind r3 S4 T4 (fun r5 S5 T5 => (if r5 = x2 then (if r4 = x3 then wb_3_findOpenHeaps_128 Q K27 x1 x2 x3 x4 S5 T5 else wp_5_set 32 10 (S5 19 10) r4 S5 T5 (fun S6 T6 => wp_2_without x1 x4 S6 T6 (fun r7 S7 T7 => wp_2_freedOf r7 S7 T7 (fun r8 S8 T8 => wp_5_set 34 10 (S6 19 10) r8 S8 T8 (fun S9 T9 => wb_3_findOpenHeaps_128 Q K27 x1 x2 r4 x4 (hm_up S9 19 10 ((S9 19 10) + 1)) T9))))) else wb_3_findOpenHeaps_128 Q K27 x1 x2 x3 x4 S5 T5))))))
set_option maxHeartbeats 4000000 in
set_option maxRecDepth 20000 in
theorem bk_3_findOpenHeaps_27 {Q : hm_S → hm_T → Prop} {K27 : Int32 → Int32 → Int32 → Int32 → hm_S → hm_T → Prop} (cx : hm_cx G p s m args c prog_5_method_5_code 7 "HeapGames$Moves") (hr : meth.sig.returnType = none) (hlk : meth.locks = false) (k27 : ∀ (x1 : Int32) (x2 : Int32) (x3 : Int32) (x4 : Int32) (S : hm_S) (T : hm_T) (H : Heap) (locs : List Loc) (ls : Array Slot), K27 x1 x2 x3 x4 S T → hm_w G H0 o 74 shX S T H → hm_L o 74 locs → lv_has ls 7 [(0, .ref (o + 19)), (1, .int x1), (2, .int x2), (3, .int x3), (4, .int x4)] → W p l e rm_3_findOpenHeaps s m args below meth c H locs 0 0 (MQ below (hm_Qv G H0 o 74 shX Q) args s 0 0 (t_fr o (o + 74))) (F0 m 27 ls [])) {x1 : Int32} {x2 : Int32} {x3 : Int32} {x4 : Int32} {S : hm_S} {T : hm_T} {H : Heap} {locs : List Loc} {ls : Array Slot} (h : wb_3_findOpenHeaps_27 Q K27 x1 x2 x3 x4 S T) (hw : hm_w G H0 o 74 shX S T H) (hL : hm_L o 74 locs) (hl : lv_has ls 7 [(0, .ref (o + 19)), (1, .int x1), (2, .int x2), (3, .int x3), (4, .int x4)]) : W p l e rm_3_findOpenHeaps s m args below meth c H locs 0 0 (MQ below (hm_Qv G H0 o 74 shX Q) args s 0 0 (t_fr o (o + 74))) (F0 m 27 ls []) := by
  have hx := cx.1.1
  have hb := cx.1.2.1
  unfold wb_3_findOpenHeaps_27 at h
  refine lv_iload hx hb d_3_findOpenHeaps_27 (lv_at hl 4 rfl) ?_
  refine lv_aload_n hx hb d_3_findOpenHeaps_29 rfl (lv_at hl 0 rfl) ?_
  refine gf_3_49 cx hw (i := 19) (r := 4) (by decide) sx_19 rfl d_3_findOpenHeaps_30 ?_
  refine lv_iload_n hx hb d_3_findOpenHeaps_33 rfl (lv_at hl 1 rfl) ?_
  refine hm_calli (hm_rV (i := 4) (As := [.int x1]) (rest := [.int x4]) cx hw (ct_2_heapsOf (by decide) (fun _ _ _ => rfl) h) (mw_3_87 cx.1.2.2.2.2 ⟨Nat.le_of_ble_eq_true rfl, Nat.le_of_ble_eq_true rfl⟩) (by decide) sx_4 rfl rfl hl.1 rfl (Nat.le_of_ble_eq_true rfl) d_3_findOpenHeaps_34 ⟨Nat.zero_le _, Nat.zero_le _⟩) hL (fun r2 S2 T2 H locs h hw hL => ?_)
  refine lv_icmp_ge (tgt := 134) hx hb d_3_findOpenHeaps_37 (by decide) (fun hc => ?_) (fun hc => ?_)
  · replace h := hm_pos hc h
    exact W.vret hx hb hr (fun t ht _ => ⟨_, _, rfl, h, by rw [ht]; exact hw⟩) hL d_3_findOpenHeaps_134
  · replace h := hm_neg hc h
    refine lv_aload_n hx hb d_3_findOpenHeaps_40 rfl (lv_at hl 0 rfl) ?_
    refine gf_3_49 cx hw (i := 19) (r := 4) (by decide) sx_19 rfl d_3_findOpenHeaps_41 ?_
    refine lv_iload_n hx hb d_3_findOpenHeaps_44 rfl (lv_at hl 1 rfl) ?_
    refine lv_iload hx hb d_3_findOpenHeaps_45 (lv_at hl 4 rfl) ?_
    refine hm_calli (hm_rV (i := 4) (As := [.int x1, .int x4]) (rest := []) cx hw (ct_2_kindAt (by decide) (fun _ _ _ => rfl) h) (mw_3_98 cx.1.2.2.2.2 ⟨Nat.le_of_ble_eq_true rfl, Nat.le_of_ble_eq_true rfl⟩) (by decide) sx_4 rfl rfl hl.1 rfl (Nat.le_of_ble_eq_true rfl) d_3_findOpenHeaps_47 ⟨Nat.zero_le _, Nat.zero_le _⟩) hL (fun r3 S3 T3 H locs h hw hL => ?_)
    refine lv_istore (lv' := [(5, .int r3), (0, .ref (o + 19)), (1, .int x1), (2, .int x2), (3, .int x3), (4, .int x4)]) hx hb d_3_findOpenHeaps_50 hl (by decide) rfl (fun ls hl => ?_)
    refine lv_iload hx hb d_3_findOpenHeaps_52 (lv_at hl 0 rfl) ?_
    refine hm_calli (hm_rN (As := [.int r3]) (rest := []) cx hw (ct_10_sizeOfKind h) (mw_3_101 cx ⟨Nat.le_of_ble_eq_true rfl, Nat.le_of_ble_eq_true rfl⟩) rfl hl.1 rfl (Nat.le_of_ble_eq_true rfl) d_3_findOpenHeaps_54 ⟨Nat.zero_le _, Nat.zero_le _⟩) hL (fun r4 S4 T4 H locs h hw hL => ?_)
    refine lv_istore (lv' := [(6, .int r4), (5, .int r3), (0, .ref (o + 19)), (1, .int x1), (2, .int x2), (3, .int x3), (4, .int x4)]) hx hb d_3_findOpenHeaps_57 hl (by decide) rfl (fun ls hl => ?_)
    refine lv_iload hx hb d_3_findOpenHeaps_59 (lv_at hl 1 rfl) ?_
    refine hm_calli (hm_rN (As := [.int r3]) (rest := []) cx hw (ct_10_boundOfKind h) (mw_3_104 cx ⟨Nat.le_of_ble_eq_true rfl, Nat.le_of_ble_eq_true rfl⟩) rfl hl.1 rfl (Nat.le_of_ble_eq_true rfl) d_3_findOpenHeaps_61 ⟨Nat.zero_le _, Nat.zero_le _⟩) hL (fun r5 S5 T5 H locs h hw hL => ?_)
    refine lv_iload_n hx hb d_3_findOpenHeaps_64 rfl (lv_at hl 4 rfl) ?_
    refine lv_icmp_ne (tgt := 128) hx hb d_3_findOpenHeaps_65 (by decide) (fun hc => ?_) (fun hc => ?_)
    · replace h := hm_neg hc h
      exact bk_3_findOpenHeaps_128 cx hr hlk k27 h hw hL (lv_sub hl [2, 3, 4, 5, 6] rfl)
    · replace h := hm_pos hc h
      refine lv_iload hx hb d_3_findOpenHeaps_68 (lv_at hl 0 rfl) ?_
      refine lv_iload_n hx hb d_3_findOpenHeaps_70 rfl (lv_at hl 5 rfl) ?_
      refine lv_icmp_eq (tgt := 128) hx hb d_3_findOpenHeaps_71 (by decide) (fun hc => ?_) (fun hc => ?_)
      · replace h := hm_pos hc h
        exact bk_3_findOpenHeaps_128 cx hr hlk k27 h hw hL (lv_sub hl [2, 3, 4, 5, 6] rfl)
      · replace h := hm_neg hc h
        refine lv_aload_n hx hb d_3_findOpenHeaps_74 rfl (lv_at hl 2 rfl) ?_
        refine gf_3_35 cx hw (i := 19) (r := 32) (by decide) sx_19 rfl d_3_findOpenHeaps_75 ?_
        refine lv_aload_n hx hb d_3_findOpenHeaps_78 rfl (lv_at hl 2 rfl) ?_
        refine gf_3_69 cx hw (i := 19) (by decide) sx_19 rfl d_3_findOpenHeaps_79 ?_
        refine lv_iload hx hb d_3_findOpenHeaps_82 (lv_at hl 0 rfl) ?_
        refine hm_callv (hm_rV (i := 32) (As := [.int (S5 19 10), .int r4]) (rest := []) cx hw (ct_5_set (by decide) sx_32 sx_33 h) (mw_3_107 cx.1.2.2.2.2 ⟨Nat.le_of_ble_eq_true rfl, Nat.le_of_ble_eq_true rfl⟩) (by decide) sx_32 rfl rfl hl.1 rfl (Nat.le_of_ble_eq_true rfl) d_3_findOpenHeaps_84 ⟨Nat.zero_le _, Nat.zero_le _⟩) hL (fun S6 T6 H locs h hw hL => ?_)
        refine lv_aload_n hx hb d_3_findOpenHeaps_87 rfl (lv_at hl 2 rfl) ?_
        refine gf_3_38 cx hw (i := 19) (r := 34) (by decide) sx_19 rfl d_3_findOpenHeaps_88 ?_
        refine lv_aload_n hx hb d_3_findOpenHeaps_91 rfl (lv_at hl 2 rfl) ?_
        refine gf_3_69 cx hw (i := 19) (by decide) sx_19 rfl d_3_findOpenHeaps_92 ?_
        refine lv_aload_n hx hb d_3_findOpenHeaps_95 rfl (lv_at hl 2 rfl) ?_
        refine gf_3_49 cx hw (i := 19) (r := 4) (by decide) sx_19 rfl d_3_findOpenHeaps_96 ?_
        refine lv_aload_n hx hb d_3_findOpenHeaps_99 rfl (lv_at hl 2 rfl) ?_
        refine gf_3_49 cx hw (i := 19) (r := 4) (by decide) sx_19 rfl d_3_findOpenHeaps_100 ?_
        refine lv_iload_n hx hb d_3_findOpenHeaps_103 rfl (lv_at hl 3 rfl) ?_
        refine lv_iload hx hb d_3_findOpenHeaps_104 (lv_at hl 6 rfl) ?_
        refine hm_calli (hm_rV (i := 4) (As := [.int x1, .int x4]) (rest := [.ref (o + 4), .int (S6 19 10), .ref (o + 34)]) cx hw (ct_2_without (by decide) (fun _ _ _ => rfl) h) (mw_3_111 cx.1.2.2.2.2 ⟨Nat.le_of_ble_eq_true rfl, Nat.le_of_ble_eq_true rfl⟩) (by decide) sx_4 rfl rfl hl.1 rfl (Nat.le_of_ble_eq_true rfl) d_3_findOpenHeaps_106 ⟨Nat.zero_le _, Nat.zero_le _⟩) hL (fun r7 S7 T7 H locs h hw hL => ?_)
        refine hm_calli (hm_rV (i := 4) (As := [.int r7]) (rest := [.int (S6 19 10), .ref (o + 34)]) cx hw (ct_2_freedOf (by decide) (fun _ _ _ => rfl) h) (mw_3_114 cx.1.2.2.2.2 ⟨Nat.le_of_ble_eq_true rfl, Nat.le_of_ble_eq_true rfl⟩) (by decide) sx_4 rfl rfl hl.1 rfl (Nat.le_of_ble_eq_true rfl) d_3_findOpenHeaps_109 ⟨Nat.zero_le _, Nat.zero_le _⟩) hL (fun r8 S8 T8 H locs h hw hL => ?_)
        refine hm_callv (hm_rV (i := 34) (As := [.int (S6 19 10), .int r8]) (rest := []) cx hw (ct_5_set (by decide) sx_34 sx_35 h) (mw_3_107 cx.1.2.2.2.2 ⟨Nat.le_of_ble_eq_true rfl, Nat.le_of_ble_eq_true rfl⟩) (by decide) sx_34 rfl rfl hl.1 rfl (Nat.le_of_ble_eq_true rfl) d_3_findOpenHeaps_112 ⟨Nat.zero_le _, Nat.zero_le _⟩) hL (fun S9 T9 H locs h hw hL => ?_)
        refine lv_aload_n hx hb d_3_findOpenHeaps_115 rfl (lv_at hl 2 rfl) ?_
        refine lv_dup hx hb d_3_findOpenHeaps_116 rfl ?_
        refine gf_3_69 cx hw (i := 19) (by decide) sx_19 rfl d_3_findOpenHeaps_117 ?_
        refine lv_iconst (v := 1) hx hb d_3_findOpenHeaps_120 (by decide) ?_
        refine lv_iadd hx hb d_3_findOpenHeaps_121 ?_
        refine pf_3_69 cx hw (i := 19) (by decide) sx_19 rfl hL d_3_findOpenHeaps_122 (fun H locs hw hL => ?_)
        refine lv_iload hx hb d_3_findOpenHeaps_125 (lv_at hl 0 rfl) ?_
        refine lv_istore_n (lv' := [(3, .int r4), (6, .int r4), (5, .int r3), (0, .ref (o + 19)), (1, .int x1), (2, .int x2), (4, .int x4)]) hx hb d_3_findOpenHeaps_127 rfl hl (by decide) rfl (fun ls hl => ?_)
        exact bk_3_findOpenHeaps_128 cx hr hlk k27 h hw hL (lv_sub hl [3, 4, 5, 0, 6] rfl)
def wl_3_findOpenHeaps_27 (Q : hm_S → hm_T → Prop) : Nat → Int32 → Int32 → Int32 → Int32 → hm_S → hm_T → Prop
  | 0, _, _, _, _, _, _ => False
  | f + 1, x1, x2, x3, x4, S, T => wb_3_findOpenHeaps_27 Q (wl_3_findOpenHeaps_27 Q f) x1 x2 x3 x4 S T
theorem lp_3_findOpenHeaps_27 {Q : hm_S → hm_T → Prop} (cx : hm_cx G p s m args c prog_5_method_5_code 7 "HeapGames$Moves") (hr : meth.sig.returnType = none) (hlk : meth.locks = false) : ∀ (f : Nat) (x1 : Int32) (x2 : Int32) (x3 : Int32) (x4 : Int32) (S : hm_S) (T : hm_T) (H : Heap) (locs : List Loc) (ls : Array Slot), wl_3_findOpenHeaps_27 Q f x1 x2 x3 x4 S T → hm_w G H0 o 74 shX S T H → hm_L o 74 locs → lv_has ls 7 [(0, .ref (o + 19)), (1, .int x1), (2, .int x2), (3, .int x3), (4, .int x4)] → W p l e rm_3_findOpenHeaps s m args below meth c H locs 0 0 (MQ below (hm_Qv G H0 o 74 shX Q) args s 0 0 (t_fr o (o + 74))) (F0 m 27 ls []) := by
  intro f
  induction f with
  | zero => intro x1 x2 x3 x4 S T H locs ls h; exact h.elim
  | succ f ih => intro x1 x2 x3 x4 S T H locs ls h hw hL hl; exact bk_3_findOpenHeaps_27 cx hr hlk ih h hw hL hl
def wb_3_findOpenHeaps_21 (Q : hm_S → hm_T → Prop) (x1 : Int32) (z0 : Int32) (S : hm_S) (T : hm_T) : Prop :=
  ∃ f, wl_3_findOpenHeaps_27 Q f x1 z0 0 0 S T
set_option maxHeartbeats 4000000 in
set_option maxRecDepth 20000 in
theorem bk_3_findOpenHeaps_21 {Q : hm_S → hm_T → Prop} (cx : hm_cx G p s m args c prog_5_method_5_code 7 "HeapGames$Moves") (hr : meth.sig.returnType = none) (hlk : meth.locks = false) {x1 : Int32} {z0 : Int32} {S : hm_S} {T : hm_T} {H : Heap} {locs : List Loc} {ls : Array Slot} (h : wb_3_findOpenHeaps_21 Q x1 z0 S T) (hw : hm_w G H0 o 74 shX S T H) (hL : hm_L o 74 locs) (hl : lv_has ls 7 [(0, .ref (o + 19)), (1, .int x1)]) : W p l e rm_3_findOpenHeaps s m args below meth c H locs 0 0 (MQ below (hm_Qv G H0 o 74 shX Q) args s 0 0 (t_fr o (o + 74))) (F0 m 21 ls [.int z0]) := by
  have hx := cx.1.1
  have hb := cx.1.2.1
  unfold wb_3_findOpenHeaps_21 at h
  refine lv_istore_n (lv' := [(2, .int z0), (0, .ref (o + 19)), (1, .int x1)]) hx hb d_3_findOpenHeaps_21 rfl hl (by decide) rfl (fun ls hl => ?_)
  refine lv_iconst (v := 0) hx hb d_3_findOpenHeaps_22 (by decide) ?_
  refine lv_istore_n (lv' := [(3, .int 0), (2, .int z0), (0, .ref (o + 19)), (1, .int x1)]) hx hb d_3_findOpenHeaps_23 rfl hl (by decide) rfl (fun ls hl => ?_)
  refine lv_iconst (v := 0) hx hb d_3_findOpenHeaps_24 (by decide) ?_
  refine lv_istore (lv' := [(4, .int 0), (3, .int 0), (2, .int z0), (0, .ref (o + 19)), (1, .int x1)]) hx hb d_3_findOpenHeaps_25 hl (by decide) rfl (fun ls hl => ?_)
  obtain ⟨f, h⟩ := h
  exact lp_3_findOpenHeaps_27 cx hr hlk f _ _ _ _ _ _ _ _ _ h hw hL (lv_sub hl [3, 4, 2, 1, 0] rfl)
def wp_3_findOpenHeaps (x1 : Int32) (S : hm_S) (T : hm_T) (Q : hm_S → hm_T → Prop) : Prop :=
  wp_2_boundHeapsOf x1 (hm_up S 19 10 0) T (fun r1 S1 T1 => (if r1 ≤ 0 then wb_3_findOpenHeaps_21 Q x1 0 S1 T1 else wb_3_findOpenHeaps_21 Q x1 1 S1 T1))
set_option maxHeartbeats 4000000 in
set_option maxRecDepth 20000 in
theorem bk_3_findOpenHeaps_0 {Q : hm_S → hm_T → Prop} (cx : hm_cx G p s m args c prog_5_method_5_code 7 "HeapGames$Moves") (hr : meth.sig.returnType = none) (hlk : meth.locks = false) {x1 : Int32} {S : hm_S} {T : hm_T} {H : Heap} {locs : List Loc} {ls : Array Slot} (h : wp_3_findOpenHeaps x1 S T Q) (hw : hm_w G H0 o 74 shX S T H) (hL : hm_L o 74 locs) (hl : lv_has ls 7 [(0, .ref (o + 19)), (1, .int x1)]) : W p l e rm_3_findOpenHeaps s m args below meth c H locs 0 0 (MQ below (hm_Qv G H0 o 74 shX Q) args s 0 0 (t_fr o (o + 74))) (F0 m 0 ls []) := by
  have hx := cx.1.1
  have hb := cx.1.2.1
  unfold wp_3_findOpenHeaps at h
  refine lv_aload_n hx hb d_3_findOpenHeaps_0 rfl (lv_at hl 0 rfl) ?_
  refine lv_iconst (v := 0) hx hb d_3_findOpenHeaps_1 (by decide) ?_
  refine pf_3_69 cx hw (i := 19) (by decide) sx_19 rfl hL d_3_findOpenHeaps_2 (fun H locs hw hL => ?_)
  refine lv_aload_n hx hb d_3_findOpenHeaps_5 rfl (lv_at hl 0 rfl) ?_
  refine gf_3_49 cx hw (i := 19) (r := 4) (by decide) sx_19 rfl d_3_findOpenHeaps_6 ?_
  refine lv_iload_n hx hb d_3_findOpenHeaps_9 rfl (lv_at hl 1 rfl) ?_
  refine hm_calli (hm_rV (i := 4) (As := [.int x1]) (rest := []) cx hw (ct_2_boundHeapsOf (by decide) (fun _ _ _ => rfl) h) (mw_3_84 cx.1.2.2.2.2 ⟨Nat.le_of_ble_eq_true rfl, Nat.le_of_ble_eq_true rfl⟩) (by decide) sx_4 rfl rfl hl.1 rfl (Nat.le_of_ble_eq_true rfl) d_3_findOpenHeaps_10 ⟨Nat.zero_le _, Nat.zero_le _⟩) hL (fun r1 S1 T1 H locs h hw hL => ?_)
  refine lv_if_le (tgt := 20) hx hb d_3_findOpenHeaps_13 (by decide) (fun hc => ?_) (fun hc => ?_)
  · replace h := hm_pos hc h
    refine lv_iconst (v := 0) hx hb d_3_findOpenHeaps_20 (by decide) ?_
    exact bk_3_findOpenHeaps_21 cx hr hlk h hw hL (lv_sub hl [0, 1] rfl)
  · replace h := hm_neg hc h
    refine lv_iconst (v := 1) hx hb d_3_findOpenHeaps_16 (by decide) ?_
    refine lv_goto (tgt := 21) hx hb d_3_findOpenHeaps_17 (by decide) ?_
    exact bk_3_findOpenHeaps_21 cx hr hlk h hw hL (lv_sub hl [0, 1] rfl)
set_option maxHeartbeats 4000000 in
set_option maxRecDepth 20000 in
theorem ct_3_findOpenHeaps {x1 : Int32} {S : hm_S} {T : hm_T} {Q : hm_S → hm_T → Prop} (h : wp_3_findOpenHeaps x1 S T Q) : hm_M l G H0 o 74 shX y_3_findOpenHeaps prog_5_method_5_code 7 (none) rm_3_findOpenHeaps S T [.ref (o + 19), .int x1] (hm_Qv G H0 o 74 shX Q) := by
  refine Met.ofW (cc := prog_5_method_5_code) (maxL := 7) (ret := none) (by decide) rfl ?_
  intro p e s m args below meth c s₁ B hml hv
  obtain ⟨rfl, hK, hw⟩ := hv
  have cx : hm_cx G p s m _ c prog_5_method_5_code 7 "HeapGames$Moves" := ⟨⟨B.exec, B.bytes, hml, findClass_of_methodNamed B.named, fun w hq => atoms_spec (ws := hm_ws y_3_findOpenHeaps prog_5_method_5_code 7 (none)) B.pre w (List.mem_cons_of_mem _ hq)⟩, hK⟩
  have hl := lv_entry ([.ref (o + 19), .int x1]) (n := 7) (Nat.le_of_ble_eq_true rfl)
  rw [lg_entry_eq]
  generalize (lg_sl ([.ref (o + 19), .int x1]) ++ List.replicate (7 - (lg_sl ([.ref (o + 19), .int x1])).length) Slot.unset).toArray = ls at hl ⊢
  have hl : lv_has ls 7 [(0, .ref (o + 19)), (1, .int x1)] := hl
  exact bk_3_findOpenHeaps_0 cx B.returns B.notSynchronized h hw (hm_L0 _ _) hl
/-! ===== HeapGames$Moves.restWith(IIII)I ===== -/
theorem d_3_restWith_0 : decode prog_5_method_8_code 0 = .ok (.iload_n 1, 1) := by decide +kernel
theorem d_3_restWith_1 : decode prog_5_method_8_code 1 = .ok (.istore 5, 2) := by decide +kernel
theorem d_3_restWith_3 : decode prog_5_method_8_code 3 = .ok (.iload_n 2, 1) := by decide +kernel
theorem d_3_restWith_4 : decode prog_5_method_8_code 4 = .ok (.ifCond .le 20, 3) := by decide +kernel
theorem d_3_restWith_7 : decode prog_5_method_8_code 7 = .ok (.aload_n 0, 1) := by decide +kernel
theorem d_3_restWith_8 : decode prog_5_method_8_code 8 = .ok (.getfield 49, 3) := by decide +kernel
theorem d_3_restWith_11 : decode prog_5_method_8_code 11 = .ok (.iload 5, 2) := by decide +kernel
theorem d_3_restWith_13 : decode prog_5_method_8_code 13 = .ok (.iload_n 2, 1) := by decide +kernel
theorem d_3_restWith_14 : decode prog_5_method_8_code 14 = .ok (.iload 4, 2) := by decide +kernel
theorem d_3_restWith_16 : decode prog_5_method_8_code 16 = .ok (.invokestatic 134, 3) := by decide +kernel
theorem d_3_restWith_19 : decode prog_5_method_8_code 19 = .ok (.invokevirtual 137, 3) := by decide +kernel
theorem d_3_restWith_22 : decode prog_5_method_8_code 22 = .ok (.istore 5, 2) := by decide +kernel
theorem d_3_restWith_24 : decode prog_5_method_8_code 24 = .ok (.iload_n 3, 1) := by decide +kernel
theorem d_3_restWith_25 : decode prog_5_method_8_code 25 = .ok (.ifCond .le 20, 3) := by decide +kernel
theorem d_3_restWith_28 : decode prog_5_method_8_code 28 = .ok (.aload_n 0, 1) := by decide +kernel
theorem d_3_restWith_29 : decode prog_5_method_8_code 29 = .ok (.getfield 49, 3) := by decide +kernel
theorem d_3_restWith_32 : decode prog_5_method_8_code 32 = .ok (.iload 5, 2) := by decide +kernel
theorem d_3_restWith_34 : decode prog_5_method_8_code 34 = .ok (.iload_n 3, 1) := by decide +kernel
theorem d_3_restWith_35 : decode prog_5_method_8_code 35 = .ok (.iload 4, 2) := by decide +kernel
theorem d_3_restWith_37 : decode prog_5_method_8_code 37 = .ok (.invokestatic 134, 3) := by decide +kernel
theorem d_3_restWith_40 : decode prog_5_method_8_code 40 = .ok (.invokevirtual 137, 3) := by decide +kernel
theorem d_3_restWith_43 : decode prog_5_method_8_code 43 = .ok (.istore 5, 2) := by decide +kernel
theorem d_3_restWith_45 : decode prog_5_method_8_code 45 = .ok (.iload 5, 2) := by decide +kernel
theorem d_3_restWith_47 : decode prog_5_method_8_code 47 = .ok (.ireturn, 1) := by decide +kernel
def wb_3_restWith_24 (Q : Int32 → hm_S → hm_T → Prop) (x3 : Int32) (x4 : Int32) (x5 : Int32) (S : hm_S) (T : hm_T) : Prop :=
  (if x3 ≤ 0 then Q x5 S T else wp_10_kindOfHeap x3 x4 S T (fun r1 S1 T1 => wp_2_join x5 r1 S1 T1 (fun r2 S2 T2 => Q r2 S2 T2)))
set_option maxHeartbeats 4000000 in
set_option maxRecDepth 20000 in
theorem bk_3_restWith_24 {Q : Int32 → hm_S → hm_T → Prop} (cx : hm_cx G p s m args c prog_5_method_8_code 6 "HeapGames$Moves") (hr : meth.sig.returnType = some .int) (hlk : meth.locks = false) {x3 : Int32} {x4 : Int32} {x5 : Int32} {S : hm_S} {T : hm_T} {H : Heap} {locs : List Loc} {ls : Array Slot} (h : wb_3_restWith_24 Q x3 x4 x5 S T) (hw : hm_w G H0 o 74 shX S T H) (hL : hm_L o 74 locs) (hl : lv_has ls 6 [(0, .ref (o + 19)), (3, .int x3), (4, .int x4), (5, .int x5)]) : W p l e rm_3_restWith s m args below meth c H locs 0 0 (MQ below (hm_Qi G H0 o 74 shX Q) args s 0 0 (t_fr o (o + 74))) (F0 m 24 ls []) := by
  have hx := cx.1.1
  have hb := cx.1.2.1
  unfold wb_3_restWith_24 at h
  refine lv_iload_n hx hb d_3_restWith_24 rfl (lv_at hl 1 rfl) ?_
  refine lv_if_le (tgt := 45) hx hb d_3_restWith_25 (by decide) (fun hc => ?_) (fun hc => ?_)
  · replace h := hm_pos hc h
    refine lv_iload hx hb d_3_restWith_45 (lv_at hl 3 rfl) ?_
    exact W.iret hx hb hr (fun t ht _ => ⟨_, _, _, rfl, h, by rw [ht]; exact hw⟩) hL d_3_restWith_47
  · replace h := hm_neg hc h
    refine lv_aload_n hx hb d_3_restWith_28 rfl (lv_at hl 0 rfl) ?_
    refine gf_3_49 cx hw (i := 19) (r := 4) (by decide) sx_19 rfl d_3_restWith_29 ?_
    refine lv_iload hx hb d_3_restWith_32 (lv_at hl 3 rfl) ?_
    refine lv_iload_n hx hb d_3_restWith_34 rfl (lv_at hl 1 rfl) ?_
    refine lv_iload hx hb d_3_restWith_35 (lv_at hl 2 rfl) ?_
    refine hm_calli (hm_rN (As := [.int x3, .int x4]) (rest := [.int x5, .ref (o + 4)]) cx hw (ct_10_kindOfHeap h) (mw_3_134 cx ⟨Nat.le_of_ble_eq_true rfl, Nat.le_of_ble_eq_true rfl⟩) rfl hl.1 rfl (Nat.le_of_ble_eq_true rfl) d_3_restWith_37 ⟨Nat.zero_le _, Nat.zero_le _⟩) hL (fun r1 S1 T1 H locs h hw hL => ?_)
    refine hm_calli (hm_rV (i := 4) (As := [.int x5, .int r1]) (rest := []) cx hw (ct_2_join (by decide) (fun _ _ _ => rfl) h) (mw_3_137 cx.1.2.2.2.2 ⟨Nat.le_of_ble_eq_true rfl, Nat.le_of_ble_eq_true rfl⟩) (by decide) sx_4 rfl rfl hl.1 rfl (Nat.le_of_ble_eq_true rfl) d_3_restWith_40 ⟨Nat.zero_le _, Nat.zero_le _⟩) hL (fun r2 S2 T2 H locs h hw hL => ?_)
    refine lv_istore (lv' := [(5, .int r2), (0, .ref (o + 19)), (3, .int x3), (4, .int x4)]) hx hb d_3_restWith_43 hl (by decide) rfl (fun ls hl => ?_)
    refine lv_iload hx hb d_3_restWith_45 (lv_at hl 0 rfl) ?_
    exact W.iret hx hb hr (fun t ht _ => ⟨_, _, _, rfl, h, by rw [ht]; exact hw⟩) hL d_3_restWith_47
def wp_3_restWith (x1 : Int32) (x2 : Int32) (x3 : Int32) (x4 : Int32) (S : hm_S) (T : hm_T) (Q : Int32 → hm_S → hm_T → Prop) : Prop :=
  (if x2 ≤ 0 then wb_3_restWith_24 Q x3 x4 x1 S T else wp_10_kindOfHeap x2 x4 S T (fun r3 S3 T3 => wp_2_join x1 r3 S3 T3 (fun r4 S4 T4 => wb_3_restWith_24 Q x3 x4 r4 S4 T4)))
set_option maxHeartbeats 4000000 in
set_option maxRecDepth 20000 in
theorem bk_3_restWith_0 {Q : Int32 → hm_S → hm_T → Prop} (cx : hm_cx G p s m args c prog_5_method_8_code 6 "HeapGames$Moves") (hr : meth.sig.returnType = some .int) (hlk : meth.locks = false) {x1 : Int32} {x2 : Int32} {x3 : Int32} {x4 : Int32} {S : hm_S} {T : hm_T} {H : Heap} {locs : List Loc} {ls : Array Slot} (h : wp_3_restWith x1 x2 x3 x4 S T Q) (hw : hm_w G H0 o 74 shX S T H) (hL : hm_L o 74 locs) (hl : lv_has ls 6 [(0, .ref (o + 19)), (1, .int x1), (2, .int x2), (3, .int x3), (4, .int x4)]) : W p l e rm_3_restWith s m args below meth c H locs 0 0 (MQ below (hm_Qi G H0 o 74 shX Q) args s 0 0 (t_fr o (o + 74))) (F0 m 0 ls []) := by
  have hx := cx.1.1
  have hb := cx.1.2.1
  unfold wp_3_restWith at h
  refine lv_iload_n hx hb d_3_restWith_0 rfl (lv_at hl 1 rfl) ?_
  refine lv_istore (lv' := [(5, .int x1), (0, .ref (o + 19)), (1, .int x1), (2, .int x2), (3, .int x3), (4, .int x4)]) hx hb d_3_restWith_1 hl (by decide) rfl (fun ls hl => ?_)
  refine lv_iload_n hx hb d_3_restWith_3 rfl (lv_at hl 3 rfl) ?_
  refine lv_if_le (tgt := 24) hx hb d_3_restWith_4 (by decide) (fun hc => ?_) (fun hc => ?_)
  · replace h := hm_pos hc h
    exact bk_3_restWith_24 cx hr hlk h hw hL (lv_sub hl [1, 4, 5, 0] rfl)
  · replace h := hm_neg hc h
    refine lv_aload_n hx hb d_3_restWith_7 rfl (lv_at hl 1 rfl) ?_
    refine gf_3_49 cx hw (i := 19) (r := 4) (by decide) sx_19 rfl d_3_restWith_8 ?_
    refine lv_iload hx hb d_3_restWith_11 (lv_at hl 0 rfl) ?_
    refine lv_iload_n hx hb d_3_restWith_13 rfl (lv_at hl 3 rfl) ?_
    refine lv_iload hx hb d_3_restWith_14 (lv_at hl 5 rfl) ?_
    refine hm_calli (hm_rN (As := [.int x2, .int x4]) (rest := [.int x1, .ref (o + 4)]) cx hw (ct_10_kindOfHeap h) (mw_3_134 cx ⟨Nat.le_of_ble_eq_true rfl, Nat.le_of_ble_eq_true rfl⟩) rfl hl.1 rfl (Nat.le_of_ble_eq_true rfl) d_3_restWith_16 ⟨Nat.zero_le _, Nat.zero_le _⟩) hL (fun r3 S3 T3 H locs h hw hL => ?_)
    refine hm_calli (hm_rV (i := 4) (As := [.int x1, .int r3]) (rest := []) cx hw (ct_2_join (by decide) (fun _ _ _ => rfl) h) (mw_3_137 cx.1.2.2.2.2 ⟨Nat.le_of_ble_eq_true rfl, Nat.le_of_ble_eq_true rfl⟩) (by decide) sx_4 rfl rfl hl.1 rfl (Nat.le_of_ble_eq_true rfl) d_3_restWith_19 ⟨Nat.zero_le _, Nat.zero_le _⟩) hL (fun r4 S4 T4 H locs h hw hL => ?_)
    refine lv_istore (lv' := [(5, .int r4), (0, .ref (o + 19)), (1, .int x1), (2, .int x2), (3, .int x3), (4, .int x4)]) hx hb d_3_restWith_22 hl (by decide) rfl (fun ls hl => ?_)
    exact bk_3_restWith_24 cx hr hlk h hw hL (lv_sub hl [1, 4, 5, 0] rfl)
set_option maxHeartbeats 4000000 in
set_option maxRecDepth 20000 in
theorem ct_3_restWith {x1 : Int32} {x2 : Int32} {x3 : Int32} {x4 : Int32} {S : hm_S} {T : hm_T} {Q : Int32 → hm_S → hm_T → Prop} (h : wp_3_restWith x1 x2 x3 x4 S T Q) : hm_M l G H0 o 74 shX y_3_restWith prog_5_method_8_code 6 (some .int) rm_3_restWith S T [.ref (o + 19), .int x1, .int x2, .int x3, .int x4] (hm_Qi G H0 o 74 shX Q) := by
  refine Met.ofW (cc := prog_5_method_8_code) (maxL := 6) (ret := some .int) (by decide) rfl ?_
  intro p e s m args below meth c s₁ B hml hv
  obtain ⟨rfl, hK, hw⟩ := hv
  have cx : hm_cx G p s m _ c prog_5_method_8_code 6 "HeapGames$Moves" := ⟨⟨B.exec, B.bytes, hml, findClass_of_methodNamed B.named, fun w hq => atoms_spec (ws := hm_ws y_3_restWith prog_5_method_8_code 6 (some .int)) B.pre w (List.mem_cons_of_mem _ hq)⟩, hK⟩
  have hl := lv_entry ([.ref (o + 19), .int x1, .int x2, .int x3, .int x4]) (n := 6) (Nat.le_of_ble_eq_true rfl)
  rw [lg_entry_eq]
  generalize (lg_sl ([.ref (o + 19), .int x1, .int x2, .int x3, .int x4]) ++ List.replicate (6 - (lg_sl ([.ref (o + 19), .int x1, .int x2, .int x3, .int x4])).length) Slot.unset).toArray = ls at hl ⊢
  have hl : lv_has ls 6 [(0, .ref (o + 19)), (1, .int x1), (2, .int x2), (3, .int x3), (4, .int x4)] := hl
  exact bk_3_restWith_0 cx B.returns B.notSynchronized h hw (hm_L0 _ _) hl
/-! ===== HeapGames$Moves.add(IIIIII)V ===== -/
theorem d_3_add_0 : decode prog_5_method_9_code 0 = .ok (.aload_n 0, 1) := by decide +kernel
theorem d_3_add_1 : decode prog_5_method_9_code 1 = .ok (.getfield 14, 3) := by decide +kernel
theorem d_3_add_4 : decode prog_5_method_9_code 4 = .ok (.aload_n 0, 1) := by decide +kernel
theorem d_3_add_5 : decode prog_5_method_9_code 5 = .ok (.getfield 57, 3) := by decide +kernel
theorem d_3_add_8 : decode prog_5_method_9_code 8 = .ok (.iload_n 1, 1) := by decide +kernel
theorem d_3_add_9 : decode prog_5_method_9_code 9 = .ok (.invokevirtual 107, 3) := by decide +kernel
theorem d_3_add_12 : decode prog_5_method_9_code 12 = .ok (.aload_n 0, 1) := by decide +kernel
theorem d_3_add_13 : decode prog_5_method_9_code 13 = .ok (.getfield 20, 3) := by decide +kernel
theorem d_3_add_16 : decode prog_5_method_9_code 16 = .ok (.aload_n 0, 1) := by decide +kernel
theorem d_3_add_17 : decode prog_5_method_9_code 17 = .ok (.getfield 57, 3) := by decide +kernel
theorem d_3_add_20 : decode prog_5_method_9_code 20 = .ok (.iload_n 2, 1) := by decide +kernel
theorem d_3_add_21 : decode prog_5_method_9_code 21 = .ok (.invokevirtual 107, 3) := by decide +kernel
theorem d_3_add_24 : decode prog_5_method_9_code 24 = .ok (.aload_n 0, 1) := by decide +kernel
theorem d_3_add_25 : decode prog_5_method_9_code 25 = .ok (.getfield 23, 3) := by decide +kernel
theorem d_3_add_28 : decode prog_5_method_9_code 28 = .ok (.aload_n 0, 1) := by decide +kernel
theorem d_3_add_29 : decode prog_5_method_9_code 29 = .ok (.getfield 57, 3) := by decide +kernel
theorem d_3_add_32 : decode prog_5_method_9_code 32 = .ok (.iload_n 3, 1) := by decide +kernel
theorem d_3_add_33 : decode prog_5_method_9_code 33 = .ok (.invokevirtual 107, 3) := by decide +kernel
theorem d_3_add_36 : decode prog_5_method_9_code 36 = .ok (.aload_n 0, 1) := by decide +kernel
theorem d_3_add_37 : decode prog_5_method_9_code 37 = .ok (.getfield 26, 3) := by decide +kernel
theorem d_3_add_40 : decode prog_5_method_9_code 40 = .ok (.aload_n 0, 1) := by decide +kernel
theorem d_3_add_41 : decode prog_5_method_9_code 41 = .ok (.getfield 57, 3) := by decide +kernel
theorem d_3_add_44 : decode prog_5_method_9_code 44 = .ok (.iload 4, 2) := by decide +kernel
theorem d_3_add_46 : decode prog_5_method_9_code 46 = .ok (.invokevirtual 107, 3) := by decide +kernel
theorem d_3_add_49 : decode prog_5_method_9_code 49 = .ok (.aload_n 0, 1) := by decide +kernel
theorem d_3_add_50 : decode prog_5_method_9_code 50 = .ok (.getfield 29, 3) := by decide +kernel
theorem d_3_add_53 : decode prog_5_method_9_code 53 = .ok (.aload_n 0, 1) := by decide +kernel
theorem d_3_add_54 : decode prog_5_method_9_code 54 = .ok (.getfield 57, 3) := by decide +kernel
theorem d_3_add_57 : decode prog_5_method_9_code 57 = .ok (.iload 5, 2) := by decide +kernel
theorem d_3_add_59 : decode prog_5_method_9_code 59 = .ok (.invokevirtual 107, 3) := by decide +kernel
theorem d_3_add_62 : decode prog_5_method_9_code 62 = .ok (.aload_n 0, 1) := by decide +kernel
theorem d_3_add_63 : decode prog_5_method_9_code 63 = .ok (.getfield 32, 3) := by decide +kernel
theorem d_3_add_66 : decode prog_5_method_9_code 66 = .ok (.aload_n 0, 1) := by decide +kernel
theorem d_3_add_67 : decode prog_5_method_9_code 67 = .ok (.getfield 57, 3) := by decide +kernel
theorem d_3_add_70 : decode prog_5_method_9_code 70 = .ok (.iload 6, 2) := by decide +kernel
theorem d_3_add_72 : decode prog_5_method_9_code 72 = .ok (.invokevirtual 107, 3) := by decide +kernel
theorem d_3_add_75 : decode prog_5_method_9_code 75 = .ok (.aload_n 0, 1) := by decide +kernel
theorem d_3_add_76 : decode prog_5_method_9_code 76 = .ok (.dup, 1) := by decide +kernel
theorem d_3_add_77 : decode prog_5_method_9_code 77 = .ok (.getfield 57, 3) := by decide +kernel
theorem d_3_add_80 : decode prog_5_method_9_code 80 = .ok (.iconst 1, 1) := by decide +kernel
theorem d_3_add_81 : decode prog_5_method_9_code 81 = .ok (.iadd, 1) := by decide +kernel
theorem d_3_add_82 : decode prog_5_method_9_code 82 = .ok (.putfield 57, 3) := by decide +kernel
theorem d_3_add_85 : decode prog_5_method_9_code 85 = .ok (.return_, 1) := by decide +kernel
def wp_3_add (x1 : Int32) (x2 : Int32) (x3 : Int32) (x4 : Int32) (x5 : Int32) (x6 : Int32) (S : hm_S) (T : hm_T) (Q : hm_S → hm_T → Prop) : Prop :=
  wp_5_set 20 31 (S 19 11) x1 S T (fun S1 T1 => wp_5_set 22 31 (S1 19 11) x2 S1 T1 (fun S2 T2 => wp_5_set 24 31 (S2 19 11) x3 S2 T2 (fun S3 T3 => wp_5_set 26 31 (S3 19 11) x4 S3 T3 (fun S4 T4 => wp_5_set 28 31 (S4 19 11) x5 S4 T4 (fun S5 T5 => wp_5_set 30 31 (S5 19 11) x6 S5 T5 (fun S6 T6 => Q (hm_up S6 19 11 ((S6 19 11) + 1)) T6))))))
set_option maxHeartbeats 4000000 in
set_option maxRecDepth 20000 in
theorem bk_3_add_0 {Q : hm_S → hm_T → Prop} (cx : hm_cx G p s m args c prog_5_method_9_code 7 "HeapGames$Moves") (hr : meth.sig.returnType = none) (hlk : meth.locks = false) {x1 : Int32} {x2 : Int32} {x3 : Int32} {x4 : Int32} {x5 : Int32} {x6 : Int32} {S : hm_S} {T : hm_T} {H : Heap} {locs : List Loc} {ls : Array Slot} (h : wp_3_add x1 x2 x3 x4 x5 x6 S T Q) (hw : hm_w G H0 o 74 shX S T H) (hL : hm_L o 74 locs) (hl : lv_has ls 7 [(0, .ref (o + 19)), (1, .int x1), (2, .int x2), (3, .int x3), (4, .int x4), (5, .int x5), (6, .int x6)]) : W p l e rm_3_add s m args below meth c H locs 0 0 (MQ below (hm_Qv G H0 o 74 shX Q) args s 0 0 (t_fr o (o + 74))) (F0 m 0 ls []) := by
  have hx := cx.1.1
  have hb := cx.1.2.1
  unfold wp_3_add at h
  refine lv_aload_n hx hb d_3_add_0 rfl (lv_at hl 0 rfl) ?_
  refine gf_3_14 cx hw (i := 19) (r := 20) (by decide) sx_19 rfl d_3_add_1 ?_
  refine lv_aload_n hx hb d_3_add_4 rfl (lv_at hl 0 rfl) ?_
  refine gf_3_57 cx hw (i := 19) (by decide) sx_19 rfl d_3_add_5 ?_
  refine lv_iload_n hx hb d_3_add_8 rfl (lv_at hl 1 rfl) ?_
  refine hm_callv (hm_rV (i := 20) (As := [.int (S 19 11), .int x1]) (rest := []) cx hw (ct_5_set (by decide) sx_20 sx_21 h) (mw_3_107 cx.1.2.2.2.2 ⟨Nat.le_of_ble_eq_true rfl, Nat.le_of_ble_eq_true rfl⟩) (by decide) sx_20 rfl rfl hl.1 rfl (Nat.le_of_ble_eq_true rfl) d_3_add_9 ⟨Nat.zero_le _, Nat.zero_le _⟩) hL (fun S1 T1 H locs h hw hL => ?_)
  refine lv_aload_n hx hb d_3_add_12 rfl (lv_at hl 0 rfl) ?_
  refine gf_3_20 cx hw (i := 19) (r := 22) (by decide) sx_19 rfl d_3_add_13 ?_
  refine lv_aload_n hx hb d_3_add_16 rfl (lv_at hl 0 rfl) ?_
  refine gf_3_57 cx hw (i := 19) (by decide) sx_19 rfl d_3_add_17 ?_
  refine lv_iload_n hx hb d_3_add_20 rfl (lv_at hl 2 rfl) ?_
  refine hm_callv (hm_rV (i := 22) (As := [.int (S1 19 11), .int x2]) (rest := []) cx hw (ct_5_set (by decide) sx_22 sx_23 h) (mw_3_107 cx.1.2.2.2.2 ⟨Nat.le_of_ble_eq_true rfl, Nat.le_of_ble_eq_true rfl⟩) (by decide) sx_22 rfl rfl hl.1 rfl (Nat.le_of_ble_eq_true rfl) d_3_add_21 ⟨Nat.zero_le _, Nat.zero_le _⟩) hL (fun S2 T2 H locs h hw hL => ?_)
  refine lv_aload_n hx hb d_3_add_24 rfl (lv_at hl 0 rfl) ?_
  refine gf_3_23 cx hw (i := 19) (r := 24) (by decide) sx_19 rfl d_3_add_25 ?_
  refine lv_aload_n hx hb d_3_add_28 rfl (lv_at hl 0 rfl) ?_
  refine gf_3_57 cx hw (i := 19) (by decide) sx_19 rfl d_3_add_29 ?_
  refine lv_iload_n hx hb d_3_add_32 rfl (lv_at hl 3 rfl) ?_
  refine hm_callv (hm_rV (i := 24) (As := [.int (S2 19 11), .int x3]) (rest := []) cx hw (ct_5_set (by decide) sx_24 sx_25 h) (mw_3_107 cx.1.2.2.2.2 ⟨Nat.le_of_ble_eq_true rfl, Nat.le_of_ble_eq_true rfl⟩) (by decide) sx_24 rfl rfl hl.1 rfl (Nat.le_of_ble_eq_true rfl) d_3_add_33 ⟨Nat.zero_le _, Nat.zero_le _⟩) hL (fun S3 T3 H locs h hw hL => ?_)
  refine lv_aload_n hx hb d_3_add_36 rfl (lv_at hl 0 rfl) ?_
  refine gf_3_26 cx hw (i := 19) (r := 26) (by decide) sx_19 rfl d_3_add_37 ?_
  refine lv_aload_n hx hb d_3_add_40 rfl (lv_at hl 0 rfl) ?_
  refine gf_3_57 cx hw (i := 19) (by decide) sx_19 rfl d_3_add_41 ?_
  refine lv_iload hx hb d_3_add_44 (lv_at hl 4 rfl) ?_
  refine hm_callv (hm_rV (i := 26) (As := [.int (S3 19 11), .int x4]) (rest := []) cx hw (ct_5_set (by decide) sx_26 sx_27 h) (mw_3_107 cx.1.2.2.2.2 ⟨Nat.le_of_ble_eq_true rfl, Nat.le_of_ble_eq_true rfl⟩) (by decide) sx_26 rfl rfl hl.1 rfl (Nat.le_of_ble_eq_true rfl) d_3_add_46 ⟨Nat.zero_le _, Nat.zero_le _⟩) hL (fun S4 T4 H locs h hw hL => ?_)
  refine lv_aload_n hx hb d_3_add_49 rfl (lv_at hl 0 rfl) ?_
  refine gf_3_29 cx hw (i := 19) (r := 28) (by decide) sx_19 rfl d_3_add_50 ?_
  refine lv_aload_n hx hb d_3_add_53 rfl (lv_at hl 0 rfl) ?_
  refine gf_3_57 cx hw (i := 19) (by decide) sx_19 rfl d_3_add_54 ?_
  refine lv_iload hx hb d_3_add_57 (lv_at hl 5 rfl) ?_
  refine hm_callv (hm_rV (i := 28) (As := [.int (S4 19 11), .int x5]) (rest := []) cx hw (ct_5_set (by decide) sx_28 sx_29 h) (mw_3_107 cx.1.2.2.2.2 ⟨Nat.le_of_ble_eq_true rfl, Nat.le_of_ble_eq_true rfl⟩) (by decide) sx_28 rfl rfl hl.1 rfl (Nat.le_of_ble_eq_true rfl) d_3_add_59 ⟨Nat.zero_le _, Nat.zero_le _⟩) hL (fun S5 T5 H locs h hw hL => ?_)
  refine lv_aload_n hx hb d_3_add_62 rfl (lv_at hl 0 rfl) ?_
  refine gf_3_32 cx hw (i := 19) (r := 30) (by decide) sx_19 rfl d_3_add_63 ?_
  refine lv_aload_n hx hb d_3_add_66 rfl (lv_at hl 0 rfl) ?_
  refine gf_3_57 cx hw (i := 19) (by decide) sx_19 rfl d_3_add_67 ?_
  refine lv_iload hx hb d_3_add_70 (lv_at hl 6 rfl) ?_
  refine hm_callv (hm_rV (i := 30) (As := [.int (S5 19 11), .int x6]) (rest := []) cx hw (ct_5_set (by decide) sx_30 sx_31 h) (mw_3_107 cx.1.2.2.2.2 ⟨Nat.le_of_ble_eq_true rfl, Nat.le_of_ble_eq_true rfl⟩) (by decide) sx_30 rfl rfl hl.1 rfl (Nat.le_of_ble_eq_true rfl) d_3_add_72 ⟨Nat.zero_le _, Nat.zero_le _⟩) hL (fun S6 T6 H locs h hw hL => ?_)
  refine lv_aload_n hx hb d_3_add_75 rfl (lv_at hl 0 rfl) ?_
  refine lv_dup hx hb d_3_add_76 rfl ?_
  refine gf_3_57 cx hw (i := 19) (by decide) sx_19 rfl d_3_add_77 ?_
  refine lv_iconst (v := 1) hx hb d_3_add_80 (by decide) ?_
  refine lv_iadd hx hb d_3_add_81 ?_
  refine pf_3_57 cx hw (i := 19) (by decide) sx_19 rfl hL d_3_add_82 (fun H locs hw hL => ?_)
  exact W.vret hx hb hr (fun t ht _ => ⟨_, _, rfl, h, by rw [ht]; exact hw⟩) hL d_3_add_85
set_option maxHeartbeats 4000000 in
set_option maxRecDepth 20000 in
theorem ct_3_add {x1 : Int32} {x2 : Int32} {x3 : Int32} {x4 : Int32} {x5 : Int32} {x6 : Int32} {S : hm_S} {T : hm_T} {Q : hm_S → hm_T → Prop} (h : wp_3_add x1 x2 x3 x4 x5 x6 S T Q) : hm_M l G H0 o 74 shX y_3_add prog_5_method_9_code 7 (none) rm_3_add S T [.ref (o + 19), .int x1, .int x2, .int x3, .int x4, .int x5, .int x6] (hm_Qv G H0 o 74 shX Q) := by
  refine Met.ofW (cc := prog_5_method_9_code) (maxL := 7) (ret := none) (by decide) rfl ?_
  intro p e s m args below meth c s₁ B hml hv
  obtain ⟨rfl, hK, hw⟩ := hv
  have cx : hm_cx G p s m _ c prog_5_method_9_code 7 "HeapGames$Moves" := ⟨⟨B.exec, B.bytes, hml, findClass_of_methodNamed B.named, fun w hq => atoms_spec (ws := hm_ws y_3_add prog_5_method_9_code 7 (none)) B.pre w (List.mem_cons_of_mem _ hq)⟩, hK⟩
  have hl := lv_entry ([.ref (o + 19), .int x1, .int x2, .int x3, .int x4, .int x5, .int x6]) (n := 7) (Nat.le_of_ble_eq_true rfl)
  rw [lg_entry_eq]
  generalize (lg_sl ([.ref (o + 19), .int x1, .int x2, .int x3, .int x4, .int x5, .int x6]) ++ List.replicate (7 - (lg_sl ([.ref (o + 19), .int x1, .int x2, .int x3, .int x4, .int x5, .int x6])).length) Slot.unset).toArray = ls at hl ⊢
  have hl : lv_has ls 7 [(0, .ref (o + 19)), (1, .int x1), (2, .int x2), (3, .int x3), (4, .int x4), (5, .int x5), (6, .int x6)] := hl
  exact bk_3_add_0 cx B.returns B.notSynchronized h hw (hm_L0 _ _) hl
/-! ===== HeapGames$Moves.addTakings(III)V ===== -/
theorem d_3_addTakings_0 : decode prog_5_method_6_code 0 = .ok (.iconst 1, 1) := by decide +kernel
theorem d_3_addTakings_1 : decode prog_5_method_6_code 1 = .ok (.istore 4, 2) := by decide +kernel
theorem d_3_addTakings_3 : decode prog_5_method_6_code 3 = .ok (.iload 4, 2) := by decide +kernel
theorem d_3_addTakings_5 : decode prog_5_method_6_code 5 = .ok (.iload_n 1, 1) := by decide +kernel
theorem d_3_addTakings_6 : decode prog_5_method_6_code 6 = .ok (.if_icmp .gt 93, 3) := by decide +kernel
theorem d_3_addTakings_9 : decode prog_5_method_6_code 9 = .ok (.iload_n 1, 1) := by decide +kernel
theorem d_3_addTakings_10 : decode prog_5_method_6_code 10 = .ok (.iload 4, 2) := by decide +kernel
theorem d_3_addTakings_12 : decode prog_5_method_6_code 12 = .ok (.isub, 1) := by decide +kernel
theorem d_3_addTakings_13 : decode prog_5_method_6_code 13 = .ok (.istore 5, 2) := by decide +kernel
theorem d_3_addTakings_15 : decode prog_5_method_6_code 15 = .ok (.iconst 0, 1) := by decide +kernel
theorem d_3_addTakings_16 : decode prog_5_method_6_code 16 = .ok (.istore 6, 2) := by decide +kernel
theorem d_3_addTakings_18 : decode prog_5_method_6_code 18 = .ok (.iload 6, 2) := by decide +kernel
theorem d_3_addTakings_20 : decode prog_5_method_6_code 20 = .ok (.iload 5, 2) := by decide +kernel
theorem d_3_addTakings_22 : decode prog_5_method_6_code 22 = .ok (.iconst 2, 1) := by decide +kernel
theorem d_3_addTakings_23 : decode prog_5_method_6_code 23 = .ok (.idiv, 1) := by decide +kernel
theorem d_3_addTakings_24 : decode prog_5_method_6_code 24 = .ok (.if_icmp .gt 69, 3) := by decide +kernel
theorem d_3_addTakings_27 : decode prog_5_method_6_code 27 = .ok (.aload_n 0, 1) := by decide +kernel
theorem d_3_addTakings_28 : decode prog_5_method_6_code 28 = .ok (.getfield 45, 3) := by decide +kernel
theorem d_3_addTakings_31 : decode prog_5_method_6_code 31 = .ok (.iload 4, 2) := by decide +kernel
theorem d_3_addTakings_33 : decode prog_5_method_6_code 33 = .ok (.iload_n 1, 1) := by decide +kernel
theorem d_3_addTakings_34 : decode prog_5_method_6_code 34 = .ok (.iload 6, 2) := by decide +kernel
theorem d_3_addTakings_36 : decode prog_5_method_6_code 36 = .ok (.invokevirtual 117, 3) := by decide +kernel
theorem d_3_addTakings_39 : decode prog_5_method_6_code 39 = .ok (.ifCond .eq 48, 3) := by decide +kernel
theorem d_3_addTakings_42 : decode prog_5_method_6_code 42 = .ok (.iload 5, 2) := by decide +kernel
theorem d_3_addTakings_44 : decode prog_5_method_6_code 44 = .ok (.iload 6, 2) := by decide +kernel
theorem d_3_addTakings_46 : decode prog_5_method_6_code 46 = .ok (.isub, 1) := by decide +kernel
theorem d_3_addTakings_47 : decode prog_5_method_6_code 47 = .ok (.istore 7, 2) := by decide +kernel
theorem d_3_addTakings_49 : decode prog_5_method_6_code 49 = .ok (.aload_n 0, 1) := by decide +kernel
theorem d_3_addTakings_50 : decode prog_5_method_6_code 50 = .ok (.iload_n 2, 1) := by decide +kernel
theorem d_3_addTakings_51 : decode prog_5_method_6_code 51 = .ok (.iload 6, 2) := by decide +kernel
theorem d_3_addTakings_53 : decode prog_5_method_6_code 53 = .ok (.iload 7, 2) := by decide +kernel
theorem d_3_addTakings_55 : decode prog_5_method_6_code 55 = .ok (.aload_n 0, 1) := by decide +kernel
theorem d_3_addTakings_56 : decode prog_5_method_6_code 56 = .ok (.getfield 45, 3) := by decide +kernel
theorem d_3_addTakings_59 : decode prog_5_method_6_code 59 = .ok (.iload 4, 2) := by decide +kernel
theorem d_3_addTakings_61 : decode prog_5_method_6_code 61 = .ok (.invokevirtual 123, 3) := by decide +kernel
theorem d_3_addTakings_64 : decode prog_5_method_6_code 64 = .ok (.invokevirtual 126, 3) := by decide +kernel
theorem d_3_addTakings_67 : decode prog_5_method_6_code 67 = .ok (.istore 8, 2) := by decide +kernel
theorem d_3_addTakings_69 : decode prog_5_method_6_code 69 = .ok (.aload_n 0, 1) := by decide +kernel
theorem d_3_addTakings_70 : decode prog_5_method_6_code 70 = .ok (.iconst 0, 1) := by decide +kernel
theorem d_3_addTakings_71 : decode prog_5_method_6_code 71 = .ok (.iload_n 1, 1) := by decide +kernel
theorem d_3_addTakings_72 : decode prog_5_method_6_code 72 = .ok (.iload 4, 2) := by decide +kernel
theorem d_3_addTakings_74 : decode prog_5_method_6_code 74 = .ok (.iload 6, 2) := by decide +kernel
theorem d_3_addTakings_76 : decode prog_5_method_6_code 76 = .ok (.iload 7, 2) := by decide +kernel
theorem d_3_addTakings_78 : decode prog_5_method_6_code 78 = .ok (.iload 8, 2) := by decide +kernel
theorem d_3_addTakings_80 : decode prog_5_method_6_code 80 = .ok (.iload_n 3, 1) := by decide +kernel
theorem d_3_addTakings_81 : decode prog_5_method_6_code 81 = .ok (.invokestatic 90, 3) := by decide +kernel
theorem d_3_addTakings_84 : decode prog_5_method_6_code 84 = .ok (.invokevirtual 94, 3) := by decide +kernel
theorem d_3_addTakings_87 : decode prog_5_method_6_code 87 = .ok (.iinc 6 1, 3) := by decide +kernel
theorem d_3_addTakings_90 : decode prog_5_method_6_code 90 = .ok (.goto (-72), 3) := by decide +kernel
theorem d_3_addTakings_93 : decode prog_5_method_6_code 93 = .ok (.iinc 4 1, 3) := by decide +kernel
theorem d_3_addTakings_96 : decode prog_5_method_6_code 96 = .ok (.goto (-93), 3) := by decide +kernel
theorem d_3_addTakings_99 : decode prog_5_method_6_code 99 = .ok (.return_, 1) := by decide +kernel
def wb_3_addTakings_93 (Q : hm_S → hm_T → Prop) (K3 : Int32 → Int32 → Int32 → Int32 → hm_S → hm_T → Prop) (x1 : Int32) (x2 : Int32) (x3 : Int32) (x4 : Int32) (S : hm_S) (T : hm_T) : Prop :=
  K3 x1 x2 x3 (x4 + 1) S T
set_option maxHeartbeats 4000000 in
set_option maxRecDepth 20000 in
theorem bk_3_addTakings_93 {Q : hm_S → hm_T → Prop} {K3 : Int32 → Int32 → Int32 → Int32 → hm_S → hm_T → Prop} (cx : hm_cx G p s m args c prog_5_method_6_code 9 "HeapGames$Moves") (hr : meth.sig.returnType = none) (hlk : meth.locks = false) (k3 : ∀ (x1 : Int32) (x2 : Int32) (x3 : Int32) (x4 : Int32) (S : hm_S) (T : hm_T) (H : Heap) (locs : List Loc) (ls : Array Slot), K3 x1 x2 x3 x4 S T → hm_w G H0 o 74 shX S T H → hm_L o 74 locs → lv_has ls 9 [(0, .ref (o + 19)), (1, .int x1), (2, .int x2), (3, .int x3), (4, .int x4)] → W p l e rm_3_addTakings s m args below meth c H locs 0 0 (MQ below (hm_Qv G H0 o 74 shX Q) args s 0 0 (t_fr o (o + 74))) (F0 m 3 ls [])) {x1 : Int32} {x2 : Int32} {x3 : Int32} {x4 : Int32} {S : hm_S} {T : hm_T} {H : Heap} {locs : List Loc} {ls : Array Slot} (h : wb_3_addTakings_93 Q K3 x1 x2 x3 x4 S T) (hw : hm_w G H0 o 74 shX S T H) (hL : hm_L o 74 locs) (hl : lv_has ls 9 [(0, .ref (o + 19)), (1, .int x1), (2, .int x2), (3, .int x3), (4, .int x4)]) : W p l e rm_3_addTakings s m args below meth c H locs 0 0 (MQ below (hm_Qv G H0 o 74 shX Q) args s 0 0 (t_fr o (o + 74))) (F0 m 93 ls []) := by
  have hx := cx.1.1
  have hb := cx.1.2.1
  unfold wb_3_addTakings_93 at h
  refine lv_iinc (v := (x4 + 1)) (lv' := [(4, .int (x4 + 1)), (0, .ref (o + 19)), (1, .int x1), (2, .int x2), (3, .int x3)]) hx hb d_3_addTakings_93 hl (k := 4) rfl rfl (by decide) rfl (fun ls hl => ?_)
  refine lv_goto (tgt := 3) hx hb d_3_addTakings_96 (by decide) ?_
  exact k3 _ _ _ _ _ _ _ _ _ h hw hL (lv_sub hl [1, 2, 3, 4, 0] rfl)
def wb_3_addTakings_87 (Q : hm_S → hm_T → Prop) (K3 : Int32 → Int32 → Int32 → Int32 → hm_S → hm_T → Prop) (K18 : Int32 → Int32 → Int32 → Int32 → Int32 → Int32 → hm_S → hm_T → Prop) (x1 : Int32) (x2 : Int32) (x3 : Int32) (x4 : Int32) (x5 : Int32) (x6 : Int32) (S : hm_S) (T : hm_T) : Prop :=
  K18 x1 x2 x3 x4 x5 (x6 + 1) S T
set_option maxHeartbeats 4000000 in
set_option maxRecDepth 20000 in
theorem bk_3_addTakings_87 {Q : hm_S → hm_T → Prop} {K3 : Int32 → Int32 → Int32 → Int32 → hm_S → hm_T → Prop} {K18 : Int32 → Int32 → Int32 → Int32 → Int32 → Int32 → hm_S → hm_T → Prop} (cx : hm_cx G p s m args c prog_5_method_6_code 9 "HeapGames$Moves") (hr : meth.sig.returnType = none) (hlk : meth.locks = false) (k3 : ∀ (x1 : Int32) (x2 : Int32) (x3 : Int32) (x4 : Int32) (S : hm_S) (T : hm_T) (H : Heap) (locs : List Loc) (ls : Array Slot), K3 x1 x2 x3 x4 S T → hm_w G H0 o 74 shX S T H → hm_L o 74 locs → lv_has ls 9 [(0, .ref (o + 19)), (1, .int x1), (2, .int x2), (3, .int x3), (4, .int x4)] → W p l e rm_3_addTakings s m args below meth c H locs 0 0 (MQ below (hm_Qv G H0 o 74 shX Q) args s 0 0 (t_fr o (o + 74))) (F0 m 3 ls [])) (k18 : ∀ (x1 : Int32) (x2 : Int32) (x3 : Int32) (x4 : Int32) (x5 : Int32) (x6 : Int32) (S : hm_S) (T : hm_T) (H : Heap) (locs : List Loc) (ls : Array Slot), K18 x1 x2 x3 x4 x5 x6 S T → hm_w G H0 o 74 shX S T H → hm_L o 74 locs → lv_has ls 9 [(0, .ref (o + 19)), (1, .int x1), (2, .int x2), (3, .int x3), (4, .int x4), (5, .int x5), (6, .int x6)] → W p l e rm_3_addTakings s m args below meth c H locs 0 0 (MQ below (hm_Qv G H0 o 74 shX Q) args s 0 0 (t_fr o (o + 74))) (F0 m 18 ls [])) {x1 : Int32} {x2 : Int32} {x3 : Int32} {x4 : Int32} {x5 : Int32} {x6 : Int32} {S : hm_S} {T : hm_T} {H : Heap} {locs : List Loc} {ls : Array Slot} (h : wb_3_addTakings_87 Q K3 K18 x1 x2 x3 x4 x5 x6 S T) (hw : hm_w G H0 o 74 shX S T H) (hL : hm_L o 74 locs) (hl : lv_has ls 9 [(0, .ref (o + 19)), (1, .int x1), (2, .int x2), (3, .int x3), (4, .int x4), (5, .int x5), (6, .int x6)]) : W p l e rm_3_addTakings s m args below meth c H locs 0 0 (MQ below (hm_Qv G H0 o 74 shX Q) args s 0 0 (t_fr o (o + 74))) (F0 m 87 ls []) := by
  have hx := cx.1.1
  have hb := cx.1.2.1
  unfold wb_3_addTakings_87 at h
  refine lv_iinc (v := (x6 + 1)) (lv' := [(6, .int (x6 + 1)), (0, .ref (o + 19)), (1, .int x1), (2, .int x2), (3, .int x3), (4, .int x4), (5, .int x5)]) hx hb d_3_addTakings_87 hl (k := 6) rfl rfl (by decide) rfl (fun ls hl => ?_)
  refine lv_goto (tgt := 18) hx hb d_3_addTakings_90 (by decide) ?_
  exact k18 _ _ _ _ _ _ _ _ _ _ _ h hw hL (lv_sub hl [1, 2, 3, 4, 5, 6, 0] rfl)
def wb_3_addTakings_18 (Q : hm_S → hm_T → Prop) (K3 : Int32 → Int32 → Int32 → Int32 → hm_S → hm_T → Prop) (K18 : Int32 → Int32 → Int32 → Int32 → Int32 → Int32 → hm_S → hm_T → Prop) (x1 : Int32) (x2 : Int32) (x3 : Int32) (x4 : Int32) (x5 : Int32) (x6 : Int32) (S : hm_S) (T : hm_T) : Prop :=
  (if (x5 / 2) < x6 then wb_3_addTakings_93 Q K3 x1 x2 x3 x4 S T else wp_6_allows x4 x1 x6 S T (fun r1 S1 T1 => (if r1 = 0 then wb_3_addTakings_87 Q K3 K18 x1 x2 x3 x4 x5 x6 S1 T1 else wp_6_obliges x4 S1 T1 (fun r2 S2 T2 => wp_3_restWith x2 x6 (x5 - x6) r2 S2 T2 (fun r3 S3 T3 => wp_10_positionOf r3 x3 S3 T3 (fun r4 S4 T4 => wp_3_add 0 x1 x4 x6 (x5 - x6) r4 S4 T4 (fun S5 T5 => wb_3_addTakings_87 Q K3 K18 x1 x2 x3 x4 x5 x6 S5 T5)))))))
set_option maxHeartbeats 4000000 in
set_option maxRecDepth 20000 in
theorem bk_3_addTakings_18 {Q : hm_S → hm_T → Prop} {K3 : Int32 → Int32 → Int32 → Int32 → hm_S → hm_T → Prop} {K18 : Int32 → Int32 → Int32 → Int32 → Int32 → Int32 → hm_S → hm_T → Prop} (cx : hm_cx G p s m args c prog_5_method_6_code 9 "HeapGames$Moves") (hr : meth.sig.returnType = none) (hlk : meth.locks = false) (k3 : ∀ (x1 : Int32) (x2 : Int32) (x3 : Int32) (x4 : Int32) (S : hm_S) (T : hm_T) (H : Heap) (locs : List Loc) (ls : Array Slot), K3 x1 x2 x3 x4 S T → hm_w G H0 o 74 shX S T H → hm_L o 74 locs → lv_has ls 9 [(0, .ref (o + 19)), (1, .int x1), (2, .int x2), (3, .int x3), (4, .int x4)] → W p l e rm_3_addTakings s m args below meth c H locs 0 0 (MQ below (hm_Qv G H0 o 74 shX Q) args s 0 0 (t_fr o (o + 74))) (F0 m 3 ls [])) (k18 : ∀ (x1 : Int32) (x2 : Int32) (x3 : Int32) (x4 : Int32) (x5 : Int32) (x6 : Int32) (S : hm_S) (T : hm_T) (H : Heap) (locs : List Loc) (ls : Array Slot), K18 x1 x2 x3 x4 x5 x6 S T → hm_w G H0 o 74 shX S T H → hm_L o 74 locs → lv_has ls 9 [(0, .ref (o + 19)), (1, .int x1), (2, .int x2), (3, .int x3), (4, .int x4), (5, .int x5), (6, .int x6)] → W p l e rm_3_addTakings s m args below meth c H locs 0 0 (MQ below (hm_Qv G H0 o 74 shX Q) args s 0 0 (t_fr o (o + 74))) (F0 m 18 ls [])) {x1 : Int32} {x2 : Int32} {x3 : Int32} {x4 : Int32} {x5 : Int32} {x6 : Int32} {S : hm_S} {T : hm_T} {H : Heap} {locs : List Loc} {ls : Array Slot} (h : wb_3_addTakings_18 Q K3 K18 x1 x2 x3 x4 x5 x6 S T) (hw : hm_w G H0 o 74 shX S T H) (hL : hm_L o 74 locs) (hl : lv_has ls 9 [(0, .ref (o + 19)), (1, .int x1), (2, .int x2), (3, .int x3), (4, .int x4), (5, .int x5), (6, .int x6)]) : W p l e rm_3_addTakings s m args below meth c H locs 0 0 (MQ below (hm_Qv G H0 o 74 shX Q) args s 0 0 (t_fr o (o + 74))) (F0 m 18 ls []) := by
  have hx := cx.1.1
  have hb := cx.1.2.1
  unfold wb_3_addTakings_18 at h
  refine lv_iload hx hb d_3_addTakings_18 (lv_at hl 6 rfl) ?_
  refine lv_iload hx hb d_3_addTakings_20 (lv_at hl 5 rfl) ?_
  refine lv_iconst (v := 2) hx hb d_3_addTakings_22 (by decide) ?_
  refine lv_idiv hx hb d_3_addTakings_23 (by decide) ?_
  refine lv_icmp_gt (tgt := 93) hx hb d_3_addTakings_24 (by decide) (fun hc => ?_) (fun hc => ?_)
  · replace h := hm_pos hc h
    exact bk_3_addTakings_93 cx hr hlk k3 h hw hL (lv_sub hl [0, 1, 2, 3, 4] rfl)
  · replace h := hm_neg hc h
    refine lv_aload_n hx hb d_3_addTakings_27 rfl (lv_at hl 0 rfl) ?_
    refine gf_3_45 cx hw (i := 19) (r := 1) (by decide) sx_19 rfl d_3_addTakings_28 ?_
    refine lv_iload hx hb d_3_addTakings_31 (lv_at hl 4 rfl) ?_
    refine lv_iload_n hx hb d_3_addTakings_33 rfl (lv_at hl 1 rfl) ?_
    refine lv_iload hx hb d_3_addTakings_34 (lv_at hl 6 rfl) ?_
    refine hm_calli (hm_rV (i := 1) (As := [.int x4, .int x1, .int x6]) (rest := []) cx hw (ct_6_allows h) (mw_3_117 cx.1.2.2.2.2 ⟨Nat.le_of_ble_eq_true rfl, Nat.le_of_ble_eq_true rfl⟩) (by decide) sx_1 rfl rfl hl.1 rfl (Nat.le_of_ble_eq_true rfl) d_3_addTakings_36 ⟨Nat.zero_le _, Nat.zero_le _⟩) hL (fun r1 S1 T1 H locs h hw hL => ?_)
    refine lv_if_eq (tgt := 87) hx hb d_3_addTakings_39 (by decide) (fun hc => ?_) (fun hc => ?_)
    · replace h := hm_pos hc h
      exact bk_3_addTakings_87 cx hr hlk k3 k18 h hw hL (lv_sub hl [0, 1, 2, 3, 4, 5, 6] rfl)
    · replace h := hm_neg hc h
      refine lv_iload hx hb d_3_addTakings_42 (lv_at hl 5 rfl) ?_
      refine lv_iload hx hb d_3_addTakings_44 (lv_at hl 6 rfl) ?_
      refine lv_isub hx hb d_3_addTakings_46 ?_
      refine lv_istore (lv' := [(7, .int (x5 - x6)), (0, .ref (o + 19)), (1, .int x1), (2, .int x2), (3, .int x3), (4, .int x4), (5, .int x5), (6, .int x6)]) hx hb d_3_addTakings_47 hl (by decide) rfl (fun ls hl => ?_)
      refine lv_aload_n hx hb d_3_addTakings_49 rfl (lv_at hl 1 rfl) ?_
      refine lv_iload_n hx hb d_3_addTakings_50 rfl (lv_at hl 3 rfl) ?_
      refine lv_iload hx hb d_3_addTakings_51 (lv_at hl 7 rfl) ?_
      refine lv_iload hx hb d_3_addTakings_53 (lv_at hl 0 rfl) ?_
      refine lv_aload_n hx hb d_3_addTakings_55 rfl (lv_at hl 1 rfl) ?_
      refine gf_3_45 cx hw (i := 19) (r := 1) (by decide) sx_19 rfl d_3_addTakings_56 ?_
      refine lv_iload hx hb d_3_addTakings_59 (lv_at hl 5 rfl) ?_
      refine hm_calli (hm_rV (i := 1) (As := [.int x4]) (rest := [.int (x5 - x6), .int x6, .int x2, .ref (o + 19)]) cx hw (ct_6_obliges h) (mw_3_123 cx.1.2.2.2.2 ⟨Nat.le_of_ble_eq_true rfl, Nat.le_of_ble_eq_true rfl⟩) (by decide) sx_1 rfl rfl hl.1 rfl (Nat.le_of_ble_eq_true rfl) d_3_addTakings_61 ⟨Nat.zero_le _, Nat.zero_le _⟩) hL (fun r2 S2 T2 H locs h hw hL => ?_)
      refine hm_calli (hm_rV (i := 19) (As := [.int x2, .int x6, .int (x5 - x6), .int r2]) (rest := []) cx hw (ct_3_restWith h) (mw_3_126 cx.1.2.2.2.2 ⟨Nat.le_of_ble_eq_true rfl, Nat.le_of_ble_eq_true rfl⟩) (by decide) sx_19 rfl rfl hl.1 rfl (Nat.le_of_ble_eq_true rfl) d_3_addTakings_64 ⟨Nat.zero_le _, Nat.zero_le _⟩) hL (fun r3 S3 T3 H locs h hw hL => ?_)
      refine lv_istore (lv' := [(8, .int r3), (7, .int (x5 - x6)), (0, .ref (o + 19)), (1, .int x1), (2, .int x2), (3, .int x3), (4, .int x4), (5, .int x5), (6, .int x6)]) hx hb d_3_addTakings_67 hl (by decide) rfl (fun ls hl => ?_)
      refine lv_aload_n hx hb d_3_addTakings_69 rfl (lv_at hl 2 rfl) ?_
      refine lv_iconst (v := 0) hx hb d_3_addTakings_70 (by decide) ?_
      refine lv_iload_n hx hb d_3_addTakings_71 rfl (lv_at hl 3 rfl) ?_
      refine lv_iload hx hb d_3_addTakings_72 (lv_at hl 6 rfl) ?_
      refine lv_iload hx hb d_3_addTakings_74 (lv_at hl 8 rfl) ?_
      refine lv_iload hx hb d_3_addTakings_76 (lv_at hl 1 rfl) ?_
      refine lv_iload hx hb d_3_addTakings_78 (lv_at hl 0 rfl) ?_
      refine lv_iload_n hx hb d_3_addTakings_80 rfl (lv_at hl 5 rfl) ?_
      refine hm_calli (hm_rN (As := [.int r3, .int x3]) (rest := [.int (x5 - x6), .int x6, .int x4, .int x1, .int 0, .ref (o + 19)]) cx hw (ct_10_positionOf h) (mw_3_90 cx ⟨Nat.le_of_ble_eq_true rfl, Nat.le_of_ble_eq_true rfl⟩) rfl hl.1 rfl (Nat.le_of_ble_eq_true rfl) d_3_addTakings_81 ⟨Nat.zero_le _, Nat.zero_le _⟩) hL (fun r4 S4 T4 H locs h hw hL => ?_)
      refine hm_callv (hm_rV (i := 19) (As := [.int 0, .int x1, .int x4, .int x6, .int (x5 - x6), .int r4]) (rest := []) cx hw (ct_3_add h) (mw_3_94 cx.1.2.2.2.2 ⟨Nat.le_of_ble_eq_true rfl, Nat.le_of_ble_eq_true rfl⟩) (by decide) sx_19 rfl rfl hl.1 rfl (Nat.le_of_ble_eq_true rfl) d_3_addTakings_84 ⟨Nat.zero_le _, Nat.zero_le _⟩) hL (fun S5 T5 H locs h hw hL => ?_)
      exact bk_3_addTakings_87 cx hr hlk k3 k18 h hw hL (lv_sub hl [2, 3, 4, 5, 6, 7, 8] rfl)
def wl_3_addTakings_18 (Q : hm_S → hm_T → Prop) (K3 : Int32 → Int32 → Int32 → Int32 → hm_S → hm_T → Prop) : Nat → Int32 → Int32 → Int32 → Int32 → Int32 → Int32 → hm_S → hm_T → Prop
  | 0, _, _, _, _, _, _, _, _ => False
  | f + 1, x1, x2, x3, x4, x5, x6, S, T => wb_3_addTakings_18 Q K3 (wl_3_addTakings_18 Q K3 f) x1 x2 x3 x4 x5 x6 S T
theorem lp_3_addTakings_18 {Q : hm_S → hm_T → Prop} {K3 : Int32 → Int32 → Int32 → Int32 → hm_S → hm_T → Prop} (cx : hm_cx G p s m args c prog_5_method_6_code 9 "HeapGames$Moves") (hr : meth.sig.returnType = none) (hlk : meth.locks = false) (k3 : ∀ (x1 : Int32) (x2 : Int32) (x3 : Int32) (x4 : Int32) (S : hm_S) (T : hm_T) (H : Heap) (locs : List Loc) (ls : Array Slot), K3 x1 x2 x3 x4 S T → hm_w G H0 o 74 shX S T H → hm_L o 74 locs → lv_has ls 9 [(0, .ref (o + 19)), (1, .int x1), (2, .int x2), (3, .int x3), (4, .int x4)] → W p l e rm_3_addTakings s m args below meth c H locs 0 0 (MQ below (hm_Qv G H0 o 74 shX Q) args s 0 0 (t_fr o (o + 74))) (F0 m 3 ls [])) : ∀ (f : Nat) (x1 : Int32) (x2 : Int32) (x3 : Int32) (x4 : Int32) (x5 : Int32) (x6 : Int32) (S : hm_S) (T : hm_T) (H : Heap) (locs : List Loc) (ls : Array Slot), wl_3_addTakings_18 Q K3 f x1 x2 x3 x4 x5 x6 S T → hm_w G H0 o 74 shX S T H → hm_L o 74 locs → lv_has ls 9 [(0, .ref (o + 19)), (1, .int x1), (2, .int x2), (3, .int x3), (4, .int x4), (5, .int x5), (6, .int x6)] → W p l e rm_3_addTakings s m args below meth c H locs 0 0 (MQ below (hm_Qv G H0 o 74 shX Q) args s 0 0 (t_fr o (o + 74))) (F0 m 18 ls []) := by
  intro f
  induction f with
  | zero => intro x1 x2 x3 x4 x5 x6 S T H locs ls h; exact h.elim
  | succ f ih => intro x1 x2 x3 x4 x5 x6 S T H locs ls h hw hL hl; exact bk_3_addTakings_18 cx hr hlk k3 ih h hw hL hl
def wb_3_addTakings_3 (Q : hm_S → hm_T → Prop) (K3 : Int32 → Int32 → Int32 → Int32 → hm_S → hm_T → Prop) (x1 : Int32) (x2 : Int32) (x3 : Int32) (x4 : Int32) (S : hm_S) (T : hm_T) : Prop :=
  (if x1 < x4 then Q S T else ∃ f, wl_3_addTakings_18 Q K3 f x1 x2 x3 x4 (x1 - x4) 0 S T)
set_option maxHeartbeats 4000000 in
set_option maxRecDepth 20000 in
theorem bk_3_addTakings_3 {Q : hm_S → hm_T → Prop} {K3 : Int32 → Int32 → Int32 → Int32 → hm_S → hm_T → Prop} (cx : hm_cx G p s m args c prog_5_method_6_code 9 "HeapGames$Moves") (hr : meth.sig.returnType = none) (hlk : meth.locks = false) (k3 : ∀ (x1 : Int32) (x2 : Int32) (x3 : Int32) (x4 : Int32) (S : hm_S) (T : hm_T) (H : Heap) (locs : List Loc) (ls : Array Slot), K3 x1 x2 x3 x4 S T → hm_w G H0 o 74 shX S T H → hm_L o 74 locs → lv_has ls 9 [(0, .ref (o + 19)), (1, .int x1), (2, .int x2), (3, .int x3), (4, .int x4)] → W p l e rm_3_addTakings s m args below meth c H locs 0 0 (MQ below (hm_Qv G H0 o 74 shX Q) args s 0 0 (t_fr o (o + 74))) (F0 m 3 ls [])) {x1 : Int32} {x2 : Int32} {x3 : Int32} {x4 : Int32} {S : hm_S} {T : hm_T} {H : Heap} {locs : List Loc} {ls : Array Slot} (h : wb_3_addTakings_3 Q K3 x1 x2 x3 x4 S T) (hw : hm_w G H0 o 74 shX S T H) (hL : hm_L o 74 locs) (hl : lv_has ls 9 [(0, .ref (o + 19)), (1, .int x1), (2, .int x2), (3, .int x3), (4, .int x4)]) : W p l e rm_3_addTakings s m args below meth c H locs 0 0 (MQ below (hm_Qv G H0 o 74 shX Q) args s 0 0 (t_fr o (o + 74))) (F0 m 3 ls []) := by
  have hx := cx.1.1
  have hb := cx.1.2.1
  unfold wb_3_addTakings_3 at h
  refine lv_iload hx hb d_3_addTakings_3 (lv_at hl 4 rfl) ?_
  refine lv_iload_n hx hb d_3_addTakings_5 rfl (lv_at hl 1 rfl) ?_
  refine lv_icmp_gt (tgt := 99) hx hb d_3_addTakings_6 (by decide) (fun hc => ?_) (fun hc => ?_)
  · replace h := hm_pos hc h
    exact W.vret hx hb hr (fun t ht _ => ⟨_, _, rfl, h, by rw [ht]; exact hw⟩) hL d_3_addTakings_99
  · replace h := hm_neg hc h
    refine lv_iload_n hx hb d_3_addTakings_9 rfl (lv_at hl 1 rfl) ?_
    refine lv_iload hx hb d_3_addTakings_10 (lv_at hl 4 rfl) ?_
    refine lv_isub hx hb d_3_addTakings_12 ?_
    refine lv_istore (lv' := [(5, .int (x1 - x4)), (0, .ref (o + 19)), (1, .int x1), (2, .int x2), (3, .int x3), (4, .int x4)]) hx hb d_3_addTakings_13 hl (by decide) rfl (fun ls hl => ?_)
    refine lv_iconst (v := 0) hx hb d_3_addTakings_15 (by decide) ?_
    refine lv_istore (lv' := [(6, .int 0), (5, .int (x1 - x4)), (0, .ref (o + 19)), (1, .int x1), (2, .int x2), (3, .int x3), (4, .int x4)]) hx hb d_3_addTakings_16 hl (by decide) rfl (fun ls hl => ?_)
    obtain ⟨f, h⟩ := h
    exact lp_3_addTakings_18 cx hr hlk k3 f _ _ _ _ _ _ _ _ _ _ _ h hw hL (lv_sub hl [2, 3, 4, 5, 6, 1, 0] rfl)
def wl_3_addTakings_3 (Q : hm_S → hm_T → Prop) : Nat → Int32 → Int32 → Int32 → Int32 → hm_S → hm_T → Prop
  | 0, _, _, _, _, _, _ => False
  | f + 1, x1, x2, x3, x4, S, T => wb_3_addTakings_3 Q (wl_3_addTakings_3 Q f) x1 x2 x3 x4 S T
theorem lp_3_addTakings_3 {Q : hm_S → hm_T → Prop} (cx : hm_cx G p s m args c prog_5_method_6_code 9 "HeapGames$Moves") (hr : meth.sig.returnType = none) (hlk : meth.locks = false) : ∀ (f : Nat) (x1 : Int32) (x2 : Int32) (x3 : Int32) (x4 : Int32) (S : hm_S) (T : hm_T) (H : Heap) (locs : List Loc) (ls : Array Slot), wl_3_addTakings_3 Q f x1 x2 x3 x4 S T → hm_w G H0 o 74 shX S T H → hm_L o 74 locs → lv_has ls 9 [(0, .ref (o + 19)), (1, .int x1), (2, .int x2), (3, .int x3), (4, .int x4)] → W p l e rm_3_addTakings s m args below meth c H locs 0 0 (MQ below (hm_Qv G H0 o 74 shX Q) args s 0 0 (t_fr o (o + 74))) (F0 m 3 ls []) := by
  intro f
  induction f with
  | zero => intro x1 x2 x3 x4 S T H locs ls h; exact h.elim
  | succ f ih => intro x1 x2 x3 x4 S T H locs ls h hw hL hl; exact bk_3_addTakings_3 cx hr hlk ih h hw hL hl
def wp_3_addTakings (x1 : Int32) (x2 : Int32) (x3 : Int32) (S : hm_S) (T : hm_T) (Q : hm_S → hm_T → Prop) : Prop :=
  ∃ f, wl_3_addTakings_3 Q f x1 x2 x3 1 S T
set_option maxHeartbeats 4000000 in
set_option maxRecDepth 20000 in
theorem bk_3_addTakings_0 {Q : hm_S → hm_T → Prop} (cx : hm_cx G p s m args c prog_5_method_6_code 9 "HeapGames$Moves") (hr : meth.sig.returnType = none) (hlk : meth.locks = false) {x1 : Int32} {x2 : Int32} {x3 : Int32} {S : hm_S} {T : hm_T} {H : Heap} {locs : List Loc} {ls : Array Slot} (h : wp_3_addTakings x1 x2 x3 S T Q) (hw : hm_w G H0 o 74 shX S T H) (hL : hm_L o 74 locs) (hl : lv_has ls 9 [(0, .ref (o + 19)), (1, .int x1), (2, .int x2), (3, .int x3)]) : W p l e rm_3_addTakings s m args below meth c H locs 0 0 (MQ below (hm_Qv G H0 o 74 shX Q) args s 0 0 (t_fr o (o + 74))) (F0 m 0 ls []) := by
  have hx := cx.1.1
  have hb := cx.1.2.1
  unfold wp_3_addTakings at h
  refine lv_iconst (v := 1) hx hb d_3_addTakings_0 (by decide) ?_
  refine lv_istore (lv' := [(4, .int 1), (0, .ref (o + 19)), (1, .int x1), (2, .int x2), (3, .int x3)]) hx hb d_3_addTakings_1 hl (by decide) rfl (fun ls hl => ?_)
  obtain ⟨f, h⟩ := h
  exact lp_3_addTakings_3 cx hr hlk f _ _ _ _ _ _ _ _ _ h hw hL (lv_sub hl [1, 2, 3, 4, 0] rfl)
set_option maxHeartbeats 4000000 in
set_option maxRecDepth 20000 in
theorem ct_3_addTakings {x1 : Int32} {x2 : Int32} {x3 : Int32} {S : hm_S} {T : hm_T} {Q : hm_S → hm_T → Prop} (h : wp_3_addTakings x1 x2 x3 S T Q) : hm_M l G H0 o 74 shX y_3_addTakings prog_5_method_6_code 9 (none) rm_3_addTakings S T [.ref (o + 19), .int x1, .int x2, .int x3] (hm_Qv G H0 o 74 shX Q) := by
  refine Met.ofW (cc := prog_5_method_6_code) (maxL := 9) (ret := none) (by decide) rfl ?_
  intro p e s m args below meth c s₁ B hml hv
  obtain ⟨rfl, hK, hw⟩ := hv
  have cx : hm_cx G p s m _ c prog_5_method_6_code 9 "HeapGames$Moves" := ⟨⟨B.exec, B.bytes, hml, findClass_of_methodNamed B.named, fun w hq => atoms_spec (ws := hm_ws y_3_addTakings prog_5_method_6_code 9 (none)) B.pre w (List.mem_cons_of_mem _ hq)⟩, hK⟩
  have hl := lv_entry ([.ref (o + 19), .int x1, .int x2, .int x3]) (n := 9) (Nat.le_of_ble_eq_true rfl)
  rw [lg_entry_eq]
  generalize (lg_sl ([.ref (o + 19), .int x1, .int x2, .int x3]) ++ List.replicate (9 - (lg_sl ([.ref (o + 19), .int x1, .int x2, .int x3])).length) Slot.unset).toArray = ls at hl ⊢
  have hl : lv_has ls 9 [(0, .ref (o + 19)), (1, .int x1), (2, .int x2), (3, .int x3)] := hl
  exact bk_3_addTakings_0 cx B.returns B.notSynchronized h hw (hm_L0 _ _) hl
/-! ===== HeapGames$Moves.addGrowings(I)V ===== -/
theorem d_3_addGrowings_0 : decode prog_5_method_7_code 0 = .ok (.iconst 0, 1) := by decide +kernel
theorem d_3_addGrowings_1 : decode prog_5_method_7_code 1 = .ok (.istore_n 2, 1) := by decide +kernel
theorem d_3_addGrowings_2 : decode prog_5_method_7_code 2 = .ok (.iload_n 2, 1) := by decide +kernel
theorem d_3_addGrowings_3 : decode prog_5_method_7_code 3 = .ok (.aload_n 0, 1) := by decide +kernel
theorem d_3_addGrowings_4 : decode prog_5_method_7_code 4 = .ok (.getfield 69, 3) := by decide +kernel
theorem d_3_addGrowings_7 : decode prog_5_method_7_code 7 = .ok (.if_icmp .ge 65, 3) := by decide +kernel
theorem d_3_addGrowings_10 : decode prog_5_method_7_code 10 = .ok (.aload_n 0, 1) := by decide +kernel
theorem d_3_addGrowings_11 : decode prog_5_method_7_code 11 = .ok (.getfield 35, 3) := by decide +kernel
theorem d_3_addGrowings_14 : decode prog_5_method_7_code 14 = .ok (.iload_n 2, 1) := by decide +kernel
theorem d_3_addGrowings_15 : decode prog_5_method_7_code 15 = .ok (.invokevirtual 53, 3) := by decide +kernel
theorem d_3_addGrowings_18 : decode prog_5_method_7_code 18 = .ok (.istore_n 3, 1) := by decide +kernel
theorem d_3_addGrowings_19 : decode prog_5_method_7_code 19 = .ok (.aload_n 0, 1) := by decide +kernel
theorem d_3_addGrowings_20 : decode prog_5_method_7_code 20 = .ok (.getfield 45, 3) := by decide +kernel
theorem d_3_addGrowings_23 : decode prog_5_method_7_code 23 = .ok (.iload_n 3, 1) := by decide +kernel
theorem d_3_addGrowings_24 : decode prog_5_method_7_code 24 = .ok (.invokevirtual 130, 3) := by decide +kernel
theorem d_3_addGrowings_27 : decode prog_5_method_7_code 27 = .ok (.ifCond .eq 39, 3) := by decide +kernel
theorem d_3_addGrowings_30 : decode prog_5_method_7_code 30 = .ok (.aload_n 0, 1) := by decide +kernel
theorem d_3_addGrowings_31 : decode prog_5_method_7_code 31 = .ok (.aload_n 0, 1) := by decide +kernel
theorem d_3_addGrowings_32 : decode prog_5_method_7_code 32 = .ok (.getfield 38, 3) := by decide +kernel
theorem d_3_addGrowings_35 : decode prog_5_method_7_code 35 = .ok (.iload_n 2, 1) := by decide +kernel
theorem d_3_addGrowings_36 : decode prog_5_method_7_code 36 = .ok (.invokevirtual 53, 3) := by decide +kernel
theorem d_3_addGrowings_39 : decode prog_5_method_7_code 39 = .ok (.iconst 0, 1) := by decide +kernel
theorem d_3_addGrowings_40 : decode prog_5_method_7_code 40 = .ok (.iload_n 3, 1) := by decide +kernel
theorem d_3_addGrowings_41 : decode prog_5_method_7_code 41 = .ok (.iconst 1, 1) := by decide +kernel
theorem d_3_addGrowings_42 : decode prog_5_method_7_code 42 = .ok (.iadd, 1) := by decide +kernel
theorem d_3_addGrowings_43 : decode prog_5_method_7_code 43 = .ok (.iconst 0, 1) := by decide +kernel
theorem d_3_addGrowings_44 : decode prog_5_method_7_code 44 = .ok (.invokevirtual 126, 3) := by decide +kernel
theorem d_3_addGrowings_47 : decode prog_5_method_7_code 47 = .ok (.istore 4, 2) := by decide +kernel
theorem d_3_addGrowings_49 : decode prog_5_method_7_code 49 = .ok (.aload_n 0, 1) := by decide +kernel
theorem d_3_addGrowings_50 : decode prog_5_method_7_code 50 = .ok (.iconst 1, 1) := by decide +kernel
theorem d_3_addGrowings_51 : decode prog_5_method_7_code 51 = .ok (.iload_n 3, 1) := by decide +kernel
theorem d_3_addGrowings_52 : decode prog_5_method_7_code 52 = .ok (.iconst 0, 1) := by decide +kernel
theorem d_3_addGrowings_53 : decode prog_5_method_7_code 53 = .ok (.iconst 0, 1) := by decide +kernel
theorem d_3_addGrowings_54 : decode prog_5_method_7_code 54 = .ok (.iload_n 3, 1) := by decide +kernel
theorem d_3_addGrowings_55 : decode prog_5_method_7_code 55 = .ok (.iconst 1, 1) := by decide +kernel
theorem d_3_addGrowings_56 : decode prog_5_method_7_code 56 = .ok (.iadd, 1) := by decide +kernel
theorem d_3_addGrowings_57 : decode prog_5_method_7_code 57 = .ok (.iload 4, 2) := by decide +kernel
theorem d_3_addGrowings_59 : decode prog_5_method_7_code 59 = .ok (.iload_n 1, 1) := by decide +kernel
theorem d_3_addGrowings_60 : decode prog_5_method_7_code 60 = .ok (.invokestatic 90, 3) := by decide +kernel
theorem d_3_addGrowings_63 : decode prog_5_method_7_code 63 = .ok (.invokevirtual 94, 3) := by decide +kernel
theorem d_3_addGrowings_66 : decode prog_5_method_7_code 66 = .ok (.iinc 2 1, 3) := by decide +kernel
theorem d_3_addGrowings_69 : decode prog_5_method_7_code 69 = .ok (.goto (-67), 3) := by decide +kernel
theorem d_3_addGrowings_72 : decode prog_5_method_7_code 72 = .ok (.return_, 1) := by decide +kernel
def wb_3_addGrowings_66 (Q : hm_S → hm_T → Prop) (K2 : Int32 → Int32 → hm_S → hm_T → Prop) (x1 : Int32) (x2 : Int32) (S : hm_S) (T : hm_T) : Prop :=
  K2 x1 (x2 + 1) S T
set_option maxHeartbeats 4000000 in
set_option maxRecDepth 20000 in
theorem bk_3_addGrowings_66 {Q : hm_S → hm_T → Prop} {K2 : Int32 → Int32 → hm_S → hm_T → Prop} (cx : hm_cx G p s m args c prog_5_method_7_code 5 "HeapGames$Moves") (hr : meth.sig.returnType = none) (hlk : meth.locks = false) (k2 : ∀ (x1 : Int32) (x2 : Int32) (S : hm_S) (T : hm_T) (H : Heap) (locs : List Loc) (ls : Array Slot), K2 x1 x2 S T → hm_w G H0 o 74 shX S T H → hm_L o 74 locs → lv_has ls 5 [(0, .ref (o + 19)), (1, .int x1), (2, .int x2)] → W p l e rm_3_addGrowings s m args below meth c H locs 0 0 (MQ below (hm_Qv G H0 o 74 shX Q) args s 0 0 (t_fr o (o + 74))) (F0 m 2 ls [])) {x1 : Int32} {x2 : Int32} {S : hm_S} {T : hm_T} {H : Heap} {locs : List Loc} {ls : Array Slot} (h : wb_3_addGrowings_66 Q K2 x1 x2 S T) (hw : hm_w G H0 o 74 shX S T H) (hL : hm_L o 74 locs) (hl : lv_has ls 5 [(0, .ref (o + 19)), (1, .int x1), (2, .int x2)]) : W p l e rm_3_addGrowings s m args below meth c H locs 0 0 (MQ below (hm_Qv G H0 o 74 shX Q) args s 0 0 (t_fr o (o + 74))) (F0 m 66 ls []) := by
  have hx := cx.1.1
  have hb := cx.1.2.1
  unfold wb_3_addGrowings_66 at h
  refine lv_iinc (v := (x2 + 1)) (lv' := [(2, .int (x2 + 1)), (0, .ref (o + 19)), (1, .int x1)]) hx hb d_3_addGrowings_66 hl (k := 2) rfl rfl (by decide) rfl (fun ls hl => ?_)
  refine lv_goto (tgt := 2) hx hb d_3_addGrowings_69 (by decide) ?_
  exact k2 _ _ _ _ _ _ _ h hw hL (lv_sub hl [1, 2, 0] rfl)
def wb_3_addGrowings_2 (Q : hm_S → hm_T → Prop) (K2 : Int32 → Int32 → hm_S → hm_T → Prop) (x1 : Int32) (x2 : Int32) (S : hm_S) (T : hm_T) : Prop :=
  (if (S 19 10) ≤ x2 then Q S T else wp_5_get 32 10 x2 S T (fun r1 S1 T1 => wp_6_growsAt r1 S1 T1 (fun r2 S2 T2 => (if r2 = 0 then wb_3_addGrowings_66 Q K2 x1 x2 S2 T2 else wp_5_get 34 10 x2 S2 T2 (fun r3 S3 T3 => wp_3_restWith r3 0 (r1 + 1) 0 S3 T3 (fun r4 S4 T4 => wp_10_positionOf r4 x1 S4 T4 (fun r5 S5 T5 => wp_3_add 1 r1 0 0 (r1 + 1) r5 S5 T5 (fun S6 T6 => wb_3_addGrowings_66 Q K2 x1 x2 S6 T6))))))))
set_option maxHeartbeats 4000000 in
set_option maxRecDepth 20000 in
theorem bk_3_addGrowings_2 {Q : hm_S → hm_T → Prop} {K2 : Int32 → Int32 → hm_S → hm_T → Prop} (cx : hm_cx G p s m args c prog_5_method_7_code 5 "HeapGames$Moves") (hr : meth.sig.returnType = none) (hlk : meth.locks = false) (k2 : ∀ (x1 : Int32) (x2 : Int32) (S : hm_S) (T : hm_T) (H : Heap) (locs : List Loc) (ls : Array Slot), K2 x1 x2 S T → hm_w G H0 o 74 shX S T H → hm_L o 74 locs → lv_has ls 5 [(0, .ref (o + 19)), (1, .int x1), (2, .int x2)] → W p l e rm_3_addGrowings s m args below meth c H locs 0 0 (MQ below (hm_Qv G H0 o 74 shX Q) args s 0 0 (t_fr o (o + 74))) (F0 m 2 ls [])) {x1 : Int32} {x2 : Int32} {S : hm_S} {T : hm_T} {H : Heap} {locs : List Loc} {ls : Array Slot} (h : wb_3_addGrowings_2 Q K2 x1 x2 S T) (hw : hm_w G H0 o 74 shX S T H) (hL : hm_L o 74 locs) (hl : lv_has ls 5 [(0, .ref (o + 19)), (1, .int x1), (2, .int x2)]) : W p l e rm_3_addGrowings s m args below meth c H locs 0 0 (MQ below (hm_Qv G H0 o 74 shX Q) args s 0 0 (t_fr o (o + 74))) (F0 m 2 ls []) := by
  have hx := cx.1.1
  have hb := cx.1.2.1
  unfold wb_3_addGrowings_2 at h
  refine lv_iload_n hx hb d_3_addGrowings_2 rfl (lv_at hl 2 rfl) ?_
  refine lv_aload_n hx hb d_3_addGrowings_3 rfl (lv_at hl 0 rfl) ?_
  refine gf_3_69 cx hw (i := 19) (by decide) sx_19 rfl d_3_addGrowings_4 ?_
  refine lv_icmp_ge (tgt := 72) hx hb d_3_addGrowings_7 (by decide) (fun hc => ?_) (fun hc => ?_)
  · replace h := hm_pos hc h
    exact W.vret hx hb hr (fun t ht _ => ⟨_, _, rfl, h, by rw [ht]; exact hw⟩) hL d_3_addGrowings_72
  · replace h := hm_neg hc h
    refine lv_aload_n hx hb d_3_addGrowings_10 rfl (lv_at hl 0 rfl) ?_
    refine gf_3_35 cx hw (i := 19) (r := 32) (by decide) sx_19 rfl d_3_addGrowings_11 ?_
    refine lv_iload_n hx hb d_3_addGrowings_14 rfl (lv_at hl 2 rfl) ?_
    refine hm_calli (hm_rV (i := 32) (As := [.int x2]) (rest := []) cx hw (ct_5_get (by decide) sx_32 sx_33 h) (mw_3_53 cx.1.2.2.2.2 ⟨Nat.le_of_ble_eq_true rfl, Nat.le_of_ble_eq_true rfl⟩) (by decide) sx_32 rfl rfl hl.1 rfl (Nat.le_of_ble_eq_true rfl) d_3_addGrowings_15 ⟨Nat.zero_le _, Nat.zero_le _⟩) hL (fun r1 S1 T1 H locs h hw hL => ?_)
    refine lv_istore_n (lv' := [(3, .int r1), (0, .ref (o + 19)), (1, .int x1), (2, .int x2)]) hx hb d_3_addGrowings_18 rfl hl (by decide) rfl (fun ls hl => ?_)
    refine lv_aload_n hx hb d_3_addGrowings_19 rfl (lv_at hl 1 rfl) ?_
    refine gf_3_45 cx hw (i := 19) (r := 1) (by decide) sx_19 rfl d_3_addGrowings_20 ?_
    refine lv_iload_n hx hb d_3_addGrowings_23 rfl (lv_at hl 0 rfl) ?_
    refine hm_calli (hm_rV (i := 1) (As := [.int r1]) (rest := []) cx hw (ct_6_growsAt h) (mw_3_130 cx.1.2.2.2.2 ⟨Nat.le_of_ble_eq_true rfl, Nat.le_of_ble_eq_true rfl⟩) (by decide) sx_1 rfl rfl hl.1 rfl (Nat.le_of_ble_eq_true rfl) d_3_addGrowings_24 ⟨Nat.zero_le _, Nat.zero_le _⟩) hL (fun r2 S2 T2 H locs h hw hL => ?_)
    refine lv_if_eq (tgt := 66) hx hb d_3_addGrowings_27 (by decide) (fun hc => ?_) (fun hc => ?_)
    · replace h := hm_pos hc h
      exact bk_3_addGrowings_66 cx hr hlk k2 h hw hL (lv_sub hl [1, 2, 3] rfl)
    · replace h := hm_neg hc h
      refine lv_aload_n hx hb d_3_addGrowings_30 rfl (lv_at hl 1 rfl) ?_
      refine lv_aload_n hx hb d_3_addGrowings_31 rfl (lv_at hl 1 rfl) ?_
      refine gf_3_38 cx hw (i := 19) (r := 34) (by decide) sx_19 rfl d_3_addGrowings_32 ?_
      refine lv_iload_n hx hb d_3_addGrowings_35 rfl (lv_at hl 3 rfl) ?_
      refine hm_calli (hm_rV (i := 34) (As := [.int x2]) (rest := [.ref (o + 19)]) cx hw (ct_5_get (by decide) sx_34 sx_35 h) (mw_3_53 cx.1.2.2.2.2 ⟨Nat.le_of_ble_eq_true rfl, Nat.le_of_ble_eq_true rfl⟩) (by decide) sx_34 rfl rfl hl.1 rfl (Nat.le_of_ble_eq_true rfl) d_3_addGrowings_36 ⟨Nat.zero_le _, Nat.zero_le _⟩) hL (fun r3 S3 T3 H locs h hw hL => ?_)
      refine lv_iconst (v := 0) hx hb d_3_addGrowings_39 (by decide) ?_
      refine lv_iload_n hx hb d_3_addGrowings_40 rfl (lv_at hl 0 rfl) ?_
      refine lv_iconst (v := 1) hx hb d_3_addGrowings_41 (by decide) ?_
      refine lv_iadd hx hb d_3_addGrowings_42 ?_
      refine lv_iconst (v := 0) hx hb d_3_addGrowings_43 (by decide) ?_
      refine hm_calli (hm_rV (i := 19) (As := [.int r3, .int 0, .int (r1 + 1), .int 0]) (rest := []) cx hw (ct_3_restWith h) (mw_3_126 cx.1.2.2.2.2 ⟨Nat.le_of_ble_eq_true rfl, Nat.le_of_ble_eq_true rfl⟩) (by decide) sx_19 rfl rfl hl.1 rfl (Nat.le_of_ble_eq_true rfl) d_3_addGrowings_44 ⟨Nat.zero_le _, Nat.zero_le _⟩) hL (fun r4 S4 T4 H locs h hw hL => ?_)
      refine lv_istore (lv' := [(4, .int r4), (3, .int r1), (0, .ref (o + 19)), (1, .int x1), (2, .int x2)]) hx hb d_3_addGrowings_47 hl (by decide) rfl (fun ls hl => ?_)
      refine lv_aload_n hx hb d_3_addGrowings_49 rfl (lv_at hl 2 rfl) ?_
      refine lv_iconst (v := 1) hx hb d_3_addGrowings_50 (by decide) ?_
      refine lv_iload_n hx hb d_3_addGrowings_51 rfl (lv_at hl 1 rfl) ?_
      refine lv_iconst (v := 0) hx hb d_3_addGrowings_52 (by decide) ?_
      refine lv_iconst (v := 0) hx hb d_3_addGrowings_53 (by decide) ?_
      refine lv_iload_n hx hb d_3_addGrowings_54 rfl (lv_at hl 1 rfl) ?_
      refine lv_iconst (v := 1) hx hb d_3_addGrowings_55 (by decide) ?_
      refine lv_iadd hx hb d_3_addGrowings_56 ?_
      refine lv_iload hx hb d_3_addGrowings_57 (lv_at hl 0 rfl) ?_
      refine lv_iload_n hx hb d_3_addGrowings_59 rfl (lv_at hl 3 rfl) ?_
      refine hm_calli (hm_rN (As := [.int r4, .int x1]) (rest := [.int (r1 + 1), .int 0, .int 0, .int r1, .int 1, .ref (o + 19)]) cx hw (ct_10_positionOf h) (mw_3_90 cx ⟨Nat.le_of_ble_eq_true rfl, Nat.le_of_ble_eq_true rfl⟩) rfl hl.1 rfl (Nat.le_of_ble_eq_true rfl) d_3_addGrowings_60 ⟨Nat.zero_le _, Nat.zero_le _⟩) hL (fun r5 S5 T5 H locs h hw hL => ?_)
      refine hm_callv (hm_rV (i := 19) (As := [.int 1, .int r1, .int 0, .int 0, .int (r1 + 1), .int r5]) (rest := []) cx hw (ct_3_add h) (mw_3_94 cx.1.2.2.2.2 ⟨Nat.le_of_ble_eq_true rfl, Nat.le_of_ble_eq_true rfl⟩) (by decide) sx_19 rfl rfl hl.1 rfl (Nat.le_of_ble_eq_true rfl) d_3_addGrowings_63 ⟨Nat.zero_le _, Nat.zero_le _⟩) hL (fun S6 T6 H locs h hw hL => ?_)
      exact bk_3_addGrowings_66 cx hr hlk k2 h hw hL (lv_sub hl [2, 3, 4] rfl)
def wl_3_addGrowings_2 (Q : hm_S → hm_T → Prop) : Nat → Int32 → Int32 → hm_S → hm_T → Prop
  | 0, _, _, _, _ => False
  | f + 1, x1, x2, S, T => wb_3_addGrowings_2 Q (wl_3_addGrowings_2 Q f) x1 x2 S T
theorem lp_3_addGrowings_2 {Q : hm_S → hm_T → Prop} (cx : hm_cx G p s m args c prog_5_method_7_code 5 "HeapGames$Moves") (hr : meth.sig.returnType = none) (hlk : meth.locks = false) : ∀ (f : Nat) (x1 : Int32) (x2 : Int32) (S : hm_S) (T : hm_T) (H : Heap) (locs : List Loc) (ls : Array Slot), wl_3_addGrowings_2 Q f x1 x2 S T → hm_w G H0 o 74 shX S T H → hm_L o 74 locs → lv_has ls 5 [(0, .ref (o + 19)), (1, .int x1), (2, .int x2)] → W p l e rm_3_addGrowings s m args below meth c H locs 0 0 (MQ below (hm_Qv G H0 o 74 shX Q) args s 0 0 (t_fr o (o + 74))) (F0 m 2 ls []) := by
  intro f
  induction f with
  | zero => intro x1 x2 S T H locs ls h; exact h.elim
  | succ f ih => intro x1 x2 S T H locs ls h hw hL hl; exact bk_3_addGrowings_2 cx hr hlk ih h hw hL hl
def wp_3_addGrowings (x1 : Int32) (S : hm_S) (T : hm_T) (Q : hm_S → hm_T → Prop) : Prop :=
  ∃ f, wl_3_addGrowings_2 Q f x1 0 S T
set_option maxHeartbeats 4000000 in
set_option maxRecDepth 20000 in
theorem bk_3_addGrowings_0 {Q : hm_S → hm_T → Prop} (cx : hm_cx G p s m args c prog_5_method_7_code 5 "HeapGames$Moves") (hr : meth.sig.returnType = none) (hlk : meth.locks = false) {x1 : Int32} {S : hm_S} {T : hm_T} {H : Heap} {locs : List Loc} {ls : Array Slot} (h : wp_3_addGrowings x1 S T Q) (hw : hm_w G H0 o 74 shX S T H) (hL : hm_L o 74 locs) (hl : lv_has ls 5 [(0, .ref (o + 19)), (1, .int x1)]) : W p l e rm_3_addGrowings s m args below meth c H locs 0 0 (MQ below (hm_Qv G H0 o 74 shX Q) args s 0 0 (t_fr o (o + 74))) (F0 m 0 ls []) := by
  have hx := cx.1.1
  have hb := cx.1.2.1
  unfold wp_3_addGrowings at h
  refine lv_iconst (v := 0) hx hb d_3_addGrowings_0 (by decide) ?_
  refine lv_istore_n (lv' := [(2, .int 0), (0, .ref (o + 19)), (1, .int x1)]) hx hb d_3_addGrowings_1 rfl hl (by decide) rfl (fun ls hl => ?_)
  obtain ⟨f, h⟩ := h
  exact lp_3_addGrowings_2 cx hr hlk f _ _ _ _ _ _ _ h hw hL (lv_sub hl [1, 2, 0] rfl)
set_option maxHeartbeats 4000000 in
set_option maxRecDepth 20000 in
theorem ct_3_addGrowings {x1 : Int32} {S : hm_S} {T : hm_T} {Q : hm_S → hm_T → Prop} (h : wp_3_addGrowings x1 S T Q) : hm_M l G H0 o 74 shX y_3_addGrowings prog_5_method_7_code 5 (none) rm_3_addGrowings S T [.ref (o + 19), .int x1] (hm_Qv G H0 o 74 shX Q) := by
  refine Met.ofW (cc := prog_5_method_7_code) (maxL := 5) (ret := none) (by decide) rfl ?_
  intro p e s m args below meth c s₁ B hml hv
  obtain ⟨rfl, hK, hw⟩ := hv
  have cx : hm_cx G p s m _ c prog_5_method_7_code 5 "HeapGames$Moves" := ⟨⟨B.exec, B.bytes, hml, findClass_of_methodNamed B.named, fun w hq => atoms_spec (ws := hm_ws y_3_addGrowings prog_5_method_7_code 5 (none)) B.pre w (List.mem_cons_of_mem _ hq)⟩, hK⟩
  have hl := lv_entry ([.ref (o + 19), .int x1]) (n := 5) (Nat.le_of_ble_eq_true rfl)
  rw [lg_entry_eq]
  generalize (lg_sl ([.ref (o + 19), .int x1]) ++ List.replicate (5 - (lg_sl ([.ref (o + 19), .int x1])).length) Slot.unset).toArray = ls at hl ⊢
  have hl : lv_has ls 5 [(0, .ref (o + 19)), (1, .int x1)] := hl
  exact bk_3_addGrowings_0 cx B.returns B.notSynchronized h hw (hm_L0 _ _) hl
/-! ===== HeapGames$Moves.list(I)V ===== -/
theorem d_3_list_0 : decode prog_5_method_4_code 0 = .ok (.iload_n 1, 1) := by decide +kernel
theorem d_3_list_1 : decode prog_5_method_4_code 1 = .ok (.aload_n 0, 1) := by decide +kernel
theorem d_3_list_2 : decode prog_5_method_4_code 2 = .ok (.getfield 41, 3) := by decide +kernel
theorem d_3_list_5 : decode prog_5_method_4_code 5 = .ok (.if_icmp .ne 4, 3) := by decide +kernel
theorem d_3_list_8 : decode prog_5_method_4_code 8 = .ok (.return_, 1) := by decide +kernel
theorem d_3_list_9 : decode prog_5_method_4_code 9 = .ok (.aload_n 0, 1) := by decide +kernel
theorem d_3_list_10 : decode prog_5_method_4_code 10 = .ok (.iload_n 1, 1) := by decide +kernel
theorem d_3_list_11 : decode prog_5_method_4_code 11 = .ok (.putfield 41, 3) := by decide +kernel
theorem d_3_list_14 : decode prog_5_method_4_code 14 = .ok (.aload_n 0, 1) := by decide +kernel
theorem d_3_list_15 : decode prog_5_method_4_code 15 = .ok (.iconst 0, 1) := by decide +kernel
theorem d_3_list_16 : decode prog_5_method_4_code 16 = .ok (.putfield 57, 3) := by decide +kernel
theorem d_3_list_19 : decode prog_5_method_4_code 19 = .ok (.iload_n 1, 1) := by decide +kernel
theorem d_3_list_20 : decode prog_5_method_4_code 20 = .ok (.invokestatic 60, 3) := by decide +kernel
theorem d_3_list_23 : decode prog_5_method_4_code 23 = .ok (.istore_n 2, 1) := by decide +kernel
theorem d_3_list_24 : decode prog_5_method_4_code 24 = .ok (.iload_n 1, 1) := by decide +kernel
theorem d_3_list_25 : decode prog_5_method_4_code 25 = .ok (.invokestatic 63, 3) := by decide +kernel
theorem d_3_list_28 : decode prog_5_method_4_code 28 = .ok (.istore_n 3, 1) := by decide +kernel
theorem d_3_list_29 : decode prog_5_method_4_code 29 = .ok (.aload_n 0, 1) := by decide +kernel
theorem d_3_list_30 : decode prog_5_method_4_code 30 = .ok (.iload_n 2, 1) := by decide +kernel
theorem d_3_list_31 : decode prog_5_method_4_code 31 = .ok (.invokevirtual 66, 3) := by decide +kernel
theorem d_3_list_34 : decode prog_5_method_4_code 34 = .ok (.iconst 0, 1) := by decide +kernel
theorem d_3_list_35 : decode prog_5_method_4_code 35 = .ok (.istore 4, 2) := by decide +kernel
theorem d_3_list_37 : decode prog_5_method_4_code 37 = .ok (.iload 4, 2) := by decide +kernel
theorem d_3_list_39 : decode prog_5_method_4_code 39 = .ok (.aload_n 0, 1) := by decide +kernel
theorem d_3_list_40 : decode prog_5_method_4_code 40 = .ok (.getfield 69, 3) := by decide +kernel
theorem d_3_list_43 : decode prog_5_method_4_code 43 = .ok (.if_icmp .ge 32, 3) := by decide +kernel
theorem d_3_list_46 : decode prog_5_method_4_code 46 = .ok (.aload_n 0, 1) := by decide +kernel
theorem d_3_list_47 : decode prog_5_method_4_code 47 = .ok (.aload_n 0, 1) := by decide +kernel
theorem d_3_list_48 : decode prog_5_method_4_code 48 = .ok (.getfield 35, 3) := by decide +kernel
theorem d_3_list_51 : decode prog_5_method_4_code 51 = .ok (.iload 4, 2) := by decide +kernel
theorem d_3_list_53 : decode prog_5_method_4_code 53 = .ok (.invokevirtual 53, 3) := by decide +kernel
theorem d_3_list_56 : decode prog_5_method_4_code 56 = .ok (.aload_n 0, 1) := by decide +kernel
theorem d_3_list_57 : decode prog_5_method_4_code 57 = .ok (.getfield 38, 3) := by decide +kernel
theorem d_3_list_60 : decode prog_5_method_4_code 60 = .ok (.iload 4, 2) := by decide +kernel
theorem d_3_list_62 : decode prog_5_method_4_code 62 = .ok (.invokevirtual 53, 3) := by decide +kernel
theorem d_3_list_65 : decode prog_5_method_4_code 65 = .ok (.iload_n 3, 1) := by decide +kernel
theorem d_3_list_66 : decode prog_5_method_4_code 66 = .ok (.invokevirtual 72, 3) := by decide +kernel
theorem d_3_list_69 : decode prog_5_method_4_code 69 = .ok (.iinc 4 1, 3) := by decide +kernel
theorem d_3_list_72 : decode prog_5_method_4_code 72 = .ok (.goto (-35), 3) := by decide +kernel
theorem d_3_list_75 : decode prog_5_method_4_code 75 = .ok (.aload_n 0, 1) := by decide +kernel
theorem d_3_list_76 : decode prog_5_method_4_code 76 = .ok (.getfield 49, 3) := by decide +kernel
theorem d_3_list_79 : decode prog_5_method_4_code 79 = .ok (.iload_n 2, 1) := by decide +kernel
theorem d_3_list_80 : decode prog_5_method_4_code 80 = .ok (.invokevirtual 76, 3) := by decide +kernel
theorem d_3_list_83 : decode prog_5_method_4_code 83 = .ok (.bipush 10, 2) := by decide +kernel
theorem d_3_list_85 : decode prog_5_method_4_code 85 = .ok (.if_icmp .ge 8, 3) := by decide +kernel
theorem d_3_list_88 : decode prog_5_method_4_code 88 = .ok (.aload_n 0, 1) := by decide +kernel
theorem d_3_list_89 : decode prog_5_method_4_code 89 = .ok (.iload_n 3, 1) := by decide +kernel
theorem d_3_list_90 : decode prog_5_method_4_code 90 = .ok (.invokevirtual 81, 3) := by decide +kernel
theorem d_3_list_93 : decode prog_5_method_4_code 93 = .ok (.iload_n 3, 1) := by decide +kernel
theorem d_3_list_94 : decode prog_5_method_4_code 94 = .ok (.iconst 1, 1) := by decide +kernel
theorem d_3_list_95 : decode prog_5_method_4_code 95 = .ok (.if_icmp .ne 39, 3) := by decide +kernel
theorem d_3_list_98 : decode prog_5_method_4_code 98 = .ok (.aload_n 0, 1) := by decide +kernel
theorem d_3_list_99 : decode prog_5_method_4_code 99 = .ok (.getfield 49, 3) := by decide +kernel
theorem d_3_list_102 : decode prog_5_method_4_code 102 = .ok (.iload_n 2, 1) := by decide +kernel
theorem d_3_list_103 : decode prog_5_method_4_code 103 = .ok (.invokevirtual 84, 3) := by decide +kernel
theorem d_3_list_106 : decode prog_5_method_4_code 106 = .ok (.ifCond .ne 28, 3) := by decide +kernel
theorem d_3_list_109 : decode prog_5_method_4_code 109 = .ok (.aload_n 0, 1) := by decide +kernel
theorem d_3_list_110 : decode prog_5_method_4_code 110 = .ok (.getfield 49, 3) := by decide +kernel
theorem d_3_list_113 : decode prog_5_method_4_code 113 = .ok (.iload_n 2, 1) := by decide +kernel
theorem d_3_list_114 : decode prog_5_method_4_code 114 = .ok (.invokevirtual 87, 3) := by decide +kernel
theorem d_3_list_117 : decode prog_5_method_4_code 117 = .ok (.ifCond .le 17, 3) := by decide +kernel
theorem d_3_list_120 : decode prog_5_method_4_code 120 = .ok (.aload_n 0, 1) := by decide +kernel
theorem d_3_list_121 : decode prog_5_method_4_code 121 = .ok (.iconst 2, 1) := by decide +kernel
theorem d_3_list_122 : decode prog_5_method_4_code 122 = .ok (.iconst 0, 1) := by decide +kernel
theorem d_3_list_123 : decode prog_5_method_4_code 123 = .ok (.iconst 0, 1) := by decide +kernel
theorem d_3_list_124 : decode prog_5_method_4_code 124 = .ok (.iconst 0, 1) := by decide +kernel
theorem d_3_list_125 : decode prog_5_method_4_code 125 = .ok (.iconst 0, 1) := by decide +kernel
theorem d_3_list_126 : decode prog_5_method_4_code 126 = .ok (.iload_n 2, 1) := by decide +kernel
theorem d_3_list_127 : decode prog_5_method_4_code 127 = .ok (.iconst 0, 1) := by decide +kernel
theorem d_3_list_128 : decode prog_5_method_4_code 128 = .ok (.invokestatic 90, 3) := by decide +kernel
theorem d_3_list_131 : decode prog_5_method_4_code 131 = .ok (.invokevirtual 94, 3) := by decide +kernel
theorem d_3_list_134 : decode prog_5_method_4_code 134 = .ok (.return_, 1) := by decide +kernel
def wb_3_list_93 (Q : hm_S → hm_T → Prop) (x2 : Int32) (x3 : Int32) (S : hm_S) (T : hm_T) : Prop :=
  (if x3 = 1 then wp_2_boundHeapsOf x2 S T (fun r5 S5 T5 => (if r5 = 0 then wp_2_heapsOf x2 S5 T5 (fun r6 S6 T6 => (if r6 ≤ 0 then Q S6 T6 else wp_10_positionOf x2 0 S6 T6 (fun r7 S7 T7 => wp_3_add 2 0 0 0 0 r7 S7 T7 (fun S8 T8 => Q S8 T8)))) else Q S5 T5)) else Q S T)
set_option maxHeartbeats 4000000 in
set_option maxRecDepth 20000 in
theorem bk_3_list_93 {Q : hm_S → hm_T → Prop} (cx : hm_cx G p s m args c prog_5_method_4_code 5 "HeapGames$Moves") (hr : meth.sig.returnType = none) (hlk : meth.locks = false) {x2 : Int32} {x3 : Int32} {S : hm_S} {T : hm_T} {H : Heap} {locs : List Loc} {ls : Array Slot} (h : wb_3_list_93 Q x2 x3 S T) (hw : hm_w G H0 o 74 shX S T H) (hL : hm_L o 74 locs) (hl : lv_has ls 5 [(0, .ref (o + 19)), (2, .int x2), (3, .int x3)]) : W p l e rm_3_list s m args below meth c H locs 0 0 (MQ below (hm_Qv G H0 o 74 shX Q) args s 0 0 (t_fr o (o + 74))) (F0 m 93 ls []) := by
  have hx := cx.1.1
  have hb := cx.1.2.1
  unfold wb_3_list_93 at h
  refine lv_iload_n hx hb d_3_list_93 rfl (lv_at hl 2 rfl) ?_
  refine lv_iconst (v := 1) hx hb d_3_list_94 (by decide) ?_
  refine lv_icmp_ne (tgt := 134) hx hb d_3_list_95 (by decide) (fun hc => ?_) (fun hc => ?_)
  · replace h := hm_neg hc h
    exact W.vret hx hb hr (fun t ht _ => ⟨_, _, rfl, h, by rw [ht]; exact hw⟩) hL d_3_list_134
  · replace h := hm_pos hc h
    refine lv_aload_n hx hb d_3_list_98 rfl (lv_at hl 0 rfl) ?_
    refine gf_3_49 cx hw (i := 19) (r := 4) (by decide) sx_19 rfl d_3_list_99 ?_
    refine lv_iload_n hx hb d_3_list_102 rfl (lv_at hl 1 rfl) ?_
    refine hm_calli (hm_rV (i := 4) (As := [.int x2]) (rest := []) cx hw (ct_2_boundHeapsOf (by decide) (fun _ _ _ => rfl) h) (mw_3_84 cx.1.2.2.2.2 ⟨Nat.le_of_ble_eq_true rfl, Nat.le_of_ble_eq_true rfl⟩) (by decide) sx_4 rfl rfl hl.1 rfl (Nat.le_of_ble_eq_true rfl) d_3_list_103 ⟨Nat.zero_le _, Nat.zero_le _⟩) hL (fun r5 S5 T5 H locs h hw hL => ?_)
    refine lv_if_ne (tgt := 134) hx hb d_3_list_106 (by decide) (fun hc => ?_) (fun hc => ?_)
    · replace h := hm_neg hc h
      exact W.vret hx hb hr (fun t ht _ => ⟨_, _, rfl, h, by rw [ht]; exact hw⟩) hL d_3_list_134
    · replace h := hm_pos hc h
      refine lv_aload_n hx hb d_3_list_109 rfl (lv_at hl 0 rfl) ?_
      refine gf_3_49 cx hw (i := 19) (r := 4) (by decide) sx_19 rfl d_3_list_110 ?_
      refine lv_iload_n hx hb d_3_list_113 rfl (lv_at hl 1 rfl) ?_
      refine hm_calli (hm_rV (i := 4) (As := [.int x2]) (rest := []) cx hw (ct_2_heapsOf (by decide) (fun _ _ _ => rfl) h) (mw_3_87 cx.1.2.2.2.2 ⟨Nat.le_of_ble_eq_true rfl, Nat.le_of_ble_eq_true rfl⟩) (by decide) sx_4 rfl rfl hl.1 rfl (Nat.le_of_ble_eq_true rfl) d_3_list_114 ⟨Nat.zero_le _, Nat.zero_le _⟩) hL (fun r6 S6 T6 H locs h hw hL => ?_)
      refine lv_if_le (tgt := 134) hx hb d_3_list_117 (by decide) (fun hc => ?_) (fun hc => ?_)
      · replace h := hm_pos hc h
        exact W.vret hx hb hr (fun t ht _ => ⟨_, _, rfl, h, by rw [ht]; exact hw⟩) hL d_3_list_134
      · replace h := hm_neg hc h
        refine lv_aload_n hx hb d_3_list_120 rfl (lv_at hl 0 rfl) ?_
        refine lv_iconst (v := 2) hx hb d_3_list_121 (by decide) ?_
        refine lv_iconst (v := 0) hx hb d_3_list_122 (by decide) ?_
        refine lv_iconst (v := 0) hx hb d_3_list_123 (by decide) ?_
        refine lv_iconst (v := 0) hx hb d_3_list_124 (by decide) ?_
        refine lv_iconst (v := 0) hx hb d_3_list_125 (by decide) ?_
        refine lv_iload_n hx hb d_3_list_126 rfl (lv_at hl 1 rfl) ?_
        refine lv_iconst (v := 0) hx hb d_3_list_127 (by decide) ?_
        refine hm_calli (hm_rN (As := [.int x2, .int 0]) (rest := [.int 0, .int 0, .int 0, .int 0, .int 2, .ref (o + 19)]) cx hw (ct_10_positionOf h) (mw_3_90 cx ⟨Nat.le_of_ble_eq_true rfl, Nat.le_of_ble_eq_true rfl⟩) rfl hl.1 rfl (Nat.le_of_ble_eq_true rfl) d_3_list_128 ⟨Nat.zero_le _, Nat.zero_le _⟩) hL (fun r7 S7 T7 H locs h hw hL => ?_)
        refine hm_callv (hm_rV (i := 19) (As := [.int 2, .int 0, .int 0, .int 0, .int 0, .int r7]) (rest := []) cx hw (ct_3_add h) (mw_3_94 cx.1.2.2.2.2 ⟨Nat.le_of_ble_eq_true rfl, Nat.le_of_ble_eq_true rfl⟩) (by decide) sx_19 rfl rfl hl.1 rfl (Nat.le_of_ble_eq_true rfl) d_3_list_131 ⟨Nat.zero_le _, Nat.zero_le _⟩) hL (fun S8 T8 H locs h hw hL => ?_)
        exact W.vret hx hb hr (fun t ht _ => ⟨_, _, rfl, h, by rw [ht]; exact hw⟩) hL d_3_list_134
def wb_3_list_75 (Q : hm_S → hm_T → Prop) (x2 : Int32) (x3 : Int32) (S : hm_S) (T : hm_T) : Prop :=
  wp_2_countersOf x2 S T (fun r4 S4 T4 => (if 10 ≤ r4 then wb_3_list_93 Q x2 x3 S4 T4 else wp_3_addGrowings x3 S4 T4 (fun S9 T9 => wb_3_list_93 Q x2 x3 S9 T9)))
set_option maxHeartbeats 4000000 in
set_option maxRecDepth 20000 in
theorem bk_3_list_75 {Q : hm_S → hm_T → Prop} (cx : hm_cx G p s m args c prog_5_method_4_code 5 "HeapGames$Moves") (hr : meth.sig.returnType = none) (hlk : meth.locks = false) {x2 : Int32} {x3 : Int32} {S : hm_S} {T : hm_T} {H : Heap} {locs : List Loc} {ls : Array Slot} (h : wb_3_list_75 Q x2 x3 S T) (hw : hm_w G H0 o 74 shX S T H) (hL : hm_L o 74 locs) (hl : lv_has ls 5 [(0, .ref (o + 19)), (2, .int x2), (3, .int x3)]) : W p l e rm_3_list s m args below meth c H locs 0 0 (MQ below (hm_Qv G H0 o 74 shX Q) args s 0 0 (t_fr o (o + 74))) (F0 m 75 ls []) := by
  have hx := cx.1.1
  have hb := cx.1.2.1
  unfold wb_3_list_75 at h
  refine lv_aload_n hx hb d_3_list_75 rfl (lv_at hl 0 rfl) ?_
  refine gf_3_49 cx hw (i := 19) (r := 4) (by decide) sx_19 rfl d_3_list_76 ?_
  refine lv_iload_n hx hb d_3_list_79 rfl (lv_at hl 1 rfl) ?_
  refine hm_calli (hm_rV (i := 4) (As := [.int x2]) (rest := []) cx hw (ct_2_countersOf (by decide) (fun _ _ _ => rfl) h) (mw_3_76 cx.1.2.2.2.2 ⟨Nat.le_of_ble_eq_true rfl, Nat.le_of_ble_eq_true rfl⟩) (by decide) sx_4 rfl rfl hl.1 rfl (Nat.le_of_ble_eq_true rfl) d_3_list_80 ⟨Nat.zero_le _, Nat.zero_le _⟩) hL (fun r4 S4 T4 H locs h hw hL => ?_)
  refine lv_bipush (v := 10) hx hb d_3_list_83 (by decide) ?_
  refine lv_icmp_ge (tgt := 93) hx hb d_3_list_85 (by decide) (fun hc => ?_) (fun hc => ?_)
  · replace h := hm_pos hc h
    exact bk_3_list_93 cx hr hlk h hw hL (lv_sub hl [0, 1, 2] rfl)
  · replace h := hm_neg hc h
    refine lv_aload_n hx hb d_3_list_88 rfl (lv_at hl 0 rfl) ?_
    refine lv_iload_n hx hb d_3_list_89 rfl (lv_at hl 2 rfl) ?_
    refine hm_callv (hm_rV (i := 19) (As := [.int x3]) (rest := []) cx hw (ct_3_addGrowings h) (mw_3_81 cx.1.2.2.2.2 ⟨Nat.le_of_ble_eq_true rfl, Nat.le_of_ble_eq_true rfl⟩) (by decide) sx_19 rfl rfl hl.1 rfl (Nat.le_of_ble_eq_true rfl) d_3_list_90 ⟨Nat.zero_le _, Nat.zero_le _⟩) hL (fun S9 T9 H locs h hw hL => ?_)
    exact bk_3_list_93 cx hr hlk h hw hL (lv_sub hl [0, 1, 2] rfl)
def wb_3_list_37 (Q : hm_S → hm_T → Prop) (K37 : Int32 → Int32 → Int32 → hm_S → hm_T → Prop) (x2 : Int32) (x3 : Int32) (x4 : Int32) (S : hm_S) (T : hm_T) : Prop :=
  (if (S 19 10) ≤ x4 then wb_3_list_75 Q x2 x3 S T else wp_5_get 32 10 x4 S T (fun r10 S10 T10 => wp_5_get 34 10 x4 S10 T10 (fun r11 S11 T11 => wp_3_addTakings r10 r11 x3 S11 T11 (fun S12 T12 => K37 x2 x3 (x4 + 1) S12 T12))))
set_option maxHeartbeats 4000000 in
set_option maxRecDepth 20000 in
theorem bk_3_list_37 {Q : hm_S → hm_T → Prop} {K37 : Int32 → Int32 → Int32 → hm_S → hm_T → Prop} (cx : hm_cx G p s m args c prog_5_method_4_code 5 "HeapGames$Moves") (hr : meth.sig.returnType = none) (hlk : meth.locks = false) (k37 : ∀ (x2 : Int32) (x3 : Int32) (x4 : Int32) (S : hm_S) (T : hm_T) (H : Heap) (locs : List Loc) (ls : Array Slot), K37 x2 x3 x4 S T → hm_w G H0 o 74 shX S T H → hm_L o 74 locs → lv_has ls 5 [(0, .ref (o + 19)), (2, .int x2), (3, .int x3), (4, .int x4)] → W p l e rm_3_list s m args below meth c H locs 0 0 (MQ below (hm_Qv G H0 o 74 shX Q) args s 0 0 (t_fr o (o + 74))) (F0 m 37 ls [])) {x2 : Int32} {x3 : Int32} {x4 : Int32} {S : hm_S} {T : hm_T} {H : Heap} {locs : List Loc} {ls : Array Slot} (h : wb_3_list_37 Q K37 x2 x3 x4 S T) (hw : hm_w G H0 o 74 shX S T H) (hL : hm_L o 74 locs) (hl : lv_has ls 5 [(0, .ref (o + 19)), (2, .int x2), (3, .int x3), (4, .int x4)]) : W p l e rm_3_list s m args below meth c H locs 0 0 (MQ below (hm_Qv G H0 o 74 shX Q) args s 0 0 (t_fr o (o + 74))) (F0 m 37 ls []) := by
  have hx := cx.1.1
  have hb := cx.1.2.1
  unfold wb_3_list_37 at h
  refine lv_iload hx hb d_3_list_37 (lv_at hl 3 rfl) ?_
  refine lv_aload_n hx hb d_3_list_39 rfl (lv_at hl 0 rfl) ?_
  refine gf_3_69 cx hw (i := 19) (by decide) sx_19 rfl d_3_list_40 ?_
  refine lv_icmp_ge (tgt := 75) hx hb d_3_list_43 (by decide) (fun hc => ?_) (fun hc => ?_)
  · replace h := hm_pos hc h
    exact bk_3_list_75 cx hr hlk h hw hL (lv_sub hl [0, 1, 2] rfl)
  · replace h := hm_neg hc h
    refine lv_aload_n hx hb d_3_list_46 rfl (lv_at hl 0 rfl) ?_
    refine lv_aload_n hx hb d_3_list_47 rfl (lv_at hl 0 rfl) ?_
    refine gf_3_35 cx hw (i := 19) (r := 32) (by decide) sx_19 rfl d_3_list_48 ?_
    refine lv_iload hx hb d_3_list_51 (lv_at hl 3 rfl) ?_
    refine hm_calli (hm_rV (i := 32) (As := [.int x4]) (rest := [.ref (o + 19)]) cx hw (ct_5_get (by decide) sx_32 sx_33 h) (mw_3_53 cx.1.2.2.2.2 ⟨Nat.le_of_ble_eq_true rfl, Nat.le_of_ble_eq_true rfl⟩) (by decide) sx_32 rfl rfl hl.1 rfl (Nat.le_of_ble_eq_true rfl) d_3_list_53 ⟨Nat.zero_le _, Nat.zero_le _⟩) hL (fun r10 S10 T10 H locs h hw hL => ?_)
    refine lv_aload_n hx hb d_3_list_56 rfl (lv_at hl 0 rfl) ?_
    refine gf_3_38 cx hw (i := 19) (r := 34) (by decide) sx_19 rfl d_3_list_57 ?_
    refine lv_iload hx hb d_3_list_60 (lv_at hl 3 rfl) ?_
    refine hm_calli (hm_rV (i := 34) (As := [.int x4]) (rest := [.int r10, .ref (o + 19)]) cx hw (ct_5_get (by decide) sx_34 sx_35 h) (mw_3_53 cx.1.2.2.2.2 ⟨Nat.le_of_ble_eq_true rfl, Nat.le_of_ble_eq_true rfl⟩) (by decide) sx_34 rfl rfl hl.1 rfl (Nat.le_of_ble_eq_true rfl) d_3_list_62 ⟨Nat.zero_le _, Nat.zero_le _⟩) hL (fun r11 S11 T11 H locs h hw hL => ?_)
    refine lv_iload_n hx hb d_3_list_65 rfl (lv_at hl 2 rfl) ?_
    refine hm_callv (hm_rV (i := 19) (As := [.int r10, .int r11, .int x3]) (rest := []) cx hw (ct_3_addTakings h) (mw_3_72 cx.1.2.2.2.2 ⟨Nat.le_of_ble_eq_true rfl, Nat.le_of_ble_eq_true rfl⟩) (by decide) sx_19 rfl rfl hl.1 rfl (Nat.le_of_ble_eq_true rfl) d_3_list_66 ⟨Nat.zero_le _, Nat.zero_le _⟩) hL (fun S12 T12 H locs h hw hL => ?_)
    refine lv_iinc (v := (x4 + 1)) (lv' := [(4, .int (x4 + 1)), (0, .ref (o + 19)), (2, .int x2), (3, .int x3)]) hx hb d_3_list_69 hl (k := 3) rfl rfl (by decide) rfl (fun ls hl => ?_)
    refine lv_goto (tgt := 37) hx hb d_3_list_72 (by decide) ?_
    exact k37 _ _ _ _ _ _ _ _ h hw hL (lv_sub hl [1, 2, 3, 0] rfl)
def wl_3_list_37 (Q : hm_S → hm_T → Prop) : Nat → Int32 → Int32 → Int32 → hm_S → hm_T → Prop
  | 0, _, _, _, _, _ => False
  | f + 1, x2, x3, x4, S, T => wb_3_list_37 Q (wl_3_list_37 Q f) x2 x3 x4 S T
theorem lp_3_list_37 {Q : hm_S → hm_T → Prop} (cx : hm_cx G p s m args c prog_5_method_4_code 5 "HeapGames$Moves") (hr : meth.sig.returnType = none) (hlk : meth.locks = false) : ∀ (f : Nat) (x2 : Int32) (x3 : Int32) (x4 : Int32) (S : hm_S) (T : hm_T) (H : Heap) (locs : List Loc) (ls : Array Slot), wl_3_list_37 Q f x2 x3 x4 S T → hm_w G H0 o 74 shX S T H → hm_L o 74 locs → lv_has ls 5 [(0, .ref (o + 19)), (2, .int x2), (3, .int x3), (4, .int x4)] → W p l e rm_3_list s m args below meth c H locs 0 0 (MQ below (hm_Qv G H0 o 74 shX Q) args s 0 0 (t_fr o (o + 74))) (F0 m 37 ls []) := by
  intro f
  induction f with
  | zero => intro x2 x3 x4 S T H locs ls h; exact h.elim
  | succ f ih => intro x2 x3 x4 S T H locs ls h hw hL hl; exact bk_3_list_37 cx hr hlk ih h hw hL hl
def wp_3_list (x1 : Int32) (S : hm_S) (T : hm_T) (Q : hm_S → hm_T → Prop) : Prop :=
  (if x1 = (S 19 12) then Q S T else wp_10_layoutOf x1 (hm_up (hm_up S 19 12 x1) 19 11 0) T (fun r1 S1 T1 => wp_10_passOf x1 S1 T1 (fun r2 S2 T2 => wp_3_findOpenHeaps r1 S2 T2 (fun S3 T3 => ∃ f, wl_3_list_37 Q f r1 r2 0 S3 T3))))
set_option maxHeartbeats 4000000 in
set_option maxRecDepth 20000 in
theorem bk_3_list_0 {Q : hm_S → hm_T → Prop} (cx : hm_cx G p s m args c prog_5_method_4_code 5 "HeapGames$Moves") (hr : meth.sig.returnType = none) (hlk : meth.locks = false) {x1 : Int32} {S : hm_S} {T : hm_T} {H : Heap} {locs : List Loc} {ls : Array Slot} (h : wp_3_list x1 S T Q) (hw : hm_w G H0 o 74 shX S T H) (hL : hm_L o 74 locs) (hl : lv_has ls 5 [(0, .ref (o + 19)), (1, .int x1)]) : W p l e rm_3_list s m args below meth c H locs 0 0 (MQ below (hm_Qv G H0 o 74 shX Q) args s 0 0 (t_fr o (o + 74))) (F0 m 0 ls []) := by
  have hx := cx.1.1
  have hb := cx.1.2.1
  unfold wp_3_list at h
  refine lv_iload_n hx hb d_3_list_0 rfl (lv_at hl 1 rfl) ?_
  refine lv_aload_n hx hb d_3_list_1 rfl (lv_at hl 0 rfl) ?_
  refine gf_3_41 cx hw (i := 19) (by decide) sx_19 rfl d_3_list_2 ?_
  refine lv_icmp_ne (tgt := 9) hx hb d_3_list_5 (by decide) (fun hc => ?_) (fun hc => ?_)
  · replace h := hm_neg hc h
    refine lv_aload_n hx hb d_3_list_9 rfl (lv_at hl 0 rfl) ?_
    refine lv_iload_n hx hb d_3_list_10 rfl (lv_at hl 1 rfl) ?_
    refine pf_3_41 cx hw (i := 19) (by decide) sx_19 rfl hL d_3_list_11 (fun H locs hw hL => ?_)
    refine lv_aload_n hx hb d_3_list_14 rfl (lv_at hl 0 rfl) ?_
    refine lv_iconst (v := 0) hx hb d_3_list_15 (by decide) ?_
    refine pf_3_57 cx hw (i := 19) (by decide) sx_19 rfl hL d_3_list_16 (fun H locs hw hL => ?_)
    refine lv_iload_n hx hb d_3_list_19 rfl (lv_at hl 1 rfl) ?_
    refine hm_calli (hm_rN (As := [.int x1]) (rest := []) cx hw (ct_10_layoutOf h) (mw_3_60 cx ⟨Nat.le_of_ble_eq_true rfl, Nat.le_of_ble_eq_true rfl⟩) rfl hl.1 rfl (Nat.le_of_ble_eq_true rfl) d_3_list_20 ⟨Nat.zero_le _, Nat.zero_le _⟩) hL (fun r1 S1 T1 H locs h hw hL => ?_)
    refine lv_istore_n (lv' := [(2, .int r1), (0, .ref (o + 19)), (1, .int x1)]) hx hb d_3_list_23 rfl hl (by decide) rfl (fun ls hl => ?_)
    refine lv_iload_n hx hb d_3_list_24 rfl (lv_at hl 2 rfl) ?_
    refine hm_calli (hm_rN (As := [.int x1]) (rest := []) cx hw (ct_10_passOf h) (mw_3_63 cx ⟨Nat.le_of_ble_eq_true rfl, Nat.le_of_ble_eq_true rfl⟩) rfl hl.1 rfl (Nat.le_of_ble_eq_true rfl) d_3_list_25 ⟨Nat.zero_le _, Nat.zero_le _⟩) hL (fun r2 S2 T2 H locs h hw hL => ?_)
    refine lv_istore_n (lv' := [(3, .int r2), (2, .int r1), (0, .ref (o + 19)), (1, .int x1)]) hx hb d_3_list_28 rfl hl (by decide) rfl (fun ls hl => ?_)
    refine lv_aload_n hx hb d_3_list_29 rfl (lv_at hl 2 rfl) ?_
    refine lv_iload_n hx hb d_3_list_30 rfl (lv_at hl 1 rfl) ?_
    refine hm_callv (hm_rV (i := 19) (As := [.int r1]) (rest := []) cx hw (ct_3_findOpenHeaps h) (mw_3_66 cx.1.2.2.2.2 ⟨Nat.le_of_ble_eq_true rfl, Nat.le_of_ble_eq_true rfl⟩) (by decide) sx_19 rfl rfl hl.1 rfl (Nat.le_of_ble_eq_true rfl) d_3_list_31 ⟨Nat.zero_le _, Nat.zero_le _⟩) hL (fun S3 T3 H locs h hw hL => ?_)
    refine lv_iconst (v := 0) hx hb d_3_list_34 (by decide) ?_
    refine lv_istore (lv' := [(4, .int 0), (3, .int r2), (2, .int r1), (0, .ref (o + 19)), (1, .int x1)]) hx hb d_3_list_35 hl (by decide) rfl (fun ls hl => ?_)
    obtain ⟨f, h⟩ := h
    exact lp_3_list_37 cx hr hlk f _ _ _ _ _ _ _ _ h hw hL (lv_sub hl [3, 2, 1, 0] rfl)
  · replace h := hm_pos hc h
    exact W.vret hx hb hr (fun t ht _ => ⟨_, _, rfl, h, by rw [ht]; exact hw⟩) hL d_3_list_8
set_option maxHeartbeats 4000000 in
set_option maxRecDepth 20000 in
theorem ct_3_list {x1 : Int32} {S : hm_S} {T : hm_T} {Q : hm_S → hm_T → Prop} (h : wp_3_list x1 S T Q) : hm_M l G H0 o 74 shX y_3_list prog_5_method_4_code 5 (none) rm_3_list S T [.ref (o + 19), .int x1] (hm_Qv G H0 o 74 shX Q) := by
  refine Met.ofW (cc := prog_5_method_4_code) (maxL := 5) (ret := none) (by decide) rfl ?_
  intro p e s m args below meth c s₁ B hml hv
  obtain ⟨rfl, hK, hw⟩ := hv
  have cx : hm_cx G p s m _ c prog_5_method_4_code 5 "HeapGames$Moves" := ⟨⟨B.exec, B.bytes, hml, findClass_of_methodNamed B.named, fun w hq => atoms_spec (ws := hm_ws y_3_list prog_5_method_4_code 5 (none)) B.pre w (List.mem_cons_of_mem _ hq)⟩, hK⟩
  have hl := lv_entry ([.ref (o + 19), .int x1]) (n := 5) (Nat.le_of_ble_eq_true rfl)
  rw [lg_entry_eq]
  generalize (lg_sl ([.ref (o + 19), .int x1]) ++ List.replicate (5 - (lg_sl ([.ref (o + 19), .int x1])).length) Slot.unset).toArray = ls at hl ⊢
  have hl : lv_has ls 5 [(0, .ref (o + 19)), (1, .int x1)] := hl
  exact bk_3_list_0 cx B.returns B.notSynchronized h hw (hm_L0 _ _) hl
end WK
