section WK
variable {p : Program} {l : Launch} {e : Env} {s : State} {m : MethodId} {args : Array Value} {below : List Frame} {meth : Method} {c : Code} {G : hm_G} {H0 : Heap} {o n : Nat} {sh : hm_Sh}
/-! ===== HeapGames.forgetAnswers()V ===== -/
theorem d_10_forgetAnswers_0 : decode prog_1_method_10_code 0 = .ok (.aload_n 0, 1) := by decide +kernel
theorem d_10_forgetAnswers_1 : decode prog_1_method_10_code 1 = .ok (.getfield 28, 3) := by decide +kernel
theorem d_10_forgetAnswers_4 : decode prog_1_method_10_code 4 = .ok (.invokevirtual 119, 3) := by decide +kernel
theorem d_10_forgetAnswers_7 : decode prog_1_method_10_code 7 = .ok (.aload_n 0, 1) := by decide +kernel
theorem d_10_forgetAnswers_8 : decode prog_1_method_10_code 8 = .ok (.getfield 37, 3) := by decide +kernel
theorem d_10_forgetAnswers_11 : decode prog_1_method_10_code 11 = .ok (.invokevirtual 122, 3) := by decide +kernel
theorem d_10_forgetAnswers_14 : decode prog_1_method_10_code 14 = .ok (.aload_n 0, 1) := by decide +kernel
theorem d_10_forgetAnswers_15 : decode prog_1_method_10_code 15 = .ok (.getfield 46, 3) := by decide +kernel
theorem d_10_forgetAnswers_18 : decode prog_1_method_10_code 18 = .ok (.invokevirtual 123, 3) := by decide +kernel
theorem d_10_forgetAnswers_21 : decode prog_1_method_10_code 21 = .ok (.return_, 1) := by decide +kernel
def wp_10_forgetAnswers (S : hm_S) (T : hm_T) (Q : hm_S → hm_T → Prop) : Prop :=
  wp_3_forget S T (fun S1 T1 => wp_8_forget S1 T1 (fun S2 T2 => wp_0_forget S2 T2 (fun S3 T3 => Q S3 T3)))
set_option maxHeartbeats 4000000 in
set_option maxRecDepth 20000 in
theorem bk_10_forgetAnswers_0 {Q : hm_S → hm_T → Prop} (cx : hm_cx G p s m args c prog_1_method_10_code 1 "HeapGames") (hr : meth.sig.returnType = none) (hlk : meth.locks = false) {S : hm_S} {T : hm_T} {H : Heap} {locs : List Loc} {ls : Array Slot} (h : wp_10_forgetAnswers S T Q) (hw : hm_w G H0 o 74 shX S T H) (hL : hm_L o 74 locs) (hl : lv_has ls 1 [(0, .ref (o + 0))]) : W p l e rm_10_forgetAnswers s m args below meth c H locs 0 0 (MQ below (hm_Qv G H0 o 74 shX Q) args s 0 0 (t_fr o (o + 74))) (F0 m 0 ls []) := by
  have hx := cx.1.1
  have hb := cx.1.2.1
  unfold wp_10_forgetAnswers at h
  refine lv_aload_n hx hb d_10_forgetAnswers_0 rfl (lv_at hl 0 rfl) ?_
  refine gf_10_28 cx hw (i := 0) (r := 19) (by decide) sx_0 rfl d_10_forgetAnswers_1 ?_
  refine hm_callv (hm_rV (i := 19) (As := []) (rest := []) cx hw (ct_3_forget h) (mw_10_119 cx.1.2.2.2.2 ⟨Nat.le_of_ble_eq_true rfl, Nat.le_of_ble_eq_true rfl⟩) (by decide) sx_19 rfl rfl hl.1 rfl (Nat.le_of_ble_eq_true rfl) d_10_forgetAnswers_4 ⟨Nat.zero_le _, Nat.zero_le _⟩) hL (fun S1 T1 H locs h hw hL => ?_)
  refine lv_aload_n hx hb d_10_forgetAnswers_7 rfl (lv_at hl 0 rfl) ?_
  refine gf_10_37 cx hw (i := 0) (r := 36) (by decide) sx_0 rfl d_10_forgetAnswers_8 ?_
  refine hm_callv (hm_rV (i := 36) (As := []) (rest := []) cx hw (ct_8_forget h) (mw_10_122 cx.1.2.2.2.2 ⟨Nat.le_of_ble_eq_true rfl, Nat.le_of_ble_eq_true rfl⟩) (by decide) sx_36 rfl rfl hl.1 rfl (Nat.le_of_ble_eq_true rfl) d_10_forgetAnswers_11 ⟨Nat.zero_le _, Nat.zero_le _⟩) hL (fun S2 T2 H locs h hw hL => ?_)
  refine lv_aload_n hx hb d_10_forgetAnswers_14 rfl (lv_at hl 0 rfl) ?_
  refine gf_10_46 cx hw (i := 0) (r := 59) (by decide) sx_0 rfl d_10_forgetAnswers_15 ?_
  refine hm_callv (hm_rV (i := 59) (As := []) (rest := []) cx hw (ct_0_forget h) (mw_10_123 cx.1.2.2.2.2 ⟨Nat.le_of_ble_eq_true rfl, Nat.le_of_ble_eq_true rfl⟩) (by decide) sx_59 rfl rfl hl.1 rfl (Nat.le_of_ble_eq_true rfl) d_10_forgetAnswers_18 ⟨Nat.zero_le _, Nat.zero_le _⟩) hL (fun S3 T3 H locs h hw hL => ?_)
  exact W.vret hx hb hr (fun t ht _ => ⟨_, _, rfl, h, by rw [ht]; exact hw⟩) hL d_10_forgetAnswers_21
set_option maxHeartbeats 4000000 in
set_option maxRecDepth 20000 in
theorem ct_10_forgetAnswers {S : hm_S} {T : hm_T} {Q : hm_S → hm_T → Prop} (h : wp_10_forgetAnswers S T Q) : hm_M l G H0 o 74 shX y_10_forgetAnswers prog_1_method_10_code 1 (none) rm_10_forgetAnswers S T [.ref (o + 0)] (hm_Qv G H0 o 74 shX Q) := by
  refine Met.ofW (cc := prog_1_method_10_code) (maxL := 1) (ret := none) (by decide) rfl ?_
  intro p e s m args below meth c s₁ B hml hv
  obtain ⟨rfl, hK, hw⟩ := hv
  have cx : hm_cx G p s m _ c prog_1_method_10_code 1 "HeapGames" := ⟨⟨B.exec, B.bytes, hml, findClass_of_methodNamed B.named, fun w hq => atoms_spec (ws := hm_ws y_10_forgetAnswers prog_1_method_10_code 1 (none)) B.pre w (List.mem_cons_of_mem _ hq)⟩, hK⟩
  have hl := lv_entry ([.ref (o + 0)]) (n := 1) (Nat.le_of_ble_eq_true rfl)
  rw [lg_entry_eq]
  generalize (lg_sl ([.ref (o + 0)]) ++ List.replicate (1 - (lg_sl ([.ref (o + 0)])).length) Slot.unset).toArray = ls at hl ⊢
  have hl : lv_has ls 1 [(0, .ref (o + 0))] := hl
  exact bk_10_forgetAnswers_0 cx B.returns B.notSynchronized h hw (hm_L0 _ _) hl
/-! ===== HeapGames.setDigit(II)I ===== -/
theorem d_10_setDigit_0 : decode prog_1_method_2_code 0 = .ok (.iload_n 1, 1) := by decide +kernel
theorem d_10_setDigit_1 : decode prog_1_method_2_code 1 = .ok (.iconst 1, 1) := by decide +kernel
theorem d_10_setDigit_2 : decode prog_1_method_2_code 2 = .ok (.if_icmp .lt 19, 3) := by decide +kernel
theorem d_10_setDigit_5 : decode prog_1_method_2_code 5 = .ok (.iload_n 1, 1) := by decide +kernel
theorem d_10_setDigit_6 : decode prog_1_method_2_code 6 = .ok (.bipush 10, 2) := by decide +kernel
theorem d_10_setDigit_8 : decode prog_1_method_2_code 8 = .ok (.if_icmp .gt 13, 3) := by decide +kernel
theorem d_10_setDigit_11 : decode prog_1_method_2_code 11 = .ok (.iload_n 2, 1) := by decide +kernel
theorem d_10_setDigit_12 : decode prog_1_method_2_code 12 = .ok (.ifCond .lt 9, 3) := by decide +kernel
theorem d_10_setDigit_15 : decode prog_1_method_2_code 15 = .ok (.iload_n 2, 1) := by decide +kernel
theorem d_10_setDigit_16 : decode prog_1_method_2_code 16 = .ok (.bipush 7, 2) := by decide +kernel
theorem d_10_setDigit_18 : decode prog_1_method_2_code 18 = .ok (.if_icmp .le 6, 3) := by decide +kernel
theorem d_10_setDigit_21 : decode prog_1_method_2_code 21 = .ok (.bipush (-2), 2) := by decide +kernel
theorem d_10_setDigit_23 : decode prog_1_method_2_code 23 = .ok (.ireturn, 1) := by decide +kernel
theorem d_10_setDigit_24 : decode prog_1_method_2_code 24 = .ok (.aload_n 0, 1) := by decide +kernel
theorem d_10_setDigit_25 : decode prog_1_method_2_code 25 = .ok (.getfield 20, 3) := by decide +kernel
theorem d_10_setDigit_28 : decode prog_1_method_2_code 28 = .ok (.iload_n 1, 1) := by decide +kernel
theorem d_10_setDigit_29 : decode prog_1_method_2_code 29 = .ok (.invokevirtual 84, 3) := by decide +kernel
theorem d_10_setDigit_32 : decode prog_1_method_2_code 32 = .ok (.istore_n 3, 1) := by decide +kernel
theorem d_10_setDigit_33 : decode prog_1_method_2_code 33 = .ok (.aload_n 0, 1) := by decide +kernel
theorem d_10_setDigit_34 : decode prog_1_method_2_code 34 = .ok (.getfield 20, 3) := by decide +kernel
theorem d_10_setDigit_37 : decode prog_1_method_2_code 37 = .ok (.iload_n 1, 1) := by decide +kernel
theorem d_10_setDigit_38 : decode prog_1_method_2_code 38 = .ok (.iload_n 2, 1) := by decide +kernel
theorem d_10_setDigit_39 : decode prog_1_method_2_code 39 = .ok (.invokevirtual 88, 3) := by decide +kernel
theorem d_10_setDigit_42 : decode prog_1_method_2_code 42 = .ok (.aload_n 0, 1) := by decide +kernel
theorem d_10_setDigit_43 : decode prog_1_method_2_code 43 = .ok (.invokevirtual 92, 3) := by decide +kernel
theorem d_10_setDigit_46 : decode prog_1_method_2_code 46 = .ok (.iload_n 3, 1) := by decide +kernel
theorem d_10_setDigit_47 : decode prog_1_method_2_code 47 = .ok (.ireturn, 1) := by decide +kernel
def wp_10_setDigit (x1 : Int32) (x2 : Int32) (S : hm_S) (T : hm_T) (Q : Int32 → hm_S → hm_T → Prop) : Prop :=
  (if x1 < 1 then Q (-2) S T else (if 10 < x1 then Q (-2) S T else (if x2 < 0 then Q (-2) S T else (if x2 ≤ 7 then wp_6_digitOf x1 S T (fun r1 S1 T1 => wp_6_changeDigit x1 x2 S1 T1 (fun S2 T2 => wp_10_forgetAnswers S2 T2 (fun S3 T3 => Q r1 S3 T3))) else Q (-2) S T))))
set_option maxHeartbeats 4000000 in
set_option maxRecDepth 20000 in
theorem bk_10_setDigit_0 {Q : Int32 → hm_S → hm_T → Prop} (cx : hm_cx G p s m args c prog_1_method_2_code 4 "HeapGames") (hr : meth.sig.returnType = some .int) (hlk : meth.locks = false) {x1 : Int32} {x2 : Int32} {S : hm_S} {T : hm_T} {H : Heap} {locs : List Loc} {ls : Array Slot} (h : wp_10_setDigit x1 x2 S T Q) (hw : hm_w G H0 o 74 shX S T H) (hL : hm_L o 74 locs) (hl : lv_has ls 4 [(0, .ref (o + 0)), (1, .int x1), (2, .int x2)]) : W p l e rm_10_setDigit s m args below meth c H locs 0 0 (MQ below (hm_Qi G H0 o 74 shX Q) args s 0 0 (t_fr o (o + 74))) (F0 m 0 ls []) := by
  have hx := cx.1.1
  have hb := cx.1.2.1
  unfold wp_10_setDigit at h
  refine lv_iload_n hx hb d_10_setDigit_0 rfl (lv_at hl 1 rfl) ?_
  refine lv_iconst (v := 1) hx hb d_10_setDigit_1 (by decide) ?_
  refine lv_icmp_lt (tgt := 21) hx hb d_10_setDigit_2 (by decide) (fun hc => ?_) (fun hc => ?_)
  · replace h := hm_pos hc h
    refine lv_bipush (v := (-2)) hx hb d_10_setDigit_21 (by decide) ?_
    exact W.iret hx hb hr (fun t ht _ => ⟨_, _, _, rfl, h, by rw [ht]; exact hw⟩) hL d_10_setDigit_23
  · replace h := hm_neg hc h
    refine lv_iload_n hx hb d_10_setDigit_5 rfl (lv_at hl 1 rfl) ?_
    refine lv_bipush (v := 10) hx hb d_10_setDigit_6 (by decide) ?_
    refine lv_icmp_gt (tgt := 21) hx hb d_10_setDigit_8 (by decide) (fun hc => ?_) (fun hc => ?_)
    · replace h := hm_pos hc h
      refine lv_bipush (v := (-2)) hx hb d_10_setDigit_21 (by decide) ?_
      exact W.iret hx hb hr (fun t ht _ => ⟨_, _, _, rfl, h, by rw [ht]; exact hw⟩) hL d_10_setDigit_23
    · replace h := hm_neg hc h
      refine lv_iload_n hx hb d_10_setDigit_11 rfl (lv_at hl 2 rfl) ?_
      refine lv_if_lt (tgt := 21) hx hb d_10_setDigit_12 (by decide) (fun hc => ?_) (fun hc => ?_)
      · replace h := hm_pos hc h
        refine lv_bipush (v := (-2)) hx hb d_10_setDigit_21 (by decide) ?_
        exact W.iret hx hb hr (fun t ht _ => ⟨_, _, _, rfl, h, by rw [ht]; exact hw⟩) hL d_10_setDigit_23
      · replace h := hm_neg hc h
        refine lv_iload_n hx hb d_10_setDigit_15 rfl (lv_at hl 2 rfl) ?_
        refine lv_bipush (v := 7) hx hb d_10_setDigit_16 (by decide) ?_
        refine lv_icmp_le (tgt := 24) hx hb d_10_setDigit_18 (by decide) (fun hc => ?_) (fun hc => ?_)
        · replace h := hm_pos hc h
          refine lv_aload_n hx hb d_10_setDigit_24 rfl (lv_at hl 0 rfl) ?_
          refine gf_10_20 cx hw (i := 0) (r := 1) (by decide) sx_0 rfl d_10_setDigit_25 ?_
          refine lv_iload_n hx hb d_10_setDigit_28 rfl (lv_at hl 1 rfl) ?_
          refine hm_calli (hm_rV (i := 1) (As := [.int x1]) (rest := []) cx hw (ct_6_digitOf h) (mw_10_84 cx.1.2.2.2.2 ⟨Nat.le_of_ble_eq_true rfl, Nat.le_of_ble_eq_true rfl⟩) (by decide) sx_1 rfl rfl hl.1 rfl (Nat.le_of_ble_eq_true rfl) d_10_setDigit_29 ⟨Nat.zero_le _, Nat.zero_le _⟩) hL (fun r1 S1 T1 H locs h hw hL => ?_)
          refine lv_istore_n (lv' := [(3, .int r1), (0, .ref (o + 0)), (1, .int x1), (2, .int x2)]) hx hb d_10_setDigit_32 rfl hl (by decide) rfl (fun ls hl => ?_)
          refine lv_aload_n hx hb d_10_setDigit_33 rfl (lv_at hl 1 rfl) ?_
          refine gf_10_20 cx hw (i := 0) (r := 1) (by decide) sx_0 rfl d_10_setDigit_34 ?_
          refine lv_iload_n hx hb d_10_setDigit_37 rfl (lv_at hl 2 rfl) ?_
          refine lv_iload_n hx hb d_10_setDigit_38 rfl (lv_at hl 3 rfl) ?_
          refine hm_callv (hm_rV (i := 1) (As := [.int x1, .int x2]) (rest := []) cx hw (ct_6_changeDigit h) (mw_10_88 cx.1.2.2.2.2 ⟨Nat.le_of_ble_eq_true rfl, Nat.le_of_ble_eq_true rfl⟩) (by decide) sx_1 rfl rfl hl.1 rfl (Nat.le_of_ble_eq_true rfl) d_10_setDigit_39 ⟨Nat.zero_le _, Nat.zero_le _⟩) hL (fun S2 T2 H locs h hw hL => ?_)
          refine lv_aload_n hx hb d_10_setDigit_42 rfl (lv_at hl 1 rfl) ?_
          refine hm_callv (hm_rV (i := 0) (As := []) (rest := []) cx hw (ct_10_forgetAnswers h) (mw_10_92 cx.1.2.2.2.2 ⟨Nat.le_of_ble_eq_true rfl, Nat.le_of_ble_eq_true rfl⟩) (by decide) sx_0 rfl rfl hl.1 rfl (Nat.le_of_ble_eq_true rfl) d_10_setDigit_43 ⟨Nat.zero_le _, Nat.zero_le _⟩) hL (fun S3 T3 H locs h hw hL => ?_)
          refine lv_iload_n hx hb d_10_setDigit_46 rfl (lv_at hl 0 rfl) ?_
          exact W.iret hx hb hr (fun t ht _ => ⟨_, _, _, rfl, h, by rw [ht]; exact hw⟩) hL d_10_setDigit_47
        · replace h := hm_neg hc h
          refine lv_bipush (v := (-2)) hx hb d_10_setDigit_21 (by decide) ?_
          exact W.iret hx hb hr (fun t ht _ => ⟨_, _, _, rfl, h, by rw [ht]; exact hw⟩) hL d_10_setDigit_23
set_option maxHeartbeats 4000000 in
set_option maxRecDepth 20000 in
theorem ct_10_setDigit {x1 : Int32} {x2 : Int32} {S : hm_S} {T : hm_T} {Q : Int32 → hm_S → hm_T → Prop} (h : wp_10_setDigit x1 x2 S T Q) : hm_M l G H0 o 74 shX y_10_setDigit prog_1_method_2_code 4 (some .int) rm_10_setDigit S T [.ref (o + 0), .int x1, .int x2] (hm_Qi G H0 o 74 shX Q) := by
  refine Met.ofW (cc := prog_1_method_2_code) (maxL := 4) (ret := some .int) (by decide) rfl ?_
  intro p e s m args below meth c s₁ B hml hv
  obtain ⟨rfl, hK, hw⟩ := hv
  have cx : hm_cx G p s m _ c prog_1_method_2_code 4 "HeapGames" := ⟨⟨B.exec, B.bytes, hml, findClass_of_methodNamed B.named, fun w hq => atoms_spec (ws := hm_ws y_10_setDigit prog_1_method_2_code 4 (some .int)) B.pre w (List.mem_cons_of_mem _ hq)⟩, hK⟩
  have hl := lv_entry ([.ref (o + 0), .int x1, .int x2]) (n := 4) (Nat.le_of_ble_eq_true rfl)
  rw [lg_entry_eq]
  generalize (lg_sl ([.ref (o + 0), .int x1, .int x2]) ++ List.replicate (4 - (lg_sl ([.ref (o + 0), .int x1, .int x2])).length) Slot.unset).toArray = ls at hl ⊢
  have hl : lv_has ls 4 [(0, .ref (o + 0)), (1, .int x1), (2, .int x2)] := hl
  exact bk_10_setDigit_0 cx B.returns B.notSynchronized h hw (hm_L0 _ _) hl
/-! ===== HeapGames.setObliging(I)I ===== -/
theorem d_10_setObliging_0 : decode prog_1_method_3_code 0 = .ok (.iload_n 1, 1) := by decide +kernel
theorem d_10_setObliging_1 : decode prog_1_method_3_code 1 = .ok (.sipush (-2047), 3) := by decide +kernel
theorem d_10_setObliging_4 : decode prog_1_method_3_code 4 = .ok (.iand, 1) := by decide +kernel
theorem d_10_setObliging_5 : decode prog_1_method_3_code 5 = .ok (.ifCond .eq 6, 3) := by decide +kernel
theorem d_10_setObliging_8 : decode prog_1_method_3_code 8 = .ok (.bipush (-2), 2) := by decide +kernel
theorem d_10_setObliging_10 : decode prog_1_method_3_code 10 = .ok (.ireturn, 1) := by decide +kernel
theorem d_10_setObliging_11 : decode prog_1_method_3_code 11 = .ok (.aload_n 0, 1) := by decide +kernel
theorem d_10_setObliging_12 : decode prog_1_method_3_code 12 = .ok (.getfield 20, 3) := by decide +kernel
theorem d_10_setObliging_15 : decode prog_1_method_3_code 15 = .ok (.getfield 95, 3) := by decide +kernel
theorem d_10_setObliging_18 : decode prog_1_method_3_code 18 = .ok (.istore_n 2, 1) := by decide +kernel
theorem d_10_setObliging_19 : decode prog_1_method_3_code 19 = .ok (.aload_n 0, 1) := by decide +kernel
theorem d_10_setObliging_20 : decode prog_1_method_3_code 20 = .ok (.getfield 20, 3) := by decide +kernel
theorem d_10_setObliging_23 : decode prog_1_method_3_code 23 = .ok (.iload_n 1, 1) := by decide +kernel
theorem d_10_setObliging_24 : decode prog_1_method_3_code 24 = .ok (.putfield 95, 3) := by decide +kernel
theorem d_10_setObliging_27 : decode prog_1_method_3_code 27 = .ok (.aload_n 0, 1) := by decide +kernel
theorem d_10_setObliging_28 : decode prog_1_method_3_code 28 = .ok (.invokevirtual 92, 3) := by decide +kernel
theorem d_10_setObliging_31 : decode prog_1_method_3_code 31 = .ok (.iload_n 2, 1) := by decide +kernel
theorem d_10_setObliging_32 : decode prog_1_method_3_code 32 = .ok (.ireturn, 1) := by decide +kernel
def wp_10_setObliging (x1 : Int32) (S : hm_S) (T : hm_T) (Q : Int32 → hm_S → hm_T → Prop) : Prop :=
  (if (x1 &&& (-2047)) = 0 then wp_10_forgetAnswers (hm_up S 1 1 x1) T (fun S1 T1 => Q (S 1 1) S1 T1) else Q (-2) S T)
set_option maxHeartbeats 4000000 in
set_option maxRecDepth 20000 in
theorem bk_10_setObliging_0 {Q : Int32 → hm_S → hm_T → Prop} (cx : hm_cx G p s m args c prog_1_method_3_code 3 "HeapGames") (hr : meth.sig.returnType = some .int) (hlk : meth.locks = false) {x1 : Int32} {S : hm_S} {T : hm_T} {H : Heap} {locs : List Loc} {ls : Array Slot} (h : wp_10_setObliging x1 S T Q) (hw : hm_w G H0 o 74 shX S T H) (hL : hm_L o 74 locs) (hl : lv_has ls 3 [(0, .ref (o + 0)), (1, .int x1)]) : W p l e rm_10_setObliging s m args below meth c H locs 0 0 (MQ below (hm_Qi G H0 o 74 shX Q) args s 0 0 (t_fr o (o + 74))) (F0 m 0 ls []) := by
  have hx := cx.1.1
  have hb := cx.1.2.1
  unfold wp_10_setObliging at h
  refine lv_iload_n hx hb d_10_setObliging_0 rfl (lv_at hl 1 rfl) ?_
  refine lv_sipush (v := (-2047)) hx hb d_10_setObliging_1 (by decide) ?_
  refine lv_iand hx hb d_10_setObliging_4 ?_
  refine lv_if_eq (tgt := 11) hx hb d_10_setObliging_5 (by decide) (fun hc => ?_) (fun hc => ?_)
  · replace h := hm_pos hc h
    refine lv_aload_n hx hb d_10_setObliging_11 rfl (lv_at hl 0 rfl) ?_
    refine gf_10_20 cx hw (i := 0) (r := 1) (by decide) sx_0 rfl d_10_setObliging_12 ?_
    refine gf_10_95 cx hw (i := 1) (by decide) sx_1 rfl d_10_setObliging_15 ?_
    refine lv_istore_n (lv' := [(2, .int (S 1 1)), (0, .ref (o + 0)), (1, .int x1)]) hx hb d_10_setObliging_18 rfl hl (by decide) rfl (fun ls hl => ?_)
    refine lv_aload_n hx hb d_10_setObliging_19 rfl (lv_at hl 1 rfl) ?_
    refine gf_10_20 cx hw (i := 0) (r := 1) (by decide) sx_0 rfl d_10_setObliging_20 ?_
    refine lv_iload_n hx hb d_10_setObliging_23 rfl (lv_at hl 2 rfl) ?_
    refine pf_10_95 cx hw (i := 1) (by decide) sx_1 rfl hL d_10_setObliging_24 (fun H locs hw hL => ?_)
    refine lv_aload_n hx hb d_10_setObliging_27 rfl (lv_at hl 1 rfl) ?_
    refine hm_callv (hm_rV (i := 0) (As := []) (rest := []) cx hw (ct_10_forgetAnswers h) (mw_10_92 cx.1.2.2.2.2 ⟨Nat.le_of_ble_eq_true rfl, Nat.le_of_ble_eq_true rfl⟩) (by decide) sx_0 rfl rfl hl.1 rfl (Nat.le_of_ble_eq_true rfl) d_10_setObliging_28 ⟨Nat.zero_le _, Nat.zero_le _⟩) hL (fun S1 T1 H locs h hw hL => ?_)
    refine lv_iload_n hx hb d_10_setObliging_31 rfl (lv_at hl 0 rfl) ?_
    exact W.iret hx hb hr (fun t ht _ => ⟨_, _, _, rfl, h, by rw [ht]; exact hw⟩) hL d_10_setObliging_32
  · replace h := hm_neg hc h
    refine lv_bipush (v := (-2)) hx hb d_10_setObliging_8 (by decide) ?_
    exact W.iret hx hb hr (fun t ht _ => ⟨_, _, _, rfl, h, by rw [ht]; exact hw⟩) hL d_10_setObliging_10
set_option maxHeartbeats 4000000 in
set_option maxRecDepth 20000 in
theorem ct_10_setObliging {x1 : Int32} {S : hm_S} {T : hm_T} {Q : Int32 → hm_S → hm_T → Prop} (h : wp_10_setObliging x1 S T Q) : hm_M l G H0 o 74 shX y_10_setObliging prog_1_method_3_code 3 (some .int) rm_10_setObliging S T [.ref (o + 0), .int x1] (hm_Qi G H0 o 74 shX Q) := by
  refine Met.ofW (cc := prog_1_method_3_code) (maxL := 3) (ret := some .int) (by decide) rfl ?_
  intro p e s m args below meth c s₁ B hml hv
  obtain ⟨rfl, hK, hw⟩ := hv
  have cx : hm_cx G p s m _ c prog_1_method_3_code 3 "HeapGames" := ⟨⟨B.exec, B.bytes, hml, findClass_of_methodNamed B.named, fun w hq => atoms_spec (ws := hm_ws y_10_setObliging prog_1_method_3_code 3 (some .int)) B.pre w (List.mem_cons_of_mem _ hq)⟩, hK⟩
  have hl := lv_entry ([.ref (o + 0), .int x1]) (n := 3) (Nat.le_of_ble_eq_true rfl)
  rw [lg_entry_eq]
  generalize (lg_sl ([.ref (o + 0), .int x1]) ++ List.replicate (3 - (lg_sl ([.ref (o + 0), .int x1])).length) Slot.unset).toArray = ls at hl ⊢
  have hl : lv_has ls 3 [(0, .ref (o + 0)), (1, .int x1)] := hl
  exact bk_10_setObliging_0 cx B.returns B.notSynchronized h hw (hm_L0 _ _) hl
/-! ===== HeapGames.setGrowing(I)I ===== -/
theorem d_10_setGrowing_0 : decode prog_1_method_4_code 0 = .ok (.iload_n 1, 1) := by decide +kernel
theorem d_10_setGrowing_1 : decode prog_1_method_4_code 1 = .ok (.sipush (-1023), 3) := by decide +kernel
theorem d_10_setGrowing_4 : decode prog_1_method_4_code 4 = .ok (.iand, 1) := by decide +kernel
theorem d_10_setGrowing_5 : decode prog_1_method_4_code 5 = .ok (.ifCond .eq 6, 3) := by decide +kernel
theorem d_10_setGrowing_8 : decode prog_1_method_4_code 8 = .ok (.bipush (-2), 2) := by decide +kernel
theorem d_10_setGrowing_10 : decode prog_1_method_4_code 10 = .ok (.ireturn, 1) := by decide +kernel
theorem d_10_setGrowing_11 : decode prog_1_method_4_code 11 = .ok (.aload_n 0, 1) := by decide +kernel
theorem d_10_setGrowing_12 : decode prog_1_method_4_code 12 = .ok (.getfield 20, 3) := by decide +kernel
theorem d_10_setGrowing_15 : decode prog_1_method_4_code 15 = .ok (.getfield 98, 3) := by decide +kernel
theorem d_10_setGrowing_18 : decode prog_1_method_4_code 18 = .ok (.istore_n 2, 1) := by decide +kernel
theorem d_10_setGrowing_19 : decode prog_1_method_4_code 19 = .ok (.aload_n 0, 1) := by decide +kernel
theorem d_10_setGrowing_20 : decode prog_1_method_4_code 20 = .ok (.getfield 20, 3) := by decide +kernel
theorem d_10_setGrowing_23 : decode prog_1_method_4_code 23 = .ok (.iload_n 1, 1) := by decide +kernel
theorem d_10_setGrowing_24 : decode prog_1_method_4_code 24 = .ok (.putfield 98, 3) := by decide +kernel
theorem d_10_setGrowing_27 : decode prog_1_method_4_code 27 = .ok (.aload_n 0, 1) := by decide +kernel
theorem d_10_setGrowing_28 : decode prog_1_method_4_code 28 = .ok (.invokevirtual 92, 3) := by decide +kernel
theorem d_10_setGrowing_31 : decode prog_1_method_4_code 31 = .ok (.iload_n 2, 1) := by decide +kernel
theorem d_10_setGrowing_32 : decode prog_1_method_4_code 32 = .ok (.ireturn, 1) := by decide +kernel
def wp_10_setGrowing (x1 : Int32) (S : hm_S) (T : hm_T) (Q : Int32 → hm_S → hm_T → Prop) : Prop :=
  (if (x1 &&& (-1023)) = 0 then wp_10_forgetAnswers (hm_up S 1 2 x1) T (fun S1 T1 => Q (S 1 2) S1 T1) else Q (-2) S T)
set_option maxHeartbeats 4000000 in
set_option maxRecDepth 20000 in
theorem bk_10_setGrowing_0 {Q : Int32 → hm_S → hm_T → Prop} (cx : hm_cx G p s m args c prog_1_method_4_code 3 "HeapGames") (hr : meth.sig.returnType = some .int) (hlk : meth.locks = false) {x1 : Int32} {S : hm_S} {T : hm_T} {H : Heap} {locs : List Loc} {ls : Array Slot} (h : wp_10_setGrowing x1 S T Q) (hw : hm_w G H0 o 74 shX S T H) (hL : hm_L o 74 locs) (hl : lv_has ls 3 [(0, .ref (o + 0)), (1, .int x1)]) : W p l e rm_10_setGrowing s m args below meth c H locs 0 0 (MQ below (hm_Qi G H0 o 74 shX Q) args s 0 0 (t_fr o (o + 74))) (F0 m 0 ls []) := by
  have hx := cx.1.1
  have hb := cx.1.2.1
  unfold wp_10_setGrowing at h
  refine lv_iload_n hx hb d_10_setGrowing_0 rfl (lv_at hl 1 rfl) ?_
  refine lv_sipush (v := (-1023)) hx hb d_10_setGrowing_1 (by decide) ?_
  refine lv_iand hx hb d_10_setGrowing_4 ?_
  refine lv_if_eq (tgt := 11) hx hb d_10_setGrowing_5 (by decide) (fun hc => ?_) (fun hc => ?_)
  · replace h := hm_pos hc h
    refine lv_aload_n hx hb d_10_setGrowing_11 rfl (lv_at hl 0 rfl) ?_
    refine gf_10_20 cx hw (i := 0) (r := 1) (by decide) sx_0 rfl d_10_setGrowing_12 ?_
    refine gf_10_98 cx hw (i := 1) (by decide) sx_1 rfl d_10_setGrowing_15 ?_
    refine lv_istore_n (lv' := [(2, .int (S 1 2)), (0, .ref (o + 0)), (1, .int x1)]) hx hb d_10_setGrowing_18 rfl hl (by decide) rfl (fun ls hl => ?_)
    refine lv_aload_n hx hb d_10_setGrowing_19 rfl (lv_at hl 1 rfl) ?_
    refine gf_10_20 cx hw (i := 0) (r := 1) (by decide) sx_0 rfl d_10_setGrowing_20 ?_
    refine lv_iload_n hx hb d_10_setGrowing_23 rfl (lv_at hl 2 rfl) ?_
    refine pf_10_98 cx hw (i := 1) (by decide) sx_1 rfl hL d_10_setGrowing_24 (fun H locs hw hL => ?_)
    refine lv_aload_n hx hb d_10_setGrowing_27 rfl (lv_at hl 1 rfl) ?_
    refine hm_callv (hm_rV (i := 0) (As := []) (rest := []) cx hw (ct_10_forgetAnswers h) (mw_10_92 cx.1.2.2.2.2 ⟨Nat.le_of_ble_eq_true rfl, Nat.le_of_ble_eq_true rfl⟩) (by decide) sx_0 rfl rfl hl.1 rfl (Nat.le_of_ble_eq_true rfl) d_10_setGrowing_28 ⟨Nat.zero_le _, Nat.zero_le _⟩) hL (fun S1 T1 H locs h hw hL => ?_)
    refine lv_iload_n hx hb d_10_setGrowing_31 rfl (lv_at hl 0 rfl) ?_
    exact W.iret hx hb hr (fun t ht _ => ⟨_, _, _, rfl, h, by rw [ht]; exact hw⟩) hL d_10_setGrowing_32
  · replace h := hm_neg hc h
    refine lv_bipush (v := (-2)) hx hb d_10_setGrowing_8 (by decide) ?_
    exact W.iret hx hb hr (fun t ht _ => ⟨_, _, _, rfl, h, by rw [ht]; exact hw⟩) hL d_10_setGrowing_10
set_option maxHeartbeats 4000000 in
set_option maxRecDepth 20000 in
theorem ct_10_setGrowing {x1 : Int32} {S : hm_S} {T : hm_T} {Q : Int32 → hm_S → hm_T → Prop} (h : wp_10_setGrowing x1 S T Q) : hm_M l G H0 o 74 shX y_10_setGrowing prog_1_method_4_code 3 (some .int) rm_10_setGrowing S T [.ref (o + 0), .int x1] (hm_Qi G H0 o 74 shX Q) := by
  refine Met.ofW (cc := prog_1_method_4_code) (maxL := 3) (ret := some .int) (by decide) rfl ?_
  intro p e s m args below meth c s₁ B hml hv
  obtain ⟨rfl, hK, hw⟩ := hv
  have cx : hm_cx G p s m _ c prog_1_method_4_code 3 "HeapGames" := ⟨⟨B.exec, B.bytes, hml, findClass_of_methodNamed B.named, fun w hq => atoms_spec (ws := hm_ws y_10_setGrowing prog_1_method_4_code 3 (some .int)) B.pre w (List.mem_cons_of_mem _ hq)⟩, hK⟩
  have hl := lv_entry ([.ref (o + 0), .int x1]) (n := 3) (Nat.le_of_ble_eq_true rfl)
  rw [lg_entry_eq]
  generalize (lg_sl ([.ref (o + 0), .int x1]) ++ List.replicate (3 - (lg_sl ([.ref (o + 0), .int x1])).length) Slot.unset).toArray = ls at hl ⊢
  have hl : lv_has ls 3 [(0, .ref (o + 0)), (1, .int x1)] := hl
  exact bk_10_setGrowing_0 cx B.returns B.notSynchronized h hw (hm_L0 _ _) hl
/-! ===== HeapGames.setMisere(Z)I ===== -/
theorem d_10_setMisere_0 : decode prog_1_method_5_code 0 = .ok (.aload_n 0, 1) := by decide +kernel
theorem d_10_setMisere_1 : decode prog_1_method_5_code 1 = .ok (.getfield 20, 3) := by decide +kernel
theorem d_10_setMisere_4 : decode prog_1_method_5_code 4 = .ok (.getfield 101, 3) := by decide +kernel
theorem d_10_setMisere_7 : decode prog_1_method_5_code 7 = .ok (.istore_n 2, 1) := by decide +kernel
theorem d_10_setMisere_8 : decode prog_1_method_5_code 8 = .ok (.aload_n 0, 1) := by decide +kernel
theorem d_10_setMisere_9 : decode prog_1_method_5_code 9 = .ok (.getfield 20, 3) := by decide +kernel
theorem d_10_setMisere_12 : decode prog_1_method_5_code 12 = .ok (.iload_n 1, 1) := by decide +kernel
theorem d_10_setMisere_13 : decode prog_1_method_5_code 13 = .ok (.ifCond .eq 7, 3) := by decide +kernel
theorem d_10_setMisere_16 : decode prog_1_method_5_code 16 = .ok (.iconst 1, 1) := by decide +kernel
theorem d_10_setMisere_17 : decode prog_1_method_5_code 17 = .ok (.goto 4, 3) := by decide +kernel
theorem d_10_setMisere_20 : decode prog_1_method_5_code 20 = .ok (.iconst 0, 1) := by decide +kernel
theorem d_10_setMisere_21 : decode prog_1_method_5_code 21 = .ok (.putfield 101, 3) := by decide +kernel
theorem d_10_setMisere_24 : decode prog_1_method_5_code 24 = .ok (.aload_n 0, 1) := by decide +kernel
theorem d_10_setMisere_25 : decode prog_1_method_5_code 25 = .ok (.invokevirtual 92, 3) := by decide +kernel
theorem d_10_setMisere_28 : decode prog_1_method_5_code 28 = .ok (.iload_n 2, 1) := by decide +kernel
theorem d_10_setMisere_29 : decode prog_1_method_5_code 29 = .ok (.ireturn, 1) := by decide +kernel
def wb_10_setMisere_21 (Q : Int32 → hm_S → hm_T → Prop) (x2 : Int32) (z0 : Int32) (S : hm_S) (T : hm_T) : Prop :=
  wp_10_forgetAnswers (hm_up S 1 3 z0) T (fun S1 T1 => Q x2 S1 T1)
set_option maxHeartbeats 4000000 in
set_option maxRecDepth 20000 in
theorem bk_10_setMisere_21 {Q : Int32 → hm_S → hm_T → Prop} (cx : hm_cx G p s m args c prog_1_method_5_code 3 "HeapGames") (hr : meth.sig.returnType = some .int) (hlk : meth.locks = false) {x2 : Int32} {z0 : Int32} {S : hm_S} {T : hm_T} {H : Heap} {locs : List Loc} {ls : Array Slot} (h : wb_10_setMisere_21 Q x2 z0 S T) (hw : hm_w G H0 o 74 shX S T H) (hL : hm_L o 74 locs) (hl : lv_has ls 3 [(0, .ref (o + 0)), (2, .int x2)]) : W p l e rm_10_setMisere s m args below meth c H locs 0 0 (MQ below (hm_Qi G H0 o 74 shX Q) args s 0 0 (t_fr o (o + 74))) (F0 m 21 ls [.int z0, .ref (o + 1)]) := by
  have hx := cx.1.1
  have hb := cx.1.2.1
  unfold wb_10_setMisere_21 at h
  refine pf_10_101 cx hw (i := 1) (by decide) sx_1 rfl hL d_10_setMisere_21 (fun H locs hw hL => ?_)
  refine lv_aload_n hx hb d_10_setMisere_24 rfl (lv_at hl 0 rfl) ?_
  refine hm_callv (hm_rV (i := 0) (As := []) (rest := []) cx hw (ct_10_forgetAnswers h) (mw_10_92 cx.1.2.2.2.2 ⟨Nat.le_of_ble_eq_true rfl, Nat.le_of_ble_eq_true rfl⟩) (by decide) sx_0 rfl rfl hl.1 rfl (Nat.le_of_ble_eq_true rfl) d_10_setMisere_25 ⟨Nat.zero_le _, Nat.zero_le _⟩) hL (fun S1 T1 H locs h hw hL => ?_)
  refine lv_iload_n hx hb d_10_setMisere_28 rfl (lv_at hl 1 rfl) ?_
  exact W.iret hx hb hr (fun t ht _ => ⟨_, _, _, rfl, h, by rw [ht]; exact hw⟩) hL d_10_setMisere_29
def wp_10_setMisere (x1 : Int32) (S : hm_S) (T : hm_T) (Q : Int32 → hm_S → hm_T → Prop) : Prop :=
  (if x1 = 0 then wb_10_setMisere_21 Q (S 1 3) 0 S T else wb_10_setMisere_21 Q (S 1 3) 1 S T)
set_option maxHeartbeats 4000000 in
set_option maxRecDepth 20000 in
theorem bk_10_setMisere_0 {Q : Int32 → hm_S → hm_T → Prop} (cx : hm_cx G p s m args c prog_1_method_5_code 3 "HeapGames") (hr : meth.sig.returnType = some .int) (hlk : meth.locks = false) {x1 : Int32} {S : hm_S} {T : hm_T} {H : Heap} {locs : List Loc} {ls : Array Slot} (h : wp_10_setMisere x1 S T Q) (hw : hm_w G H0 o 74 shX S T H) (hL : hm_L o 74 locs) (hl : lv_has ls 3 [(0, .ref (o + 0)), (1, .int x1)]) : W p l e rm_10_setMisere s m args below meth c H locs 0 0 (MQ below (hm_Qi G H0 o 74 shX Q) args s 0 0 (t_fr o (o + 74))) (F0 m 0 ls []) := by
  have hx := cx.1.1
  have hb := cx.1.2.1
  unfold wp_10_setMisere at h
  refine lv_aload_n hx hb d_10_setMisere_0 rfl (lv_at hl 0 rfl) ?_
  refine gf_10_20 cx hw (i := 0) (r := 1) (by decide) sx_0 rfl d_10_setMisere_1 ?_
  refine gf_10_101 cx hw (i := 1) (by decide) sx_1 rfl d_10_setMisere_4 ?_
  refine lv_istore_n (lv' := [(2, .int (S 1 3)), (0, .ref (o + 0)), (1, .int x1)]) hx hb d_10_setMisere_7 rfl hl (by decide) rfl (fun ls hl => ?_)
  refine lv_aload_n hx hb d_10_setMisere_8 rfl (lv_at hl 1 rfl) ?_
  refine gf_10_20 cx hw (i := 0) (r := 1) (by decide) sx_0 rfl d_10_setMisere_9 ?_
  refine lv_iload_n hx hb d_10_setMisere_12 rfl (lv_at hl 2 rfl) ?_
  refine lv_if_eq (tgt := 20) hx hb d_10_setMisere_13 (by decide) (fun hc => ?_) (fun hc => ?_)
  · replace h := hm_pos hc h
    refine lv_iconst (v := 0) hx hb d_10_setMisere_20 (by decide) ?_
    exact bk_10_setMisere_21 cx hr hlk h hw hL (lv_sub hl [1, 0] rfl)
  · replace h := hm_neg hc h
    refine lv_iconst (v := 1) hx hb d_10_setMisere_16 (by decide) ?_
    refine lv_goto (tgt := 21) hx hb d_10_setMisere_17 (by decide) ?_
    exact bk_10_setMisere_21 cx hr hlk h hw hL (lv_sub hl [1, 0] rfl)
set_option maxHeartbeats 4000000 in
set_option maxRecDepth 20000 in
theorem ct_10_setMisere {x1 : Int32} {S : hm_S} {T : hm_T} {Q : Int32 → hm_S → hm_T → Prop} (h : wp_10_setMisere x1 S T Q) : hm_M l G H0 o 74 shX y_10_setMisere prog_1_method_5_code 3 (some .int) rm_10_setMisere S T [.ref (o + 0), .int x1] (hm_Qi G H0 o 74 shX Q) := by
  refine Met.ofW (cc := prog_1_method_5_code) (maxL := 3) (ret := some .int) (by decide) rfl ?_
  intro p e s m args below meth c s₁ B hml hv
  obtain ⟨rfl, hK, hw⟩ := hv
  have cx : hm_cx G p s m _ c prog_1_method_5_code 3 "HeapGames" := ⟨⟨B.exec, B.bytes, hml, findClass_of_methodNamed B.named, fun w hq => atoms_spec (ws := hm_ws y_10_setMisere prog_1_method_5_code 3 (some .int)) B.pre w (List.mem_cons_of_mem _ hq)⟩, hK⟩
  have hl := lv_entry ([.ref (o + 0), .int x1]) (n := 3) (Nat.le_of_ble_eq_true rfl)
  rw [lg_entry_eq]
  generalize (lg_sl ([.ref (o + 0), .int x1]) ++ List.replicate (3 - (lg_sl ([.ref (o + 0), .int x1])).length) Slot.unset).toArray = ls at hl ⊢
  have hl : lv_has ls 3 [(0, .ref (o + 0)), (1, .int x1)] := hl
  exact bk_10_setMisere_0 cx B.returns B.notSynchronized h hw (hm_L0 _ _) hl
/-! ===== HeapGames.type(I)I ===== -/
theorem d_10_type_0 : decode prog_1_method_6_code 0 = .ok (.iload_n 1, 1) := by decide +kernel
theorem d_10_type_1 : decode prog_1_method_6_code 1 = .ok (.ifCond .lt 9, 3) := by decide +kernel
theorem d_10_type_4 : decode prog_1_method_6_code 4 = .ok (.iload_n 1, 1) := by decide +kernel
theorem d_10_type_5 : decode prog_1_method_6_code 5 = .ok (.bipush 127, 2) := by decide +kernel
theorem d_10_type_7 : decode prog_1_method_6_code 7 = .ok (.if_icmp .le 6, 3) := by decide +kernel
theorem d_10_type_10 : decode prog_1_method_6_code 10 = .ok (.bipush (-2), 2) := by decide +kernel
theorem d_10_type_12 : decode prog_1_method_6_code 12 = .ok (.ireturn, 1) := by decide +kernel
theorem d_10_type_13 : decode prog_1_method_6_code 13 = .ok (.aload_n 0, 1) := by decide +kernel
theorem d_10_type_14 : decode prog_1_method_6_code 14 = .ok (.getfield 53, 3) := by decide +kernel
theorem d_10_type_17 : decode prog_1_method_6_code 17 = .ok (.getfield 104, 3) := by decide +kernel
theorem d_10_type_20 : decode prog_1_method_6_code 20 = .ok (.bipush 40, 2) := by decide +kernel
theorem d_10_type_22 : decode prog_1_method_6_code 22 = .ok (.if_icmp .lt 6, 3) := by decide +kernel
theorem d_10_type_25 : decode prog_1_method_6_code 25 = .ok (.bipush (-4), 2) := by decide +kernel
theorem d_10_type_27 : decode prog_1_method_6_code 27 = .ok (.ireturn, 1) := by decide +kernel
theorem d_10_type_28 : decode prog_1_method_6_code 28 = .ok (.aload_n 0, 1) := by decide +kernel
theorem d_10_type_29 : decode prog_1_method_6_code 29 = .ok (.getfield 53, 3) := by decide +kernel
theorem d_10_type_32 : decode prog_1_method_6_code 32 = .ok (.iload_n 1, 1) := by decide +kernel
theorem d_10_type_33 : decode prog_1_method_6_code 33 = .ok (.invokevirtual 107, 3) := by decide +kernel
theorem d_10_type_36 : decode prog_1_method_6_code 36 = .ok (.aload_n 0, 1) := by decide +kernel
theorem d_10_type_37 : decode prog_1_method_6_code 37 = .ok (.getfield 53, 3) := by decide +kernel
theorem d_10_type_40 : decode prog_1_method_6_code 40 = .ok (.getfield 104, 3) := by decide +kernel
theorem d_10_type_43 : decode prog_1_method_6_code 43 = .ok (.ireturn, 1) := by decide +kernel
def wp_10_type (x1 : Int32) (S : hm_S) (T : hm_T) (Q : Int32 → hm_S → hm_T → Prop) : Prop :=
  (if x1 < 0 then Q (-2) S T else (if x1 ≤ 127 then (if (S 64 1) < 40 then wp_9_append x1 S T (fun S1 T1 => Q (S1 64 1) S1 T1) else Q (-4) S T) else Q (-2) S T))
set_option maxHeartbeats 4000000 in
set_option maxRecDepth 20000 in
theorem bk_10_type_0 {Q : Int32 → hm_S → hm_T → Prop} (cx : hm_cx G p s m args c prog_1_method_6_code 2 "HeapGames") (hr : meth.sig.returnType = some .int) (hlk : meth.locks = false) {x1 : Int32} {S : hm_S} {T : hm_T} {H : Heap} {locs : List Loc} {ls : Array Slot} (h : wp_10_type x1 S T Q) (hw : hm_w G H0 o 74 shX S T H) (hL : hm_L o 74 locs) (hl : lv_has ls 2 [(0, .ref (o + 0)), (1, .int x1)]) : W p l e rm_10_type s m args below meth c H locs 0 0 (MQ below (hm_Qi G H0 o 74 shX Q) args s 0 0 (t_fr o (o + 74))) (F0 m 0 ls []) := by
  have hx := cx.1.1
  have hb := cx.1.2.1
  unfold wp_10_type at h
  refine lv_iload_n hx hb d_10_type_0 rfl (lv_at hl 1 rfl) ?_
  refine lv_if_lt (tgt := 10) hx hb d_10_type_1 (by decide) (fun hc => ?_) (fun hc => ?_)
  · replace h := hm_pos hc h
    refine lv_bipush (v := (-2)) hx hb d_10_type_10 (by decide) ?_
    exact W.iret hx hb hr (fun t ht _ => ⟨_, _, _, rfl, h, by rw [ht]; exact hw⟩) hL d_10_type_12
  · replace h := hm_neg hc h
    refine lv_iload_n hx hb d_10_type_4 rfl (lv_at hl 1 rfl) ?_
    refine lv_bipush (v := 127) hx hb d_10_type_5 (by decide) ?_
    refine lv_icmp_le (tgt := 13) hx hb d_10_type_7 (by decide) (fun hc => ?_) (fun hc => ?_)
    · replace h := hm_pos hc h
      refine lv_aload_n hx hb d_10_type_13 rfl (lv_at hl 0 rfl) ?_
      refine gf_10_53 cx hw (i := 0) (r := 64) (by decide) sx_0 rfl d_10_type_14 ?_
      refine gf_10_104 cx hw (i := 64) (by decide) sx_64 rfl d_10_type_17 ?_
      refine lv_bipush (v := 40) hx hb d_10_type_20 (by decide) ?_
      refine lv_icmp_lt (tgt := 28) hx hb d_10_type_22 (by decide) (fun hc => ?_) (fun hc => ?_)
      · replace h := hm_pos hc h
        refine lv_aload_n hx hb d_10_type_28 rfl (lv_at hl 0 rfl) ?_
        refine gf_10_53 cx hw (i := 0) (r := 64) (by decide) sx_0 rfl d_10_type_29 ?_
        refine lv_iload_n hx hb d_10_type_32 rfl (lv_at hl 1 rfl) ?_
        refine hm_callv (hm_rV (i := 64) (As := [.int x1]) (rest := []) cx hw (ct_9_append h) (mw_10_107 cx.1.2.2.2.2 ⟨Nat.le_of_ble_eq_true rfl, Nat.le_of_ble_eq_true rfl⟩) (by decide) sx_64 rfl rfl hl.1 rfl (Nat.le_of_ble_eq_true rfl) d_10_type_33 ⟨Nat.zero_le _, Nat.zero_le _⟩) hL (fun S1 T1 H locs h hw hL => ?_)
        refine lv_aload_n hx hb d_10_type_36 rfl (lv_at hl 0 rfl) ?_
        refine gf_10_53 cx hw (i := 0) (r := 64) (by decide) sx_0 rfl d_10_type_37 ?_
        refine gf_10_104 cx hw (i := 64) (by decide) sx_64 rfl d_10_type_40 ?_
        exact W.iret hx hb hr (fun t ht _ => ⟨_, _, _, rfl, h, by rw [ht]; exact hw⟩) hL d_10_type_43
      · replace h := hm_neg hc h
        refine lv_bipush (v := (-4)) hx hb d_10_type_25 (by decide) ?_
        exact W.iret hx hb hr (fun t ht _ => ⟨_, _, _, rfl, h, by rw [ht]; exact hw⟩) hL d_10_type_27
    · replace h := hm_neg hc h
      refine lv_bipush (v := (-2)) hx hb d_10_type_10 (by decide) ?_
      exact W.iret hx hb hr (fun t ht _ => ⟨_, _, _, rfl, h, by rw [ht]; exact hw⟩) hL d_10_type_12
set_option maxHeartbeats 4000000 in
set_option maxRecDepth 20000 in
theorem ct_10_type {x1 : Int32} {S : hm_S} {T : hm_T} {Q : Int32 → hm_S → hm_T → Prop} (h : wp_10_type x1 S T Q) : hm_M l G H0 o 74 shX y_10_type prog_1_method_6_code 2 (some .int) rm_10_type S T [.ref (o + 0), .int x1] (hm_Qi G H0 o 74 shX Q) := by
  refine Met.ofW (cc := prog_1_method_6_code) (maxL := 2) (ret := some .int) (by decide) rfl ?_
  intro p e s m args below meth c s₁ B hml hv
  obtain ⟨rfl, hK, hw⟩ := hv
  have cx : hm_cx G p s m _ c prog_1_method_6_code 2 "HeapGames" := ⟨⟨B.exec, B.bytes, hml, findClass_of_methodNamed B.named, fun w hq => atoms_spec (ws := hm_ws y_10_type prog_1_method_6_code 2 (some .int)) B.pre w (List.mem_cons_of_mem _ hq)⟩, hK⟩
  have hl := lv_entry ([.ref (o + 0), .int x1]) (n := 2) (Nat.le_of_ble_eq_true rfl)
  rw [lg_entry_eq]
  generalize (lg_sl ([.ref (o + 0), .int x1]) ++ List.replicate (2 - (lg_sl ([.ref (o + 0), .int x1])).length) Slot.unset).toArray = ls at hl ⊢
  have hl : lv_has ls 2 [(0, .ref (o + 0)), (1, .int x1)] := hl
  exact bk_10_type_0 cx B.returns B.notSynchronized h hw (hm_L0 _ _) hl
/-! ===== HeapGames.erase()I ===== -/
theorem d_10_erase_0 : decode prog_1_method_7_code 0 = .ok (.aload_n 0, 1) := by decide +kernel
theorem d_10_erase_1 : decode prog_1_method_7_code 1 = .ok (.getfield 53, 3) := by decide +kernel
theorem d_10_erase_4 : decode prog_1_method_7_code 4 = .ok (.getfield 104, 3) := by decide +kernel
theorem d_10_erase_7 : decode prog_1_method_7_code 7 = .ok (.istore_n 1, 1) := by decide +kernel
theorem d_10_erase_8 : decode prog_1_method_7_code 8 = .ok (.aload_n 0, 1) := by decide +kernel
theorem d_10_erase_9 : decode prog_1_method_7_code 9 = .ok (.getfield 53, 3) := by decide +kernel
theorem d_10_erase_12 : decode prog_1_method_7_code 12 = .ok (.invokevirtual 111, 3) := by decide +kernel
theorem d_10_erase_15 : decode prog_1_method_7_code 15 = .ok (.iload_n 1, 1) := by decide +kernel
theorem d_10_erase_16 : decode prog_1_method_7_code 16 = .ok (.ireturn, 1) := by decide +kernel
def wp_10_erase (S : hm_S) (T : hm_T) (Q : Int32 → hm_S → hm_T → Prop) : Prop :=
  wp_9_clear S T (fun S1 T1 => Q (S 64 1) S1 T1)
set_option maxHeartbeats 4000000 in
set_option maxRecDepth 20000 in
theorem bk_10_erase_0 {Q : Int32 → hm_S → hm_T → Prop} (cx : hm_cx G p s m args c prog_1_method_7_code 2 "HeapGames") (hr : meth.sig.returnType = some .int) (hlk : meth.locks = false) {S : hm_S} {T : hm_T} {H : Heap} {locs : List Loc} {ls : Array Slot} (h : wp_10_erase S T Q) (hw : hm_w G H0 o 74 shX S T H) (hL : hm_L o 74 locs) (hl : lv_has ls 2 [(0, .ref (o + 0))]) : W p l e rm_10_erase s m args below meth c H locs 0 0 (MQ below (hm_Qi G H0 o 74 shX Q) args s 0 0 (t_fr o (o + 74))) (F0 m 0 ls []) := by
  have hx := cx.1.1
  have hb := cx.1.2.1
  unfold wp_10_erase at h
  refine lv_aload_n hx hb d_10_erase_0 rfl (lv_at hl 0 rfl) ?_
  refine gf_10_53 cx hw (i := 0) (r := 64) (by decide) sx_0 rfl d_10_erase_1 ?_
  refine gf_10_104 cx hw (i := 64) (by decide) sx_64 rfl d_10_erase_4 ?_
  refine lv_istore_n (lv' := [(1, .int (S 64 1)), (0, .ref (o + 0))]) hx hb d_10_erase_7 rfl hl (by decide) rfl (fun ls hl => ?_)
  refine lv_aload_n hx hb d_10_erase_8 rfl (lv_at hl 1 rfl) ?_
  refine gf_10_53 cx hw (i := 0) (r := 64) (by decide) sx_0 rfl d_10_erase_9 ?_
  refine hm_callv (hm_rV (i := 64) (As := []) (rest := []) cx hw (ct_9_clear h) (mw_10_111 cx.1.2.2.2.2 ⟨Nat.le_of_ble_eq_true rfl, Nat.le_of_ble_eq_true rfl⟩) (by decide) sx_64 rfl rfl hl.1 rfl (Nat.le_of_ble_eq_true rfl) d_10_erase_12 ⟨Nat.zero_le _, Nat.zero_le _⟩) hL (fun S1 T1 H locs h hw hL => ?_)
  refine lv_iload_n hx hb d_10_erase_15 rfl (lv_at hl 0 rfl) ?_
  exact W.iret hx hb hr (fun t ht _ => ⟨_, _, _, rfl, h, by rw [ht]; exact hw⟩) hL d_10_erase_16
set_option maxHeartbeats 4000000 in
set_option maxRecDepth 20000 in
theorem ct_10_erase {S : hm_S} {T : hm_T} {Q : Int32 → hm_S → hm_T → Prop} (h : wp_10_erase S T Q) : hm_M l G H0 o 74 shX y_10_erase prog_1_method_7_code 2 (some .int) rm_10_erase S T [.ref (o + 0)] (hm_Qi G H0 o 74 shX Q) := by
  refine Met.ofW (cc := prog_1_method_7_code) (maxL := 2) (ret := some .int) (by decide) rfl ?_
  intro p e s m args below meth c s₁ B hml hv
  obtain ⟨rfl, hK, hw⟩ := hv
  have cx : hm_cx G p s m _ c prog_1_method_7_code 2 "HeapGames" := ⟨⟨B.exec, B.bytes, hml, findClass_of_methodNamed B.named, fun w hq => atoms_spec (ws := hm_ws y_10_erase prog_1_method_7_code 2 (some .int)) B.pre w (List.mem_cons_of_mem _ hq)⟩, hK⟩
  have hl := lv_entry ([.ref (o + 0)]) (n := 2) (Nat.le_of_ble_eq_true rfl)
  rw [lg_entry_eq]
  generalize (lg_sl ([.ref (o + 0)]) ++ List.replicate (2 - (lg_sl ([.ref (o + 0)])).length) Slot.unset).toArray = ls at hl ⊢
  have hl : lv_has ls 2 [(0, .ref (o + 0))] := hl
  exact bk_10_erase_0 cx B.returns B.notSynchronized h hw (hm_L0 _ _) hl
/-! ===== HeapGames.rule(I)I ===== -/
theorem d_10_rule_0 : decode prog_1_method_9_code 0 = .ok (.iload_n 1, 1) := by decide +kernel
theorem d_10_rule_1 : decode prog_1_method_9_code 1 = .ok (.tableswitch 51 11 13 #[27, 35, 43], 27) := by decide +kernel
theorem d_10_rule_28 : decode prog_1_method_9_code 28 = .ok (.aload_n 0, 1) := by decide +kernel
theorem d_10_rule_29 : decode prog_1_method_9_code 29 = .ok (.getfield 20, 3) := by decide +kernel
theorem d_10_rule_32 : decode prog_1_method_9_code 32 = .ok (.getfield 95, 3) := by decide +kernel
theorem d_10_rule_35 : decode prog_1_method_9_code 35 = .ok (.ireturn, 1) := by decide +kernel
theorem d_10_rule_36 : decode prog_1_method_9_code 36 = .ok (.aload_n 0, 1) := by decide +kernel
theorem d_10_rule_37 : decode prog_1_method_9_code 37 = .ok (.getfield 20, 3) := by decide +kernel
theorem d_10_rule_40 : decode prog_1_method_9_code 40 = .ok (.getfield 98, 3) := by decide +kernel
theorem d_10_rule_43 : decode prog_1_method_9_code 43 = .ok (.ireturn, 1) := by decide +kernel
theorem d_10_rule_44 : decode prog_1_method_9_code 44 = .ok (.aload_n 0, 1) := by decide +kernel
theorem d_10_rule_45 : decode prog_1_method_9_code 45 = .ok (.getfield 20, 3) := by decide +kernel
theorem d_10_rule_48 : decode prog_1_method_9_code 48 = .ok (.getfield 101, 3) := by decide +kernel
theorem d_10_rule_51 : decode prog_1_method_9_code 51 = .ok (.ireturn, 1) := by decide +kernel
theorem d_10_rule_52 : decode prog_1_method_9_code 52 = .ok (.iload_n 1, 1) := by decide +kernel
theorem d_10_rule_53 : decode prog_1_method_9_code 53 = .ok (.iconst 1, 1) := by decide +kernel
theorem d_10_rule_54 : decode prog_1_method_9_code 54 = .ok (.if_icmp .lt 20, 3) := by decide +kernel
theorem d_10_rule_57 : decode prog_1_method_9_code 57 = .ok (.iload_n 1, 1) := by decide +kernel
theorem d_10_rule_58 : decode prog_1_method_9_code 58 = .ok (.bipush 10, 2) := by decide +kernel
theorem d_10_rule_60 : decode prog_1_method_9_code 60 = .ok (.if_icmp .gt 14, 3) := by decide +kernel
theorem d_10_rule_63 : decode prog_1_method_9_code 63 = .ok (.aload_n 0, 1) := by decide +kernel
theorem d_10_rule_64 : decode prog_1_method_9_code 64 = .ok (.getfield 20, 3) := by decide +kernel
theorem d_10_rule_67 : decode prog_1_method_9_code 67 = .ok (.iload_n 1, 1) := by decide +kernel
theorem d_10_rule_68 : decode prog_1_method_9_code 68 = .ok (.invokevirtual 84, 3) := by decide +kernel
theorem d_10_rule_71 : decode prog_1_method_9_code 71 = .ok (.goto 5, 3) := by decide +kernel
theorem d_10_rule_74 : decode prog_1_method_9_code 74 = .ok (.bipush (-2), 2) := by decide +kernel
theorem d_10_rule_76 : decode prog_1_method_9_code 76 = .ok (.ireturn, 1) := by decide +kernel
def wp_10_rule (x1 : Int32) (S : hm_S) (T : hm_T) (Q : Int32 → hm_S → hm_T → Prop) : Prop :=
  (if x1 = 11 then Q (S 1 1) S T else (if x1 = 12 then Q (S 1 2) S T else (if x1 = 13 then Q (S 1 3) S T else (if x1 < 1 then Q (-2) S T else (if 10 < x1 then Q (-2) S T else wp_6_digitOf x1 S T (fun r1 S1 T1 => Q r1 S1 T1))))))
set_option maxHeartbeats 4000000 in
set_option maxRecDepth 20000 in
theorem bk_10_rule_0 {Q : Int32 → hm_S → hm_T → Prop} (cx : hm_cx G p s m args c prog_1_method_9_code 2 "HeapGames") (hr : meth.sig.returnType = some .int) (hlk : meth.locks = false) {x1 : Int32} {S : hm_S} {T : hm_T} {H : Heap} {locs : List Loc} {ls : Array Slot} (h : wp_10_rule x1 S T Q) (hw : hm_w G H0 o 74 shX S T H) (hL : hm_L o 74 locs) (hl : lv_has ls 2 [(0, .ref (o + 0)), (1, .int x1)]) : W p l e rm_10_rule s m args below meth c H locs 0 0 (MQ below (hm_Qi G H0 o 74 shX Q) args s 0 0 (t_fr o (o + 74))) (F0 m 0 ls []) := by
  have hx := cx.1.1
  have hb := cx.1.2.1
  unfold wp_10_rule at h
  refine lv_iload_n hx hb d_10_rule_0 rfl (lv_at hl 1 rfl) ?_
  refine hm_cs (x := x1) (v := 11) (fun hc => ?_) (fun hc11 => ?_)
  · replace h := hm_pos hc h
    refine lv_tableIn (tgt := 28) (off := 27) hx hb d_10_rule_1 (by rw [hc]; decide) (by rw [hc]; decide) (by rw [hc]; rfl) (by decide) ?_
    refine lv_aload_n hx hb d_10_rule_28 rfl (lv_at hl 0 rfl) ?_
    refine gf_10_20 cx hw (i := 0) (r := 1) (by decide) sx_0 rfl d_10_rule_29 ?_
    refine gf_10_95 cx hw (i := 1) (by decide) sx_1 rfl d_10_rule_32 ?_
    exact W.iret hx hb hr (fun t ht _ => ⟨_, _, _, rfl, h, by rw [ht]; exact hw⟩) hL d_10_rule_35
  replace h := hm_neg hc11 h
  refine hm_cs (x := x1) (v := 12) (fun hc => ?_) (fun hc12 => ?_)
  · replace h := hm_pos hc h
    refine lv_tableIn (tgt := 36) (off := 35) hx hb d_10_rule_1 (by rw [hc]; decide) (by rw [hc]; decide) (by rw [hc]; rfl) (by decide) ?_
    refine lv_aload_n hx hb d_10_rule_36 rfl (lv_at hl 0 rfl) ?_
    refine gf_10_20 cx hw (i := 0) (r := 1) (by decide) sx_0 rfl d_10_rule_37 ?_
    refine gf_10_98 cx hw (i := 1) (by decide) sx_1 rfl d_10_rule_40 ?_
    exact W.iret hx hb hr (fun t ht _ => ⟨_, _, _, rfl, h, by rw [ht]; exact hw⟩) hL d_10_rule_43
  replace h := hm_neg hc12 h
  refine hm_cs (x := x1) (v := 13) (fun hc => ?_) (fun hc13 => ?_)
  · replace h := hm_pos hc h
    refine lv_tableIn (tgt := 44) (off := 43) hx hb d_10_rule_1 (by rw [hc]; decide) (by rw [hc]; decide) (by rw [hc]; rfl) (by decide) ?_
    refine lv_aload_n hx hb d_10_rule_44 rfl (lv_at hl 0 rfl) ?_
    refine gf_10_20 cx hw (i := 0) (r := 1) (by decide) sx_0 rfl d_10_rule_45 ?_
    refine gf_10_101 cx hw (i := 1) (by decide) sx_1 rfl d_10_rule_48 ?_
    exact W.iret hx hb hr (fun t ht _ => ⟨_, _, _, rfl, h, by rw [ht]; exact hw⟩) hL d_10_rule_51
  replace h := hm_neg hc13 h
  refine lv_tableOut (tgt := 52) hx hb d_10_rule_1 (hm_out11_13 hc11 hc12 hc13) (by decide) ?_
  refine lv_iload_n hx hb d_10_rule_52 rfl (lv_at hl 1 rfl) ?_
  refine lv_iconst (v := 1) hx hb d_10_rule_53 (by decide) ?_
  refine lv_icmp_lt (tgt := 74) hx hb d_10_rule_54 (by decide) (fun hc => ?_) (fun hc => ?_)
  · replace h := hm_pos hc h
    refine lv_bipush (v := (-2)) hx hb d_10_rule_74 (by decide) ?_
    exact W.iret hx hb hr (fun t ht _ => ⟨_, _, _, rfl, h, by rw [ht]; exact hw⟩) hL d_10_rule_76
  · replace h := hm_neg hc h
    refine lv_iload_n hx hb d_10_rule_57 rfl (lv_at hl 1 rfl) ?_
    refine lv_bipush (v := 10) hx hb d_10_rule_58 (by decide) ?_
    refine lv_icmp_gt (tgt := 74) hx hb d_10_rule_60 (by decide) (fun hc => ?_) (fun hc => ?_)
    · replace h := hm_pos hc h
      refine lv_bipush (v := (-2)) hx hb d_10_rule_74 (by decide) ?_
      exact W.iret hx hb hr (fun t ht _ => ⟨_, _, _, rfl, h, by rw [ht]; exact hw⟩) hL d_10_rule_76
    · replace h := hm_neg hc h
      refine lv_aload_n hx hb d_10_rule_63 rfl (lv_at hl 0 rfl) ?_
      refine gf_10_20 cx hw (i := 0) (r := 1) (by decide) sx_0 rfl d_10_rule_64 ?_
      refine lv_iload_n hx hb d_10_rule_67 rfl (lv_at hl 1 rfl) ?_
      refine hm_calli (hm_rV (i := 1) (As := [.int x1]) (rest := []) cx hw (ct_6_digitOf h) (mw_10_84 cx.1.2.2.2.2 ⟨Nat.le_of_ble_eq_true rfl, Nat.le_of_ble_eq_true rfl⟩) (by decide) sx_1 rfl rfl hl.1 rfl (Nat.le_of_ble_eq_true rfl) d_10_rule_68 ⟨Nat.zero_le _, Nat.zero_le _⟩) hL (fun r1 S1 T1 H locs h hw hL => ?_)
      refine lv_goto (tgt := 76) hx hb d_10_rule_71 (by decide) ?_
      exact W.iret hx hb hr (fun t ht _ => ⟨_, _, _, rfl, h, by rw [ht]; exact hw⟩) hL d_10_rule_76
set_option maxHeartbeats 4000000 in
set_option maxRecDepth 20000 in
theorem ct_10_rule {x1 : Int32} {S : hm_S} {T : hm_T} {Q : Int32 → hm_S → hm_T → Prop} (h : wp_10_rule x1 S T Q) : hm_M l G H0 o 74 shX y_10_rule prog_1_method_9_code 2 (some .int) rm_10_rule S T [.ref (o + 0), .int x1] (hm_Qi G H0 o 74 shX Q) := by
  refine Met.ofW (cc := prog_1_method_9_code) (maxL := 2) (ret := some .int) (by decide) rfl ?_
  intro p e s m args below meth c s₁ B hml hv
  obtain ⟨rfl, hK, hw⟩ := hv
  have cx : hm_cx G p s m _ c prog_1_method_9_code 2 "HeapGames" := ⟨⟨B.exec, B.bytes, hml, findClass_of_methodNamed B.named, fun w hq => atoms_spec (ws := hm_ws y_10_rule prog_1_method_9_code 2 (some .int)) B.pre w (List.mem_cons_of_mem _ hq)⟩, hK⟩
  have hl := lv_entry ([.ref (o + 0), .int x1]) (n := 2) (Nat.le_of_ble_eq_true rfl)
  rw [lg_entry_eq]
  generalize (lg_sl ([.ref (o + 0), .int x1]) ++ List.replicate (2 - (lg_sl ([.ref (o + 0), .int x1])).length) Slot.unset).toArray = ls at hl ⊢
  have hl : lv_has ls 2 [(0, .ref (o + 0)), (1, .int x1)] := hl
  exact bk_10_rule_0 cx B.returns B.notSynchronized h hw (hm_L0 _ _) hl
/-! ===== HeapGames.goTo(I)V ===== -/
theorem d_10_goTo_0 : decode prog_1_method_17_code 0 = .ok (.aload_n 0, 1) := by decide +kernel
theorem d_10_goTo_1 : decode prog_1_method_17_code 1 = .ok (.getfield 76, 3) := by decide +kernel
theorem d_10_goTo_4 : decode prog_1_method_17_code 4 = .ok (.aload_n 0, 1) := by decide +kernel
theorem d_10_goTo_5 : decode prog_1_method_17_code 5 = .ok (.getfield 80, 3) := by decide +kernel
theorem d_10_goTo_8 : decode prog_1_method_17_code 8 = .ok (.invokevirtual 172, 3) := by decide +kernel
theorem d_10_goTo_11 : decode prog_1_method_17_code 11 = .ok (.aload_n 0, 1) := by decide +kernel
theorem d_10_goTo_12 : decode prog_1_method_17_code 12 = .ok (.iload_n 1, 1) := by decide +kernel
theorem d_10_goTo_13 : decode prog_1_method_17_code 13 = .ok (.putfield 80, 3) := by decide +kernel
theorem d_10_goTo_16 : decode prog_1_method_17_code 16 = .ok (.return_, 1) := by decide +kernel
def wp_10_goTo (x1 : Int32) (S : hm_S) (T : hm_T) (Q : hm_S → hm_T → Prop) : Prop :=
  wp_1_record (S 0 9) S T (fun S1 T1 => Q (hm_up S1 0 9 x1) T1)
set_option maxHeartbeats 4000000 in
set_option maxRecDepth 20000 in
theorem bk_10_goTo_0 {Q : hm_S → hm_T → Prop} (cx : hm_cx G p s m args c prog_1_method_17_code 2 "HeapGames") (hr : meth.sig.returnType = none) (hlk : meth.locks = false) {x1 : Int32} {S : hm_S} {T : hm_T} {H : Heap} {locs : List Loc} {ls : Array Slot} (h : wp_10_goTo x1 S T Q) (hw : hm_w G H0 o 74 shX S T H) (hL : hm_L o 74 locs) (hl : lv_has ls 2 [(0, .ref (o + 0)), (1, .int x1)]) : W p l e rm_10_goTo s m args below meth c H locs 0 0 (MQ below (hm_Qv G H0 o 74 shX Q) args s 0 0 (t_fr o (o + 74))) (F0 m 0 ls []) := by
  have hx := cx.1.1
  have hb := cx.1.2.1
  unfold wp_10_goTo at h
  refine lv_aload_n hx hb d_10_goTo_0 rfl (lv_at hl 0 rfl) ?_
  refine gf_10_76 cx hw (i := 0) (r := 71) (by decide) sx_0 rfl d_10_goTo_1 ?_
  refine lv_aload_n hx hb d_10_goTo_4 rfl (lv_at hl 0 rfl) ?_
  refine gf_10_80 cx hw (i := 0) (by decide) sx_0 rfl d_10_goTo_5 ?_
  refine hm_callv (hm_rV (i := 71) (As := [.int (S 0 9)]) (rest := []) cx hw (ct_1_record h) (mw_10_172 cx.1.2.2.2.2 ⟨Nat.le_of_ble_eq_true rfl, Nat.le_of_ble_eq_true rfl⟩) (by decide) sx_71 rfl rfl hl.1 rfl (Nat.le_of_ble_eq_true rfl) d_10_goTo_8 ⟨Nat.zero_le _, Nat.zero_le _⟩) hL (fun S1 T1 H locs h hw hL => ?_)
  refine lv_aload_n hx hb d_10_goTo_11 rfl (lv_at hl 0 rfl) ?_
  refine lv_iload_n hx hb d_10_goTo_12 rfl (lv_at hl 1 rfl) ?_
  refine pf_10_80 cx hw (i := 0) (by decide) sx_0 rfl hL d_10_goTo_13 (fun H locs hw hL => ?_)
  exact W.vret hx hb hr (fun t ht _ => ⟨_, _, rfl, h, by rw [ht]; exact hw⟩) hL d_10_goTo_16
set_option maxHeartbeats 4000000 in
set_option maxRecDepth 20000 in
theorem ct_10_goTo {x1 : Int32} {S : hm_S} {T : hm_T} {Q : hm_S → hm_T → Prop} (h : wp_10_goTo x1 S T Q) : hm_M l G H0 o 74 shX y_10_goTo prog_1_method_17_code 2 (none) rm_10_goTo S T [.ref (o + 0), .int x1] (hm_Qv G H0 o 74 shX Q) := by
  refine Met.ofW (cc := prog_1_method_17_code) (maxL := 2) (ret := none) (by decide) rfl ?_
  intro p e s m args below meth c s₁ B hml hv
  obtain ⟨rfl, hK, hw⟩ := hv
  have cx : hm_cx G p s m _ c prog_1_method_17_code 2 "HeapGames" := ⟨⟨B.exec, B.bytes, hml, findClass_of_methodNamed B.named, fun w hq => atoms_spec (ws := hm_ws y_10_goTo prog_1_method_17_code 2 (none)) B.pre w (List.mem_cons_of_mem _ hq)⟩, hK⟩
  have hl := lv_entry ([.ref (o + 0), .int x1]) (n := 2) (Nat.le_of_ble_eq_true rfl)
  rw [lg_entry_eq]
  generalize (lg_sl ([.ref (o + 0), .int x1]) ++ List.replicate (2 - (lg_sl ([.ref (o + 0), .int x1])).length) Slot.unset).toArray = ls at hl ⊢
  have hl : lv_has ls 2 [(0, .ref (o + 0)), (1, .int x1)] := hl
  exact bk_10_goTo_0 cx B.returns B.notSynchronized h hw (hm_L0 _ _) hl
/-! ===== HeapGames.place(I)I ===== -/
theorem d_10_place_0 : decode prog_1_method_11_code 0 = .ok (.iload_n 1, 1) := by decide +kernel
theorem d_10_place_1 : decode prog_1_method_11_code 1 = .ok (.iconst 1, 1) := by decide +kernel
theorem d_10_place_2 : decode prog_1_method_11_code 2 = .ok (.if_icmp .ge 6, 3) := by decide +kernel
theorem d_10_place_5 : decode prog_1_method_11_code 5 = .ok (.bipush (-2), 2) := by decide +kernel
theorem d_10_place_7 : decode prog_1_method_11_code 7 = .ok (.ireturn, 1) := by decide +kernel
theorem d_10_place_8 : decode prog_1_method_11_code 8 = .ok (.aload_n 0, 1) := by decide +kernel
theorem d_10_place_9 : decode prog_1_method_11_code 9 = .ok (.getfield 80, 3) := by decide +kernel
theorem d_10_place_12 : decode prog_1_method_11_code 12 = .ok (.invokestatic 124, 3) := by decide +kernel
theorem d_10_place_15 : decode prog_1_method_11_code 15 = .ok (.istore_n 2, 1) := by decide +kernel
theorem d_10_place_16 : decode prog_1_method_11_code 16 = .ok (.iload_n 1, 1) := by decide +kernel
theorem d_10_place_17 : decode prog_1_method_11_code 17 = .ok (.bipush 10, 2) := by decide +kernel
theorem d_10_place_19 : decode prog_1_method_11_code 19 = .ok (.aload_n 0, 1) := by decide +kernel
theorem d_10_place_20 : decode prog_1_method_11_code 20 = .ok (.getfield 24, 3) := by decide +kernel
theorem d_10_place_23 : decode prog_1_method_11_code 23 = .ok (.iload_n 2, 1) := by decide +kernel
theorem d_10_place_24 : decode prog_1_method_11_code 24 = .ok (.invokevirtual 127, 3) := by decide +kernel
theorem d_10_place_27 : decode prog_1_method_11_code 27 = .ok (.isub, 1) := by decide +kernel
theorem d_10_place_28 : decode prog_1_method_11_code 28 = .ok (.if_icmp .le 6, 3) := by decide +kernel
theorem d_10_place_31 : decode prog_1_method_11_code 31 = .ok (.bipush (-4), 2) := by decide +kernel
theorem d_10_place_33 : decode prog_1_method_11_code 33 = .ok (.ireturn, 1) := by decide +kernel
theorem d_10_place_34 : decode prog_1_method_11_code 34 = .ok (.aload_n 0, 1) := by decide +kernel
theorem d_10_place_35 : decode prog_1_method_11_code 35 = .ok (.getfield 24, 3) := by decide +kernel
theorem d_10_place_38 : decode prog_1_method_11_code 38 = .ok (.iload_n 2, 1) := by decide +kernel
theorem d_10_place_39 : decode prog_1_method_11_code 39 = .ok (.iload_n 1, 1) := by decide +kernel
theorem d_10_place_40 : decode prog_1_method_11_code 40 = .ok (.iconst 0, 1) := by decide +kernel
theorem d_10_place_41 : decode prog_1_method_11_code 41 = .ok (.invokestatic 130, 3) := by decide +kernel
theorem d_10_place_44 : decode prog_1_method_11_code 44 = .ok (.invokevirtual 134, 3) := by decide +kernel
theorem d_10_place_47 : decode prog_1_method_11_code 47 = .ok (.istore_n 3, 1) := by decide +kernel
theorem d_10_place_48 : decode prog_1_method_11_code 48 = .ok (.aload_n 0, 1) := by decide +kernel
theorem d_10_place_49 : decode prog_1_method_11_code 49 = .ok (.iload_n 3, 1) := by decide +kernel
theorem d_10_place_50 : decode prog_1_method_11_code 50 = .ok (.aload_n 0, 1) := by decide +kernel
theorem d_10_place_51 : decode prog_1_method_11_code 51 = .ok (.getfield 80, 3) := by decide +kernel
theorem d_10_place_54 : decode prog_1_method_11_code 54 = .ok (.invokestatic 137, 3) := by decide +kernel
theorem d_10_place_57 : decode prog_1_method_11_code 57 = .ok (.invokestatic 140, 3) := by decide +kernel
theorem d_10_place_60 : decode prog_1_method_11_code 60 = .ok (.invokevirtual 143, 3) := by decide +kernel
theorem d_10_place_63 : decode prog_1_method_11_code 63 = .ok (.aload_n 0, 1) := by decide +kernel
theorem d_10_place_64 : decode prog_1_method_11_code 64 = .ok (.getfield 24, 3) := by decide +kernel
theorem d_10_place_67 : decode prog_1_method_11_code 67 = .ok (.iload_n 3, 1) := by decide +kernel
theorem d_10_place_68 : decode prog_1_method_11_code 68 = .ok (.invokevirtual 146, 3) := by decide +kernel
theorem d_10_place_71 : decode prog_1_method_11_code 71 = .ok (.ireturn, 1) := by decide +kernel
def wp_10_place (x1 : Int32) (S : hm_S) (T : hm_T) (Q : Int32 → hm_S → hm_T → Prop) : Prop :=
  (if 1 ≤ x1 then wp_10_layoutOf (S 0 9) S T (fun r1 S1 T1 => wp_2_countersOf r1 S1 T1 (fun r2 S2 T2 => (if x1 ≤ (10 - r2) then wp_10_kindOfHeap x1 0 S2 T2 (fun r3 S3 T3 => wp_2_join r1 r3 S3 T3 (fun r4 S4 T4 => wp_10_passOf (S4 0 9) S4 T4 (fun r5 S5 T5 => wp_10_positionOf r4 r5 S5 T5 (fun r6 S6 T6 => wp_10_goTo r6 S6 T6 (fun S7 T7 => wp_2_heapsOf r4 S7 T7 (fun r8 S8 T8 => Q r8 S8 T8)))))) else Q (-4) S2 T2))) else Q (-2) S T)
set_option maxHeartbeats 4000000 in
set_option maxRecDepth 20000 in
theorem bk_10_place_0 {Q : Int32 → hm_S → hm_T → Prop} (cx : hm_cx G p s m args c prog_1_method_11_code 4 "HeapGames") (hr : meth.sig.returnType = some .int) (hlk : meth.locks = false) {x1 : Int32} {S : hm_S} {T : hm_T} {H : Heap} {locs : List Loc} {ls : Array Slot} (h : wp_10_place x1 S T Q) (hw : hm_w G H0 o 74 shX S T H) (hL : hm_L o 74 locs) (hl : lv_has ls 4 [(0, .ref (o + 0)), (1, .int x1)]) : W p l e rm_10_place s m args below meth c H locs 0 0 (MQ below (hm_Qi G H0 o 74 shX Q) args s 0 0 (t_fr o (o + 74))) (F0 m 0 ls []) := by
  have hx := cx.1.1
  have hb := cx.1.2.1
  unfold wp_10_place at h
  refine lv_iload_n hx hb d_10_place_0 rfl (lv_at hl 1 rfl) ?_
  refine lv_iconst (v := 1) hx hb d_10_place_1 (by decide) ?_
  refine lv_icmp_ge (tgt := 8) hx hb d_10_place_2 (by decide) (fun hc => ?_) (fun hc => ?_)
  · replace h := hm_pos hc h
    refine lv_aload_n hx hb d_10_place_8 rfl (lv_at hl 0 rfl) ?_
    refine gf_10_80 cx hw (i := 0) (by decide) sx_0 rfl d_10_place_9 ?_
    refine hm_calli (hm_rS (As := [.int (S 0 9)]) (rest := []) cx hw (ct_10_layoutOf h) (mw_10_124 cx.1.2.2.2.2 ⟨Nat.le_of_ble_eq_true rfl, Nat.le_of_ble_eq_true rfl⟩) rfl hl.1 rfl (Nat.le_of_ble_eq_true rfl) d_10_place_12 ⟨Nat.zero_le _, Nat.zero_le _⟩) hL (fun r1 S1 T1 H locs h hw hL => ?_)
    refine lv_istore_n (lv' := [(2, .int r1), (0, .ref (o + 0)), (1, .int x1)]) hx hb d_10_place_15 rfl hl (by decide) rfl (fun ls hl => ?_)
    refine lv_iload_n hx hb d_10_place_16 rfl (lv_at hl 2 rfl) ?_
    refine lv_bipush (v := 10) hx hb d_10_place_17 (by decide) ?_
    refine lv_aload_n hx hb d_10_place_19 rfl (lv_at hl 1 rfl) ?_
    refine gf_10_24 cx hw (i := 0) (r := 4) (by decide) sx_0 rfl d_10_place_20 ?_
    refine lv_iload_n hx hb d_10_place_23 rfl (lv_at hl 0 rfl) ?_
    refine hm_calli (hm_rV (i := 4) (As := [.int r1]) (rest := [.int 10, .int x1]) cx hw (ct_2_countersOf (by decide) (fun _ _ _ => rfl) h) (mw_10_127 cx.1.2.2.2.2 ⟨Nat.le_of_ble_eq_true rfl, Nat.le_of_ble_eq_true rfl⟩) (by decide) sx_4 rfl rfl hl.1 rfl (Nat.le_of_ble_eq_true rfl) d_10_place_24 ⟨Nat.zero_le _, Nat.zero_le _⟩) hL (fun r2 S2 T2 H locs h hw hL => ?_)
    refine lv_isub hx hb d_10_place_27 ?_
    refine lv_icmp_le (tgt := 34) hx hb d_10_place_28 (by decide) (fun hc => ?_) (fun hc => ?_)
    · replace h := hm_pos hc h
      refine lv_aload_n hx hb d_10_place_34 rfl (lv_at hl 1 rfl) ?_
      refine gf_10_24 cx hw (i := 0) (r := 4) (by decide) sx_0 rfl d_10_place_35 ?_
      refine lv_iload_n hx hb d_10_place_38 rfl (lv_at hl 0 rfl) ?_
      refine lv_iload_n hx hb d_10_place_39 rfl (lv_at hl 2 rfl) ?_
      refine lv_iconst (v := 0) hx hb d_10_place_40 (by decide) ?_
      refine hm_calli (hm_rS (As := [.int x1, .int 0]) (rest := [.int r1, .ref (o + 4)]) cx hw (ct_10_kindOfHeap h) (mw_10_130 cx.1.2.2.2.2 ⟨Nat.le_of_ble_eq_true rfl, Nat.le_of_ble_eq_true rfl⟩) rfl hl.1 rfl (Nat.le_of_ble_eq_true rfl) d_10_place_41 ⟨Nat.zero_le _, Nat.zero_le _⟩) hL (fun r3 S3 T3 H locs h hw hL => ?_)
      refine hm_calli (hm_rV (i := 4) (As := [.int r1, .int r3]) (rest := []) cx hw (ct_2_join (by decide) (fun _ _ _ => rfl) h) (mw_10_134 cx.1.2.2.2.2 ⟨Nat.le_of_ble_eq_true rfl, Nat.le_of_ble_eq_true rfl⟩) (by decide) sx_4 rfl rfl hl.1 rfl (Nat.le_of_ble_eq_true rfl) d_10_place_44 ⟨Nat.zero_le _, Nat.zero_le _⟩) hL (fun r4 S4 T4 H locs h hw hL => ?_)
      refine lv_istore_n (lv' := [(3, .int r4), (2, .int r1), (0, .ref (o + 0)), (1, .int x1)]) hx hb d_10_place_47 rfl hl (by decide) rfl (fun ls hl => ?_)
      refine lv_aload_n hx hb d_10_place_48 rfl (lv_at hl 2 rfl) ?_
      refine lv_iload_n hx hb d_10_place_49 rfl (lv_at hl 0 rfl) ?_
      refine lv_aload_n hx hb d_10_place_50 rfl (lv_at hl 2 rfl) ?_
      refine gf_10_80 cx hw (i := 0) (by decide) sx_0 rfl d_10_place_51 ?_
      refine hm_calli (hm_rS (As := [.int (S4 0 9)]) (rest := [.int r4, .ref (o + 0)]) cx hw (ct_10_passOf h) (mw_10_137 cx.1.2.2.2.2 ⟨Nat.le_of_ble_eq_true rfl, Nat.le_of_ble_eq_true rfl⟩) rfl hl.1 rfl (Nat.le_of_ble_eq_true rfl) d_10_place_54 ⟨Nat.zero_le _, Nat.zero_le _⟩) hL (fun r5 S5 T5 H locs h hw hL => ?_)
      refine hm_calli (hm_rS (As := [.int r4, .int r5]) (rest := [.ref (o + 0)]) cx hw (ct_10_positionOf h) (mw_10_140 cx.1.2.2.2.2 ⟨Nat.le_of_ble_eq_true rfl, Nat.le_of_ble_eq_true rfl⟩) rfl hl.1 rfl (Nat.le_of_ble_eq_true rfl) d_10_place_57 ⟨Nat.zero_le _, Nat.zero_le _⟩) hL (fun r6 S6 T6 H locs h hw hL => ?_)
      refine hm_callv (hm_rV (i := 0) (As := [.int r6]) (rest := []) cx hw (ct_10_goTo h) (mw_10_143 cx.1.2.2.2.2 ⟨Nat.le_of_ble_eq_true rfl, Nat.le_of_ble_eq_true rfl⟩) (by decide) sx_0 rfl rfl hl.1 rfl (Nat.le_of_ble_eq_true rfl) d_10_place_60 ⟨Nat.zero_le _, Nat.zero_le _⟩) hL (fun S7 T7 H locs h hw hL => ?_)
      refine lv_aload_n hx hb d_10_place_63 rfl (lv_at hl 2 rfl) ?_
      refine gf_10_24 cx hw (i := 0) (r := 4) (by decide) sx_0 rfl d_10_place_64 ?_
      refine lv_iload_n hx hb d_10_place_67 rfl (lv_at hl 0 rfl) ?_
      refine hm_calli (hm_rV (i := 4) (As := [.int r4]) (rest := []) cx hw (ct_2_heapsOf (by decide) (fun _ _ _ => rfl) h) (mw_10_146 cx.1.2.2.2.2 ⟨Nat.le_of_ble_eq_true rfl, Nat.le_of_ble_eq_true rfl⟩) (by decide) sx_4 rfl rfl hl.1 rfl (Nat.le_of_ble_eq_true rfl) d_10_place_68 ⟨Nat.zero_le _, Nat.zero_le _⟩) hL (fun r8 S8 T8 H locs h hw hL => ?_)
      exact W.iret hx hb hr (fun t ht _ => ⟨_, _, _, rfl, h, by rw [ht]; exact hw⟩) hL d_10_place_71
    · replace h := hm_neg hc h
      refine lv_bipush (v := (-4)) hx hb d_10_place_31 (by decide) ?_
      exact W.iret hx hb hr (fun t ht _ => ⟨_, _, _, rfl, h, by rw [ht]; exact hw⟩) hL d_10_place_33
  · replace h := hm_neg hc h
    refine lv_bipush (v := (-2)) hx hb d_10_place_5 (by decide) ?_
    exact W.iret hx hb hr (fun t ht _ => ⟨_, _, _, rfl, h, by rw [ht]; exact hw⟩) hL d_10_place_7
set_option maxHeartbeats 4000000 in
set_option maxRecDepth 20000 in
theorem ct_10_place {x1 : Int32} {S : hm_S} {T : hm_T} {Q : Int32 → hm_S → hm_T → Prop} (h : wp_10_place x1 S T Q) : hm_M l G H0 o 74 shX y_10_place prog_1_method_11_code 4 (some .int) rm_10_place S T [.ref (o + 0), .int x1] (hm_Qi G H0 o 74 shX Q) := by
  refine Met.ofW (cc := prog_1_method_11_code) (maxL := 4) (ret := some .int) (by decide) rfl ?_
  intro p e s m args below meth c s₁ B hml hv
  obtain ⟨rfl, hK, hw⟩ := hv
  have cx : hm_cx G p s m _ c prog_1_method_11_code 4 "HeapGames" := ⟨⟨B.exec, B.bytes, hml, findClass_of_methodNamed B.named, fun w hq => atoms_spec (ws := hm_ws y_10_place prog_1_method_11_code 4 (some .int)) B.pre w (List.mem_cons_of_mem _ hq)⟩, hK⟩
  have hl := lv_entry ([.ref (o + 0), .int x1]) (n := 4) (Nat.le_of_ble_eq_true rfl)
  rw [lg_entry_eq]
  generalize (lg_sl ([.ref (o + 0), .int x1]) ++ List.replicate (4 - (lg_sl ([.ref (o + 0), .int x1])).length) Slot.unset).toArray = ls at hl ⊢
  have hl : lv_has ls 4 [(0, .ref (o + 0)), (1, .int x1)] := hl
  exact bk_10_place_0 cx B.returns B.notSynchronized h hw (hm_L0 _ _) hl
/-! ===== HeapGames.lift(I)I ===== -/
theorem d_10_lift_0 : decode prog_1_method_12_code 0 = .ok (.aload_n 0, 1) := by decide +kernel
theorem d_10_lift_1 : decode prog_1_method_12_code 1 = .ok (.getfield 80, 3) := by decide +kernel
theorem d_10_lift_4 : decode prog_1_method_12_code 4 = .ok (.invokestatic 124, 3) := by decide +kernel
theorem d_10_lift_7 : decode prog_1_method_12_code 7 = .ok (.istore_n 2, 1) := by decide +kernel
theorem d_10_lift_8 : decode prog_1_method_12_code 8 = .ok (.iload_n 1, 1) := by decide +kernel
theorem d_10_lift_9 : decode prog_1_method_12_code 9 = .ok (.ifCond .lt 15, 3) := by decide +kernel
theorem d_10_lift_12 : decode prog_1_method_12_code 12 = .ok (.iload_n 1, 1) := by decide +kernel
theorem d_10_lift_13 : decode prog_1_method_12_code 13 = .ok (.aload_n 0, 1) := by decide +kernel
theorem d_10_lift_14 : decode prog_1_method_12_code 14 = .ok (.getfield 24, 3) := by decide +kernel
theorem d_10_lift_17 : decode prog_1_method_12_code 17 = .ok (.iload_n 2, 1) := by decide +kernel
theorem d_10_lift_18 : decode prog_1_method_12_code 18 = .ok (.invokevirtual 146, 3) := by decide +kernel
theorem d_10_lift_21 : decode prog_1_method_12_code 21 = .ok (.if_icmp .lt 6, 3) := by decide +kernel
theorem d_10_lift_24 : decode prog_1_method_12_code 24 = .ok (.bipush (-2), 2) := by decide +kernel
theorem d_10_lift_26 : decode prog_1_method_12_code 26 = .ok (.ireturn, 1) := by decide +kernel
theorem d_10_lift_27 : decode prog_1_method_12_code 27 = .ok (.aload_n 0, 1) := by decide +kernel
theorem d_10_lift_28 : decode prog_1_method_12_code 28 = .ok (.getfield 24, 3) := by decide +kernel
theorem d_10_lift_31 : decode prog_1_method_12_code 31 = .ok (.iload_n 2, 1) := by decide +kernel
theorem d_10_lift_32 : decode prog_1_method_12_code 32 = .ok (.iload_n 1, 1) := by decide +kernel
theorem d_10_lift_33 : decode prog_1_method_12_code 33 = .ok (.invokevirtual 149, 3) := by decide +kernel
theorem d_10_lift_36 : decode prog_1_method_12_code 36 = .ok (.invokestatic 152, 3) := by decide +kernel
theorem d_10_lift_39 : decode prog_1_method_12_code 39 = .ok (.istore_n 3, 1) := by decide +kernel
theorem d_10_lift_40 : decode prog_1_method_12_code 40 = .ok (.aload_n 0, 1) := by decide +kernel
theorem d_10_lift_41 : decode prog_1_method_12_code 41 = .ok (.aload_n 0, 1) := by decide +kernel
theorem d_10_lift_42 : decode prog_1_method_12_code 42 = .ok (.getfield 24, 3) := by decide +kernel
theorem d_10_lift_45 : decode prog_1_method_12_code 45 = .ok (.iload_n 2, 1) := by decide +kernel
theorem d_10_lift_46 : decode prog_1_method_12_code 46 = .ok (.iload_n 1, 1) := by decide +kernel
theorem d_10_lift_47 : decode prog_1_method_12_code 47 = .ok (.invokevirtual 155, 3) := by decide +kernel
theorem d_10_lift_50 : decode prog_1_method_12_code 50 = .ok (.aload_n 0, 1) := by decide +kernel
theorem d_10_lift_51 : decode prog_1_method_12_code 51 = .ok (.getfield 80, 3) := by decide +kernel
theorem d_10_lift_54 : decode prog_1_method_12_code 54 = .ok (.invokestatic 137, 3) := by decide +kernel
theorem d_10_lift_57 : decode prog_1_method_12_code 57 = .ok (.invokestatic 140, 3) := by decide +kernel
theorem d_10_lift_60 : decode prog_1_method_12_code 60 = .ok (.invokevirtual 143, 3) := by decide +kernel
theorem d_10_lift_63 : decode prog_1_method_12_code 63 = .ok (.iload_n 3, 1) := by decide +kernel
theorem d_10_lift_64 : decode prog_1_method_12_code 64 = .ok (.ireturn, 1) := by decide +kernel
def wp_10_lift (x1 : Int32) (S : hm_S) (T : hm_T) (Q : Int32 → hm_S → hm_T → Prop) : Prop :=
  wp_10_layoutOf (S 0 9) S T (fun r1 S1 T1 => (if x1 < 0 then Q (-2) S1 T1 else wp_2_heapsOf r1 S1 T1 (fun r2 S2 T2 => (if x1 < r2 then wp_2_kindAt r1 x1 S2 T2 (fun r3 S3 T3 => wp_10_sizeOfKind r3 S3 T3 (fun r4 S4 T4 => wp_2_without r1 x1 S4 T4 (fun r5 S5 T5 => wp_10_passOf (S5 0 9) S5 T5 (fun r6 S6 T6 => wp_10_positionOf r5 r6 S6 T6 (fun r7 S7 T7 => wp_10_goTo r7 S7 T7 (fun S8 T8 => Q r4 S8 T8)))))) else Q (-2) S2 T2))))
set_option maxHeartbeats 4000000 in
set_option maxRecDepth 20000 in
theorem bk_10_lift_0 {Q : Int32 → hm_S → hm_T → Prop} (cx : hm_cx G p s m args c prog_1_method_12_code 4 "HeapGames") (hr : meth.sig.returnType = some .int) (hlk : meth.locks = false) {x1 : Int32} {S : hm_S} {T : hm_T} {H : Heap} {locs : List Loc} {ls : Array Slot} (h : wp_10_lift x1 S T Q) (hw : hm_w G H0 o 74 shX S T H) (hL : hm_L o 74 locs) (hl : lv_has ls 4 [(0, .ref (o + 0)), (1, .int x1)]) : W p l e rm_10_lift s m args below meth c H locs 0 0 (MQ below (hm_Qi G H0 o 74 shX Q) args s 0 0 (t_fr o (o + 74))) (F0 m 0 ls []) := by
  have hx := cx.1.1
  have hb := cx.1.2.1
  unfold wp_10_lift at h
  refine lv_aload_n hx hb d_10_lift_0 rfl (lv_at hl 0 rfl) ?_
  refine gf_10_80 cx hw (i := 0) (by decide) sx_0 rfl d_10_lift_1 ?_
  refine hm_calli (hm_rS (As := [.int (S 0 9)]) (rest := []) cx hw (ct_10_layoutOf h) (mw_10_124 cx.1.2.2.2.2 ⟨Nat.le_of_ble_eq_true rfl, Nat.le_of_ble_eq_true rfl⟩) rfl hl.1 rfl (Nat.le_of_ble_eq_true rfl) d_10_lift_4 ⟨Nat.zero_le _, Nat.zero_le _⟩) hL (fun r1 S1 T1 H locs h hw hL => ?_)
  refine lv_istore_n (lv' := [(2, .int r1), (0, .ref (o + 0)), (1, .int x1)]) hx hb d_10_lift_7 rfl hl (by decide) rfl (fun ls hl => ?_)
  refine lv_iload_n hx hb d_10_lift_8 rfl (lv_at hl 2 rfl) ?_
  refine lv_if_lt (tgt := 24) hx hb d_10_lift_9 (by decide) (fun hc => ?_) (fun hc => ?_)
  · replace h := hm_pos hc h
    refine lv_bipush (v := (-2)) hx hb d_10_lift_24 (by decide) ?_
    exact W.iret hx hb hr (fun t ht _ => ⟨_, _, _, rfl, h, by rw [ht]; exact hw⟩) hL d_10_lift_26
  · replace h := hm_neg hc h
    refine lv_iload_n hx hb d_10_lift_12 rfl (lv_at hl 2 rfl) ?_
    refine lv_aload_n hx hb d_10_lift_13 rfl (lv_at hl 1 rfl) ?_
    refine gf_10_24 cx hw (i := 0) (r := 4) (by decide) sx_0 rfl d_10_lift_14 ?_
    refine lv_iload_n hx hb d_10_lift_17 rfl (lv_at hl 0 rfl) ?_
    refine hm_calli (hm_rV (i := 4) (As := [.int r1]) (rest := [.int x1]) cx hw (ct_2_heapsOf (by decide) (fun _ _ _ => rfl) h) (mw_10_146 cx.1.2.2.2.2 ⟨Nat.le_of_ble_eq_true rfl, Nat.le_of_ble_eq_true rfl⟩) (by decide) sx_4 rfl rfl hl.1 rfl (Nat.le_of_ble_eq_true rfl) d_10_lift_18 ⟨Nat.zero_le _, Nat.zero_le _⟩) hL (fun r2 S2 T2 H locs h hw hL => ?_)
    refine lv_icmp_lt (tgt := 27) hx hb d_10_lift_21 (by decide) (fun hc => ?_) (fun hc => ?_)
    · replace h := hm_pos hc h
      refine lv_aload_n hx hb d_10_lift_27 rfl (lv_at hl 1 rfl) ?_
      refine gf_10_24 cx hw (i := 0) (r := 4) (by decide) sx_0 rfl d_10_lift_28 ?_
      refine lv_iload_n hx hb d_10_lift_31 rfl (lv_at hl 0 rfl) ?_
      refine lv_iload_n hx hb d_10_lift_32 rfl (lv_at hl 2 rfl) ?_
      refine hm_calli (hm_rV (i := 4) (As := [.int r1, .int x1]) (rest := []) cx hw (ct_2_kindAt (by decide) (fun _ _ _ => rfl) h) (mw_10_149 cx.1.2.2.2.2 ⟨Nat.le_of_ble_eq_true rfl, Nat.le_of_ble_eq_true rfl⟩) (by decide) sx_4 rfl rfl hl.1 rfl (Nat.le_of_ble_eq_true rfl) d_10_lift_33 ⟨Nat.zero_le _, Nat.zero_le _⟩) hL (fun r3 S3 T3 H locs h hw hL => ?_)
      refine hm_calli (hm_rS (As := [.int r3]) (rest := []) cx hw (ct_10_sizeOfKind h) (mw_10_152 cx.1.2.2.2.2 ⟨Nat.le_of_ble_eq_true rfl, Nat.le_of_ble_eq_true rfl⟩) rfl hl.1 rfl (Nat.le_of_ble_eq_true rfl) d_10_lift_36 ⟨Nat.zero_le _, Nat.zero_le _⟩) hL (fun r4 S4 T4 H locs h hw hL => ?_)
      refine lv_istore_n (lv' := [(3, .int r4), (2, .int r1), (0, .ref (o + 0)), (1, .int x1)]) hx hb d_10_lift_39 rfl hl (by decide) rfl (fun ls hl => ?_)
      refine lv_aload_n hx hb d_10_lift_40 rfl (lv_at hl 2 rfl) ?_
      refine lv_aload_n hx hb d_10_lift_41 rfl (lv_at hl 2 rfl) ?_
      refine gf_10_24 cx hw (i := 0) (r := 4) (by decide) sx_0 rfl d_10_lift_42 ?_
      refine lv_iload_n hx hb d_10_lift_45 rfl (lv_at hl 1 rfl) ?_
      refine lv_iload_n hx hb d_10_lift_46 rfl (lv_at hl 3 rfl) ?_
      refine hm_calli (hm_rV (i := 4) (As := [.int r1, .int x1]) (rest := [.ref (o + 0)]) cx hw (ct_2_without (by decide) (fun _ _ _ => rfl) h) (mw_10_155 cx.1.2.2.2.2 ⟨Nat.le_of_ble_eq_true rfl, Nat.le_of_ble_eq_true rfl⟩) (by decide) sx_4 rfl rfl hl.1 rfl (Nat.le_of_ble_eq_true rfl) d_10_lift_47 ⟨Nat.zero_le _, Nat.zero_le _⟩) hL (fun r5 S5 T5 H locs h hw hL => ?_)
      refine lv_aload_n hx hb d_10_lift_50 rfl (lv_at hl 2 rfl) ?_
      refine gf_10_80 cx hw (i := 0) (by decide) sx_0 rfl d_10_lift_51 ?_
      refine hm_calli (hm_rS (As := [.int (S5 0 9)]) (rest := [.int r5, .ref (o + 0)]) cx hw (ct_10_passOf h) (mw_10_137 cx.1.2.2.2.2 ⟨Nat.le_of_ble_eq_true rfl, Nat.le_of_ble_eq_true rfl⟩) rfl hl.1 rfl (Nat.le_of_ble_eq_true rfl) d_10_lift_54 ⟨Nat.zero_le _, Nat.zero_le _⟩) hL (fun r6 S6 T6 H locs h hw hL => ?_)
      refine hm_calli (hm_rS (As := [.int r5, .int r6]) (rest := [.ref (o + 0)]) cx hw (ct_10_positionOf h) (mw_10_140 cx.1.2.2.2.2 ⟨Nat.le_of_ble_eq_true rfl, Nat.le_of_ble_eq_true rfl⟩) rfl hl.1 rfl (Nat.le_of_ble_eq_true rfl) d_10_lift_57 ⟨Nat.zero_le _, Nat.zero_le _⟩) hL (fun r7 S7 T7 H locs h hw hL => ?_)
      refine hm_callv (hm_rV (i := 0) (As := [.int r7]) (rest := []) cx hw (ct_10_goTo h) (mw_10_143 cx.1.2.2.2.2 ⟨Nat.le_of_ble_eq_true rfl, Nat.le_of_ble_eq_true rfl⟩) (by decide) sx_0 rfl rfl hl.1 rfl (Nat.le_of_ble_eq_true rfl) d_10_lift_60 ⟨Nat.zero_le _, Nat.zero_le _⟩) hL (fun S8 T8 H locs h hw hL => ?_)
      refine lv_iload_n hx hb d_10_lift_63 rfl (lv_at hl 0 rfl) ?_
      exact W.iret hx hb hr (fun t ht _ => ⟨_, _, _, rfl, h, by rw [ht]; exact hw⟩) hL d_10_lift_64
    · replace h := hm_neg hc h
      refine lv_bipush (v := (-2)) hx hb d_10_lift_24 (by decide) ?_
      exact W.iret hx hb hr (fun t ht _ => ⟨_, _, _, rfl, h, by rw [ht]; exact hw⟩) hL d_10_lift_26
set_option maxHeartbeats 4000000 in
set_option maxRecDepth 20000 in
theorem ct_10_lift {x1 : Int32} {S : hm_S} {T : hm_T} {Q : Int32 → hm_S → hm_T → Prop} (h : wp_10_lift x1 S T Q) : hm_M l G H0 o 74 shX y_10_lift prog_1_method_12_code 4 (some .int) rm_10_lift S T [.ref (o + 0), .int x1] (hm_Qi G H0 o 74 shX Q) := by
  refine Met.ofW (cc := prog_1_method_12_code) (maxL := 4) (ret := some .int) (by decide) rfl ?_
  intro p e s m args below meth c s₁ B hml hv
  obtain ⟨rfl, hK, hw⟩ := hv
  have cx : hm_cx G p s m _ c prog_1_method_12_code 4 "HeapGames" := ⟨⟨B.exec, B.bytes, hml, findClass_of_methodNamed B.named, fun w hq => atoms_spec (ws := hm_ws y_10_lift prog_1_method_12_code 4 (some .int)) B.pre w (List.mem_cons_of_mem _ hq)⟩, hK⟩
  have hl := lv_entry ([.ref (o + 0), .int x1]) (n := 4) (Nat.le_of_ble_eq_true rfl)
  rw [lg_entry_eq]
  generalize (lg_sl ([.ref (o + 0), .int x1]) ++ List.replicate (4 - (lg_sl ([.ref (o + 0), .int x1])).length) Slot.unset).toArray = ls at hl ⊢
  have hl : lv_has ls 4 [(0, .ref (o + 0)), (1, .int x1)] := hl
  exact bk_10_lift_0 cx B.returns B.notSynchronized h hw (hm_L0 _ _) hl
/-! ===== HeapGames.setPass(Z)I ===== -/
theorem d_10_setPass_0 : decode prog_1_method_13_code 0 = .ok (.aload_n 0, 1) := by decide +kernel
theorem d_10_setPass_1 : decode prog_1_method_13_code 1 = .ok (.getfield 80, 3) := by decide +kernel
theorem d_10_setPass_4 : decode prog_1_method_13_code 4 = .ok (.invokestatic 137, 3) := by decide +kernel
theorem d_10_setPass_7 : decode prog_1_method_13_code 7 = .ok (.istore_n 2, 1) := by decide +kernel
theorem d_10_setPass_8 : decode prog_1_method_13_code 8 = .ok (.aload_n 0, 1) := by decide +kernel
theorem d_10_setPass_9 : decode prog_1_method_13_code 9 = .ok (.aload_n 0, 1) := by decide +kernel
theorem d_10_setPass_10 : decode prog_1_method_13_code 10 = .ok (.getfield 80, 3) := by decide +kernel
theorem d_10_setPass_13 : decode prog_1_method_13_code 13 = .ok (.invokestatic 124, 3) := by decide +kernel
theorem d_10_setPass_16 : decode prog_1_method_13_code 16 = .ok (.iload_n 1, 1) := by decide +kernel
theorem d_10_setPass_17 : decode prog_1_method_13_code 17 = .ok (.ifCond .eq 7, 3) := by decide +kernel
theorem d_10_setPass_20 : decode prog_1_method_13_code 20 = .ok (.iconst 1, 1) := by decide +kernel
theorem d_10_setPass_21 : decode prog_1_method_13_code 21 = .ok (.goto 4, 3) := by decide +kernel
theorem d_10_setPass_24 : decode prog_1_method_13_code 24 = .ok (.iconst 0, 1) := by decide +kernel
theorem d_10_setPass_25 : decode prog_1_method_13_code 25 = .ok (.invokestatic 140, 3) := by decide +kernel
theorem d_10_setPass_28 : decode prog_1_method_13_code 28 = .ok (.invokevirtual 143, 3) := by decide +kernel
theorem d_10_setPass_31 : decode prog_1_method_13_code 31 = .ok (.iload_n 2, 1) := by decide +kernel
theorem d_10_setPass_32 : decode prog_1_method_13_code 32 = .ok (.ireturn, 1) := by decide +kernel
def wb_10_setPass_25 (Q : Int32 → hm_S → hm_T → Prop) (x2 : Int32) (z0 : Int32) (z1 : Int32) (S : hm_S) (T : hm_T) : Prop :=
  wp_10_positionOf z1 z0 S T (fun r3 S3 T3 => wp_10_goTo r3 S3 T3 (fun S4 T4 => Q x2 S4 T4))
set_option maxHeartbeats 4000000 in
set_option maxRecDepth 20000 in
theorem bk_10_setPass_25 {Q : Int32 → hm_S → hm_T → Prop} (cx : hm_cx G p s m args c prog_1_method_13_code 3 "HeapGames") (hr : meth.sig.returnType = some .int) (hlk : meth.locks = false) {x2 : Int32} {z0 : Int32} {z1 : Int32} {S : hm_S} {T : hm_T} {H : Heap} {locs : List Loc} {ls : Array Slot} (h : wb_10_setPass_25 Q x2 z0 z1 S T) (hw : hm_w G H0 o 74 shX S T H) (hL : hm_L o 74 locs) (hl : lv_has ls 3 [(2, .int x2)]) : W p l e rm_10_setPass s m args below meth c H locs 0 0 (MQ below (hm_Qi G H0 o 74 shX Q) args s 0 0 (t_fr o (o + 74))) (F0 m 25 ls [.int z0, .int z1, .ref (o + 0)]) := by
  have hx := cx.1.1
  have hb := cx.1.2.1
  unfold wb_10_setPass_25 at h
  refine hm_calli (hm_rS (As := [.int z1, .int z0]) (rest := [.ref (o + 0)]) cx hw (ct_10_positionOf h) (mw_10_140 cx.1.2.2.2.2 ⟨Nat.le_of_ble_eq_true rfl, Nat.le_of_ble_eq_true rfl⟩) rfl hl.1 rfl (Nat.le_of_ble_eq_true rfl) d_10_setPass_25 ⟨Nat.zero_le _, Nat.zero_le _⟩) hL (fun r3 S3 T3 H locs h hw hL => ?_)
  refine hm_callv (hm_rV (i := 0) (As := [.int r3]) (rest := []) cx hw (ct_10_goTo h) (mw_10_143 cx.1.2.2.2.2 ⟨Nat.le_of_ble_eq_true rfl, Nat.le_of_ble_eq_true rfl⟩) (by decide) sx_0 rfl rfl hl.1 rfl (Nat.le_of_ble_eq_true rfl) d_10_setPass_28 ⟨Nat.zero_le _, Nat.zero_le _⟩) hL (fun S4 T4 H locs h hw hL => ?_)
  refine lv_iload_n hx hb d_10_setPass_31 rfl (lv_at hl 0 rfl) ?_
  exact W.iret hx hb hr (fun t ht _ => ⟨_, _, _, rfl, h, by rw [ht]; exact hw⟩) hL d_10_setPass_32
def wp_10_setPass (x1 : Int32) (S : hm_S) (T : hm_T) (Q : Int32 → hm_S → hm_T → Prop) : Prop :=
  wp_10_passOf (S 0 9) S T (fun r1 S1 T1 => wp_10_layoutOf (S1 0 9) S1 T1 (fun r2 S2 T2 => (if x1 = 0 then wb_10_setPass_25 Q r1 0 r2 S2 T2 else wb_10_setPass_25 Q r1 1 r2 S2 T2)))
set_option maxHeartbeats 4000000 in
set_option maxRecDepth 20000 in
theorem bk_10_setPass_0 {Q : Int32 → hm_S → hm_T → Prop} (cx : hm_cx G p s m args c prog_1_method_13_code 3 "HeapGames") (hr : meth.sig.returnType = some .int) (hlk : meth.locks = false) {x1 : Int32} {S : hm_S} {T : hm_T} {H : Heap} {locs : List Loc} {ls : Array Slot} (h : wp_10_setPass x1 S T Q) (hw : hm_w G H0 o 74 shX S T H) (hL : hm_L o 74 locs) (hl : lv_has ls 3 [(0, .ref (o + 0)), (1, .int x1)]) : W p l e rm_10_setPass s m args below meth c H locs 0 0 (MQ below (hm_Qi G H0 o 74 shX Q) args s 0 0 (t_fr o (o + 74))) (F0 m 0 ls []) := by
  have hx := cx.1.1
  have hb := cx.1.2.1
  unfold wp_10_setPass at h
  refine lv_aload_n hx hb d_10_setPass_0 rfl (lv_at hl 0 rfl) ?_
  refine gf_10_80 cx hw (i := 0) (by decide) sx_0 rfl d_10_setPass_1 ?_
  refine hm_calli (hm_rS (As := [.int (S 0 9)]) (rest := []) cx hw (ct_10_passOf h) (mw_10_137 cx.1.2.2.2.2 ⟨Nat.le_of_ble_eq_true rfl, Nat.le_of_ble_eq_true rfl⟩) rfl hl.1 rfl (Nat.le_of_ble_eq_true rfl) d_10_setPass_4 ⟨Nat.zero_le _, Nat.zero_le _⟩) hL (fun r1 S1 T1 H locs h hw hL => ?_)
  refine lv_istore_n (lv' := [(2, .int r1), (0, .ref (o + 0)), (1, .int x1)]) hx hb d_10_setPass_7 rfl hl (by decide) rfl (fun ls hl => ?_)
  refine lv_aload_n hx hb d_10_setPass_8 rfl (lv_at hl 1 rfl) ?_
  refine lv_aload_n hx hb d_10_setPass_9 rfl (lv_at hl 1 rfl) ?_
  refine gf_10_80 cx hw (i := 0) (by decide) sx_0 rfl d_10_setPass_10 ?_
  refine hm_calli (hm_rS (As := [.int (S1 0 9)]) (rest := [.ref (o + 0)]) cx hw (ct_10_layoutOf h) (mw_10_124 cx.1.2.2.2.2 ⟨Nat.le_of_ble_eq_true rfl, Nat.le_of_ble_eq_true rfl⟩) rfl hl.1 rfl (Nat.le_of_ble_eq_true rfl) d_10_setPass_13 ⟨Nat.zero_le _, Nat.zero_le _⟩) hL (fun r2 S2 T2 H locs h hw hL => ?_)
  refine lv_iload_n hx hb d_10_setPass_16 rfl (lv_at hl 2 rfl) ?_
  refine lv_if_eq (tgt := 24) hx hb d_10_setPass_17 (by decide) (fun hc => ?_) (fun hc => ?_)
  · replace h := hm_pos hc h
    refine lv_iconst (v := 0) hx hb d_10_setPass_24 (by decide) ?_
    exact bk_10_setPass_25 cx hr hlk h hw hL (lv_sub hl [0] rfl)
  · replace h := hm_neg hc h
    refine lv_iconst (v := 1) hx hb d_10_setPass_20 (by decide) ?_
    refine lv_goto (tgt := 25) hx hb d_10_setPass_21 (by decide) ?_
    exact bk_10_setPass_25 cx hr hlk h hw hL (lv_sub hl [0] rfl)
set_option maxHeartbeats 4000000 in
set_option maxRecDepth 20000 in
theorem ct_10_setPass {x1 : Int32} {S : hm_S} {T : hm_T} {Q : Int32 → hm_S → hm_T → Prop} (h : wp_10_setPass x1 S T Q) : hm_M l G H0 o 74 shX y_10_setPass prog_1_method_13_code 3 (some .int) rm_10_setPass S T [.ref (o + 0), .int x1] (hm_Qi G H0 o 74 shX Q) := by
  refine Met.ofW (cc := prog_1_method_13_code) (maxL := 3) (ret := some .int) (by decide) rfl ?_
  intro p e s m args below meth c s₁ B hml hv
  obtain ⟨rfl, hK, hw⟩ := hv
  have cx : hm_cx G p s m _ c prog_1_method_13_code 3 "HeapGames" := ⟨⟨B.exec, B.bytes, hml, findClass_of_methodNamed B.named, fun w hq => atoms_spec (ws := hm_ws y_10_setPass prog_1_method_13_code 3 (some .int)) B.pre w (List.mem_cons_of_mem _ hq)⟩, hK⟩
  have hl := lv_entry ([.ref (o + 0), .int x1]) (n := 3) (Nat.le_of_ble_eq_true rfl)
  rw [lg_entry_eq]
  generalize (lg_sl ([.ref (o + 0), .int x1]) ++ List.replicate (3 - (lg_sl ([.ref (o + 0), .int x1])).length) Slot.unset).toArray = ls at hl ⊢
  have hl : lv_has ls 3 [(0, .ref (o + 0)), (1, .int x1)] := hl
  exact bk_10_setPass_0 cx B.returns B.notSynchronized h hw (hm_L0 _ _) hl
/-! ===== HeapGames.readPosition()I ===== -/
theorem d_10_readPosition_0 : decode prog_1_method_14_code 0 = .ok (.aload_n 0, 1) := by decide +kernel
theorem d_10_readPosition_1 : decode prog_1_method_14_code 1 = .ok (.getfield 69, 3) := by decide +kernel
theorem d_10_readPosition_4 : decode prog_1_method_14_code 4 = .ok (.aload_n 0, 1) := by decide +kernel
theorem d_10_readPosition_5 : decode prog_1_method_14_code 5 = .ok (.getfield 53, 3) := by decide +kernel
theorem d_10_readPosition_8 : decode prog_1_method_14_code 8 = .ok (.invokevirtual 158, 3) := by decide +kernel
theorem d_10_readPosition_11 : decode prog_1_method_14_code 11 = .ok (.istore_n 1, 1) := by decide +kernel
theorem d_10_readPosition_12 : decode prog_1_method_14_code 12 = .ok (.iload_n 1, 1) := by decide +kernel
theorem d_10_readPosition_13 : decode prog_1_method_14_code 13 = .ok (.iconst (-1), 1) := by decide +kernel
theorem d_10_readPosition_14 : decode prog_1_method_14_code 14 = .ok (.if_icmp .eq 9, 3) := by decide +kernel
theorem d_10_readPosition_17 : decode prog_1_method_14_code 17 = .ok (.sipush (-2000), 3) := by decide +kernel
theorem d_10_readPosition_20 : decode prog_1_method_14_code 20 = .ok (.iload_n 1, 1) := by decide +kernel
theorem d_10_readPosition_21 : decode prog_1_method_14_code 21 = .ok (.isub, 1) := by decide +kernel
theorem d_10_readPosition_22 : decode prog_1_method_14_code 22 = .ok (.ireturn, 1) := by decide +kernel
theorem d_10_readPosition_23 : decode prog_1_method_14_code 23 = .ok (.aload_n 0, 1) := by decide +kernel
theorem d_10_readPosition_24 : decode prog_1_method_14_code 24 = .ok (.aload_n 0, 1) := by decide +kernel
theorem d_10_readPosition_25 : decode prog_1_method_14_code 25 = .ok (.getfield 69, 3) := by decide +kernel
theorem d_10_readPosition_28 : decode prog_1_method_14_code 28 = .ok (.invokevirtual 159, 3) := by decide +kernel
theorem d_10_readPosition_31 : decode prog_1_method_14_code 31 = .ok (.invokevirtual 143, 3) := by decide +kernel
theorem d_10_readPosition_34 : decode prog_1_method_14_code 34 = .ok (.aload_n 0, 1) := by decide +kernel
theorem d_10_readPosition_35 : decode prog_1_method_14_code 35 = .ok (.getfield 53, 3) := by decide +kernel
theorem d_10_readPosition_38 : decode prog_1_method_14_code 38 = .ok (.invokevirtual 111, 3) := by decide +kernel
theorem d_10_readPosition_41 : decode prog_1_method_14_code 41 = .ok (.aload_n 0, 1) := by decide +kernel
theorem d_10_readPosition_42 : decode prog_1_method_14_code 42 = .ok (.getfield 24, 3) := by decide +kernel
theorem d_10_readPosition_45 : decode prog_1_method_14_code 45 = .ok (.aload_n 0, 1) := by decide +kernel
theorem d_10_readPosition_46 : decode prog_1_method_14_code 46 = .ok (.getfield 80, 3) := by decide +kernel
theorem d_10_readPosition_49 : decode prog_1_method_14_code 49 = .ok (.invokestatic 124, 3) := by decide +kernel
theorem d_10_readPosition_52 : decode prog_1_method_14_code 52 = .ok (.invokevirtual 146, 3) := by decide +kernel
theorem d_10_readPosition_55 : decode prog_1_method_14_code 55 = .ok (.ireturn, 1) := by decide +kernel
def wp_10_readPosition (S : hm_S) (T : hm_T) (Q : Int32 → hm_S → hm_T → Prop) : Prop :=
  wp_4_faultOf S T (fun r1 S1 T1 => (if r1 = (-1) then wp_4_position S1 T1 (fun r2 S2 T2 => wp_10_goTo r2 S2 T2 (fun S3 T3 => wp_9_clear S3 T3 (fun S4 T4 => wp_10_layoutOf (S4 0 9) S4 T4 (fun r5 S5 T5 => wp_2_heapsOf r5 S5 T5 (fun r6 S6 T6 => Q r6 S6 T6))))) else Q ((-2000) - r1) S1 T1))
set_option maxHeartbeats 4000000 in
set_option maxRecDepth 20000 in
theorem bk_10_readPosition_0 {Q : Int32 → hm_S → hm_T → Prop} (cx : hm_cx G p s m args c prog_1_method_14_code 2 "HeapGames") (hr : meth.sig.returnType = some .int) (hlk : meth.locks = false) {S : hm_S} {T : hm_T} {H : Heap} {locs : List Loc} {ls : Array Slot} (h : wp_10_readPosition S T Q) (hw : hm_w G H0 o 74 shX S T H) (hL : hm_L o 74 locs) (hl : lv_has ls 2 [(0, .ref (o + 0))]) : W p l e rm_10_readPosition s m args below meth c H locs 0 0 (MQ below (hm_Qi G H0 o 74 shX Q) args s 0 0 (t_fr o (o + 74))) (F0 m 0 ls []) := by
  have hx := cx.1.1
  have hb := cx.1.2.1
  unfold wp_10_readPosition at h
  refine lv_aload_n hx hb d_10_readPosition_0 rfl (lv_at hl 0 rfl) ?_
  refine gf_10_69 cx hw (i := 0) (r := 70) (by decide) sx_0 rfl d_10_readPosition_1 ?_
  refine lv_aload_n hx hb d_10_readPosition_4 rfl (lv_at hl 0 rfl) ?_
  refine gf_10_53 cx hw (i := 0) (r := 64) (by decide) sx_0 rfl d_10_readPosition_5 ?_
  refine hm_calli (hm_rV (i := 70) (As := [.ref (o + 64)]) (rest := []) cx hw (ct_4_faultOf h) (mw_10_158 cx.1.2.2.2.2 ⟨Nat.le_of_ble_eq_true rfl, Nat.le_of_ble_eq_true rfl⟩) (by decide) sx_70 rfl rfl hl.1 rfl (Nat.le_of_ble_eq_true rfl) d_10_readPosition_8 ⟨Nat.zero_le _, Nat.zero_le _⟩) hL (fun r1 S1 T1 H locs h hw hL => ?_)
  refine lv_istore_n (lv' := [(1, .int r1), (0, .ref (o + 0))]) hx hb d_10_readPosition_11 rfl hl (by decide) rfl (fun ls hl => ?_)
  refine lv_iload_n hx hb d_10_readPosition_12 rfl (lv_at hl 0 rfl) ?_
  refine lv_iconst (v := (-1)) hx hb d_10_readPosition_13 (by decide) ?_
  refine lv_icmp_eq (tgt := 23) hx hb d_10_readPosition_14 (by decide) (fun hc => ?_) (fun hc => ?_)
  · replace h := hm_pos hc h
    refine lv_aload_n hx hb d_10_readPosition_23 rfl (lv_at hl 1 rfl) ?_
    refine lv_aload_n hx hb d_10_readPosition_24 rfl (lv_at hl 1 rfl) ?_
    refine gf_10_69 cx hw (i := 0) (r := 70) (by decide) sx_0 rfl d_10_readPosition_25 ?_
    refine hm_calli (hm_rV (i := 70) (As := []) (rest := [.ref (o + 0)]) cx hw (ct_4_position h) (mw_10_159 cx.1.2.2.2.2 ⟨Nat.le_of_ble_eq_true rfl, Nat.le_of_ble_eq_true rfl⟩) (by decide) sx_70 rfl rfl hl.1 rfl (Nat.le_of_ble_eq_true rfl) d_10_readPosition_28 ⟨Nat.zero_le _, Nat.zero_le _⟩) hL (fun r2 S2 T2 H locs h hw hL => ?_)
    refine hm_callv (hm_rV (i := 0) (As := [.int r2]) (rest := []) cx hw (ct_10_goTo h) (mw_10_143 cx.1.2.2.2.2 ⟨Nat.le_of_ble_eq_true rfl, Nat.le_of_ble_eq_true rfl⟩) (by decide) sx_0 rfl rfl hl.1 rfl (Nat.le_of_ble_eq_true rfl) d_10_readPosition_31 ⟨Nat.zero_le _, Nat.zero_le _⟩) hL (fun S3 T3 H locs h hw hL => ?_)
    refine lv_aload_n hx hb d_10_readPosition_34 rfl (lv_at hl 1 rfl) ?_
    refine gf_10_53 cx hw (i := 0) (r := 64) (by decide) sx_0 rfl d_10_readPosition_35 ?_
    refine hm_callv (hm_rV (i := 64) (As := []) (rest := []) cx hw (ct_9_clear h) (mw_10_111 cx.1.2.2.2.2 ⟨Nat.le_of_ble_eq_true rfl, Nat.le_of_ble_eq_true rfl⟩) (by decide) sx_64 rfl rfl hl.1 rfl (Nat.le_of_ble_eq_true rfl) d_10_readPosition_38 ⟨Nat.zero_le _, Nat.zero_le _⟩) hL (fun S4 T4 H locs h hw hL => ?_)
    refine lv_aload_n hx hb d_10_readPosition_41 rfl (lv_at hl 1 rfl) ?_
    refine gf_10_24 cx hw (i := 0) (r := 4) (by decide) sx_0 rfl d_10_readPosition_42 ?_
    refine lv_aload_n hx hb d_10_readPosition_45 rfl (lv_at hl 1 rfl) ?_
    refine gf_10_80 cx hw (i := 0) (by decide) sx_0 rfl d_10_readPosition_46 ?_
    refine hm_calli (hm_rS (As := [.int (S4 0 9)]) (rest := [.ref (o + 4)]) cx hw (ct_10_layoutOf h) (mw_10_124 cx.1.2.2.2.2 ⟨Nat.le_of_ble_eq_true rfl, Nat.le_of_ble_eq_true rfl⟩) rfl hl.1 rfl (Nat.le_of_ble_eq_true rfl) d_10_readPosition_49 ⟨Nat.zero_le _, Nat.zero_le _⟩) hL (fun r5 S5 T5 H locs h hw hL => ?_)
    refine hm_calli (hm_rV (i := 4) (As := [.int r5]) (rest := []) cx hw (ct_2_heapsOf (by decide) (fun _ _ _ => rfl) h) (mw_10_146 cx.1.2.2.2.2 ⟨Nat.le_of_ble_eq_true rfl, Nat.le_of_ble_eq_true rfl⟩) (by decide) sx_4 rfl rfl hl.1 rfl (Nat.le_of_ble_eq_true rfl) d_10_readPosition_52 ⟨Nat.zero_le _, Nat.zero_le _⟩) hL (fun r6 S6 T6 H locs h hw hL => ?_)
    exact W.iret hx hb hr (fun t ht _ => ⟨_, _, _, rfl, h, by rw [ht]; exact hw⟩) hL d_10_readPosition_55
  · replace h := hm_neg hc h
    refine lv_sipush (v := (-2000)) hx hb d_10_readPosition_17 (by decide) ?_
    refine lv_iload_n hx hb d_10_readPosition_20 rfl (lv_at hl 0 rfl) ?_
    refine lv_isub hx hb d_10_readPosition_21 ?_
    exact W.iret hx hb hr (fun t ht _ => ⟨_, _, _, rfl, h, by rw [ht]; exact hw⟩) hL d_10_readPosition_22
set_option maxHeartbeats 4000000 in
set_option maxRecDepth 20000 in
theorem ct_10_readPosition {S : hm_S} {T : hm_T} {Q : Int32 → hm_S → hm_T → Prop} (h : wp_10_readPosition S T Q) : hm_M l G H0 o 74 shX y_10_readPosition prog_1_method_14_code 2 (some .int) rm_10_readPosition S T [.ref (o + 0)] (hm_Qi G H0 o 74 shX Q) := by
  refine Met.ofW (cc := prog_1_method_14_code) (maxL := 2) (ret := some .int) (by decide) rfl ?_
  intro p e s m args below meth c s₁ B hml hv
  obtain ⟨rfl, hK, hw⟩ := hv
  have cx : hm_cx G p s m _ c prog_1_method_14_code 2 "HeapGames" := ⟨⟨B.exec, B.bytes, hml, findClass_of_methodNamed B.named, fun w hq => atoms_spec (ws := hm_ws y_10_readPosition prog_1_method_14_code 2 (some .int)) B.pre w (List.mem_cons_of_mem _ hq)⟩, hK⟩
  have hl := lv_entry ([.ref (o + 0)]) (n := 2) (Nat.le_of_ble_eq_true rfl)
  rw [lg_entry_eq]
  generalize (lg_sl ([.ref (o + 0)]) ++ List.replicate (2 - (lg_sl ([.ref (o + 0)])).length) Slot.unset).toArray = ls at hl ⊢
  have hl : lv_has ls 2 [(0, .ref (o + 0))] := hl
  exact bk_10_readPosition_0 cx B.returns B.notSynchronized h hw (hm_L0 _ _) hl
/-! ===== HeapGames.propertyOfHeap(II)I ===== -/
theorem d_10_propertyOfHeap_0 : decode prog_1_method_18_code 0 = .ok (.aload_n 0, 1) := by decide +kernel
theorem d_10_propertyOfHeap_1 : decode prog_1_method_18_code 1 = .ok (.getfield 24, 3) := by decide +kernel
theorem d_10_propertyOfHeap_4 : decode prog_1_method_18_code 4 = .ok (.aload_n 0, 1) := by decide +kernel
theorem d_10_propertyOfHeap_5 : decode prog_1_method_18_code 5 = .ok (.getfield 80, 3) := by decide +kernel
theorem d_10_propertyOfHeap_8 : decode prog_1_method_18_code 8 = .ok (.invokestatic 124, 3) := by decide +kernel
theorem d_10_propertyOfHeap_11 : decode prog_1_method_18_code 11 = .ok (.iload_n 1, 1) := by decide +kernel
theorem d_10_propertyOfHeap_12 : decode prog_1_method_18_code 12 = .ok (.invokevirtual 149, 3) := by decide +kernel
theorem d_10_propertyOfHeap_15 : decode prog_1_method_18_code 15 = .ok (.istore_n 3, 1) := by decide +kernel
theorem d_10_propertyOfHeap_16 : decode prog_1_method_18_code 16 = .ok (.iload_n 2, 1) := by decide +kernel
theorem d_10_propertyOfHeap_17 : decode prog_1_method_18_code 17 = .ok (.lookupswitch 37 #[(0, 27), (1, 32)], 27) := by decide +kernel
theorem d_10_propertyOfHeap_44 : decode prog_1_method_18_code 44 = .ok (.iload_n 3, 1) := by decide +kernel
theorem d_10_propertyOfHeap_45 : decode prog_1_method_18_code 45 = .ok (.invokestatic 152, 3) := by decide +kernel
theorem d_10_propertyOfHeap_48 : decode prog_1_method_18_code 48 = .ok (.ireturn, 1) := by decide +kernel
theorem d_10_propertyOfHeap_49 : decode prog_1_method_18_code 49 = .ok (.iload_n 3, 1) := by decide +kernel
theorem d_10_propertyOfHeap_50 : decode prog_1_method_18_code 50 = .ok (.invokestatic 175, 3) := by decide +kernel
theorem d_10_propertyOfHeap_53 : decode prog_1_method_18_code 53 = .ok (.ireturn, 1) := by decide +kernel
theorem d_10_propertyOfHeap_54 : decode prog_1_method_18_code 54 = .ok (.aload_n 0, 1) := by decide +kernel
theorem d_10_propertyOfHeap_55 : decode prog_1_method_18_code 55 = .ok (.getfield 46, 3) := by decide +kernel
theorem d_10_propertyOfHeap_58 : decode prog_1_method_18_code 58 = .ok (.iload_n 3, 1) := by decide +kernel
theorem d_10_propertyOfHeap_59 : decode prog_1_method_18_code 59 = .ok (.invokestatic 152, 3) := by decide +kernel
theorem d_10_propertyOfHeap_62 : decode prog_1_method_18_code 62 = .ok (.invokevirtual 178, 3) := by decide +kernel
theorem d_10_propertyOfHeap_65 : decode prog_1_method_18_code 65 = .ok (.ireturn, 1) := by decide +kernel
def wp_10_propertyOfHeap (x1 : Int32) (x2 : Int32) (S : hm_S) (T : hm_T) (Q : Int32 → hm_S → hm_T → Prop) : Prop :=
  wp_10_layoutOf (S 0 9) S T (fun r1 S1 T1 => wp_2_kindAt r1 x1 S1 T1 (fun r2 S2 T2 => (if x2 = 0 then wp_10_sizeOfKind r2 S2 T2 (fun r3 S3 T3 => Q r3 S3 T3) else (if x2 = 1 then wp_10_boundOfKind r2 S2 T2 (fun r4 S4 T4 => Q r4 S4 T4) else wp_10_sizeOfKind r2 S2 T2 (fun r5 S5 T5 => wp_0_valueOf r5 S5 T5 (fun r6 S6 T6 => Q r6 S6 T6))))))
set_option maxHeartbeats 4000000 in
set_option maxRecDepth 20000 in
theorem bk_10_propertyOfHeap_0 {Q : Int32 → hm_S → hm_T → Prop} (cx : hm_cx G p s m args c prog_1_method_18_code 4 "HeapGames") (hr : meth.sig.returnType = some .int) (hlk : meth.locks = false) {x1 : Int32} {x2 : Int32} {S : hm_S} {T : hm_T} {H : Heap} {locs : List Loc} {ls : Array Slot} (h : wp_10_propertyOfHeap x1 x2 S T Q) (hw : hm_w G H0 o 74 shX S T H) (hL : hm_L o 74 locs) (hl : lv_has ls 4 [(0, .ref (o + 0)), (1, .int x1), (2, .int x2)]) : W p l e rm_10_propertyOfHeap s m args below meth c H locs 0 0 (MQ below (hm_Qi G H0 o 74 shX Q) args s 0 0 (t_fr o (o + 74))) (F0 m 0 ls []) := by
  have hx := cx.1.1
  have hb := cx.1.2.1
  unfold wp_10_propertyOfHeap at h
  refine lv_aload_n hx hb d_10_propertyOfHeap_0 rfl (lv_at hl 0 rfl) ?_
  refine gf_10_24 cx hw (i := 0) (r := 4) (by decide) sx_0 rfl d_10_propertyOfHeap_1 ?_
  refine lv_aload_n hx hb d_10_propertyOfHeap_4 rfl (lv_at hl 0 rfl) ?_
  refine gf_10_80 cx hw (i := 0) (by decide) sx_0 rfl d_10_propertyOfHeap_5 ?_
  refine hm_calli (hm_rS (As := [.int (S 0 9)]) (rest := [.ref (o + 4)]) cx hw (ct_10_layoutOf h) (mw_10_124 cx.1.2.2.2.2 ⟨Nat.le_of_ble_eq_true rfl, Nat.le_of_ble_eq_true rfl⟩) rfl hl.1 rfl (Nat.le_of_ble_eq_true rfl) d_10_propertyOfHeap_8 ⟨Nat.zero_le _, Nat.zero_le _⟩) hL (fun r1 S1 T1 H locs h hw hL => ?_)
  refine lv_iload_n hx hb d_10_propertyOfHeap_11 rfl (lv_at hl 1 rfl) ?_
  refine hm_calli (hm_rV (i := 4) (As := [.int r1, .int x1]) (rest := []) cx hw (ct_2_kindAt (by decide) (fun _ _ _ => rfl) h) (mw_10_149 cx.1.2.2.2.2 ⟨Nat.le_of_ble_eq_true rfl, Nat.le_of_ble_eq_true rfl⟩) (by decide) sx_4 rfl rfl hl.1 rfl (Nat.le_of_ble_eq_true rfl) d_10_propertyOfHeap_12 ⟨Nat.zero_le _, Nat.zero_le _⟩) hL (fun r2 S2 T2 H locs h hw hL => ?_)
  refine lv_istore_n (lv' := [(3, .int r2), (0, .ref (o + 0)), (1, .int x1), (2, .int x2)]) hx hb d_10_propertyOfHeap_15 rfl hl (by decide) rfl (fun ls hl => ?_)
  refine lv_iload_n hx hb d_10_propertyOfHeap_16 rfl (lv_at hl 3 rfl) ?_
  refine hm_cs (x := x2) (v := 0) (fun hc => ?_) (fun hc0 => ?_)
  · replace h := hm_pos hc h
    refine lv_lookup (tgt := 44) (off := 27) hx hb d_10_propertyOfHeap_17 (by decide) (by rw [hc]; rfl) (by decide) ?_
    refine lv_iload_n hx hb d_10_propertyOfHeap_44 rfl (lv_at hl 0 rfl) ?_
    refine hm_calli (hm_rS (As := [.int r2]) (rest := []) cx hw (ct_10_sizeOfKind h) (mw_10_152 cx.1.2.2.2.2 ⟨Nat.le_of_ble_eq_true rfl, Nat.le_of_ble_eq_true rfl⟩) rfl hl.1 rfl (Nat.le_of_ble_eq_true rfl) d_10_propertyOfHeap_45 ⟨Nat.zero_le _, Nat.zero_le _⟩) hL (fun r3 S3 T3 H locs h hw hL => ?_)
    exact W.iret hx hb hr (fun t ht _ => ⟨_, _, _, rfl, h, by rw [ht]; exact hw⟩) hL d_10_propertyOfHeap_48
  replace h := hm_neg hc0 h
  refine hm_cs (x := x2) (v := 1) (fun hc => ?_) (fun hc1 => ?_)
  · replace h := hm_pos hc h
    refine lv_lookup (tgt := 49) (off := 32) hx hb d_10_propertyOfHeap_17 (by decide) (by rw [hc]; rfl) (by decide) ?_
    refine lv_iload_n hx hb d_10_propertyOfHeap_49 rfl (lv_at hl 0 rfl) ?_
    refine hm_calli (hm_rS (As := [.int r2]) (rest := []) cx hw (ct_10_boundOfKind h) (mw_10_175 cx.1.2.2.2.2 ⟨Nat.le_of_ble_eq_true rfl, Nat.le_of_ble_eq_true rfl⟩) rfl hl.1 rfl (Nat.le_of_ble_eq_true rfl) d_10_propertyOfHeap_50 ⟨Nat.zero_le _, Nat.zero_le _⟩) hL (fun r4 S4 T4 H locs h hw hL => ?_)
    exact W.iret hx hb hr (fun t ht _ => ⟨_, _, _, rfl, h, by rw [ht]; exact hw⟩) hL d_10_propertyOfHeap_53
  replace h := hm_neg hc1 h
  refine lv_lookup (tgt := 54) (off := 37) hx hb d_10_propertyOfHeap_17 (by decide) (hm_lk0_1 hc0 hc1) (by decide) ?_
  refine lv_aload_n hx hb d_10_propertyOfHeap_54 rfl (lv_at hl 1 rfl) ?_
  refine gf_10_46 cx hw (i := 0) (r := 59) (by decide) sx_0 rfl d_10_propertyOfHeap_55 ?_
  refine lv_iload_n hx hb d_10_propertyOfHeap_58 rfl (lv_at hl 0 rfl) ?_
  refine hm_calli (hm_rS (As := [.int r2]) (rest := [.ref (o + 59)]) cx hw (ct_10_sizeOfKind h) (mw_10_152 cx.1.2.2.2.2 ⟨Nat.le_of_ble_eq_true rfl, Nat.le_of_ble_eq_true rfl⟩) rfl hl.1 rfl (Nat.le_of_ble_eq_true rfl) d_10_propertyOfHeap_59 ⟨Nat.zero_le _, Nat.zero_le _⟩) hL (fun r5 S5 T5 H locs h hw hL => ?_)
  refine hm_calli (hm_rV (i := 59) (As := [.int r5]) (rest := []) cx hw (ct_0_valueOf h) (mw_10_178 cx.1.2.2.2.2 ⟨Nat.le_of_ble_eq_true rfl, Nat.le_of_ble_eq_true rfl⟩) (by decide) sx_59 rfl rfl hl.1 rfl (Nat.le_of_ble_eq_true rfl) d_10_propertyOfHeap_62 ⟨Nat.zero_le _, Nat.zero_le _⟩) hL (fun r6 S6 T6 H locs h hw hL => ?_)
  exact W.iret hx hb hr (fun t ht _ => ⟨_, _, _, rfl, h, by rw [ht]; exact hw⟩) hL d_10_propertyOfHeap_65
set_option maxHeartbeats 4000000 in
set_option maxRecDepth 20000 in
theorem ct_10_propertyOfHeap {x1 : Int32} {x2 : Int32} {S : hm_S} {T : hm_T} {Q : Int32 → hm_S → hm_T → Prop} (h : wp_10_propertyOfHeap x1 x2 S T Q) : hm_M l G H0 o 74 shX y_10_propertyOfHeap prog_1_method_18_code 4 (some .int) rm_10_propertyOfHeap S T [.ref (o + 0), .int x1, .int x2] (hm_Qi G H0 o 74 shX Q) := by
  refine Met.ofW (cc := prog_1_method_18_code) (maxL := 4) (ret := some .int) (by decide) rfl ?_
  intro p e s m args below meth c s₁ B hml hv
  obtain ⟨rfl, hK, hw⟩ := hv
  have cx : hm_cx G p s m _ c prog_1_method_18_code 4 "HeapGames" := ⟨⟨B.exec, B.bytes, hml, findClass_of_methodNamed B.named, fun w hq => atoms_spec (ws := hm_ws y_10_propertyOfHeap prog_1_method_18_code 4 (some .int)) B.pre w (List.mem_cons_of_mem _ hq)⟩, hK⟩
  have hl := lv_entry ([.ref (o + 0), .int x1, .int x2]) (n := 4) (Nat.le_of_ble_eq_true rfl)
  rw [lg_entry_eq]
  generalize (lg_sl ([.ref (o + 0), .int x1, .int x2]) ++ List.replicate (4 - (lg_sl ([.ref (o + 0), .int x1, .int x2])).length) Slot.unset).toArray = ls at hl ⊢
  have hl : lv_has ls 4 [(0, .ref (o + 0)), (1, .int x1), (2, .int x2)] := hl
  exact bk_10_propertyOfHeap_0 cx B.returns B.notSynchronized h hw (hm_L0 _ _) hl
/-! ===== HeapGames.heap(II)I ===== -/
theorem d_10_heap_0 : decode prog_1_method_15_code 0 = .ok (.iload_n 1, 1) := by decide +kernel
theorem d_10_heap_1 : decode prog_1_method_15_code 1 = .ok (.ifCond .lt 30, 3) := by decide +kernel
theorem d_10_heap_4 : decode prog_1_method_15_code 4 = .ok (.iload_n 1, 1) := by decide +kernel
theorem d_10_heap_5 : decode prog_1_method_15_code 5 = .ok (.aload_n 0, 1) := by decide +kernel
theorem d_10_heap_6 : decode prog_1_method_15_code 6 = .ok (.getfield 24, 3) := by decide +kernel
theorem d_10_heap_9 : decode prog_1_method_15_code 9 = .ok (.aload_n 0, 1) := by decide +kernel
theorem d_10_heap_10 : decode prog_1_method_15_code 10 = .ok (.getfield 80, 3) := by decide +kernel
theorem d_10_heap_13 : decode prog_1_method_15_code 13 = .ok (.invokestatic 124, 3) := by decide +kernel
theorem d_10_heap_16 : decode prog_1_method_15_code 16 = .ok (.invokevirtual 146, 3) := by decide +kernel
theorem d_10_heap_19 : decode prog_1_method_15_code 19 = .ok (.if_icmp .ge 12, 3) := by decide +kernel
theorem d_10_heap_22 : decode prog_1_method_15_code 22 = .ok (.iload_n 2, 1) := by decide +kernel
theorem d_10_heap_23 : decode prog_1_method_15_code 23 = .ok (.ifCond .lt 8, 3) := by decide +kernel
theorem d_10_heap_26 : decode prog_1_method_15_code 26 = .ok (.iload_n 2, 1) := by decide +kernel
theorem d_10_heap_27 : decode prog_1_method_15_code 27 = .ok (.iconst 2, 1) := by decide +kernel
theorem d_10_heap_28 : decode prog_1_method_15_code 28 = .ok (.if_icmp .le 6, 3) := by decide +kernel
theorem d_10_heap_31 : decode prog_1_method_15_code 31 = .ok (.bipush (-2), 2) := by decide +kernel
theorem d_10_heap_33 : decode prog_1_method_15_code 33 = .ok (.ireturn, 1) := by decide +kernel
theorem d_10_heap_34 : decode prog_1_method_15_code 34 = .ok (.aload_n 0, 1) := by decide +kernel
theorem d_10_heap_35 : decode prog_1_method_15_code 35 = .ok (.iload_n 1, 1) := by decide +kernel
theorem d_10_heap_36 : decode prog_1_method_15_code 36 = .ok (.iload_n 2, 1) := by decide +kernel
theorem d_10_heap_37 : decode prog_1_method_15_code 37 = .ok (.invokevirtual 163, 3) := by decide +kernel
theorem d_10_heap_40 : decode prog_1_method_15_code 40 = .ok (.ireturn, 1) := by decide +kernel
def wp_10_heap (x1 : Int32) (x2 : Int32) (S : hm_S) (T : hm_T) (Q : Int32 → hm_S → hm_T → Prop) : Prop :=
  (if x1 < 0 then Q (-2) S T else wp_10_layoutOf (S 0 9) S T (fun r1 S1 T1 => wp_2_heapsOf r1 S1 T1 (fun r2 S2 T2 => (if r2 ≤ x1 then Q (-2) S2 T2 else (if x2 < 0 then Q (-2) S2 T2 else (if x2 ≤ 2 then wp_10_propertyOfHeap x1 x2 S2 T2 (fun r3 S3 T3 => Q r3 S3 T3) else Q (-2) S2 T2))))))
set_option maxHeartbeats 4000000 in
set_option maxRecDepth 20000 in
theorem bk_10_heap_0 {Q : Int32 → hm_S → hm_T → Prop} (cx : hm_cx G p s m args c prog_1_method_15_code 3 "HeapGames") (hr : meth.sig.returnType = some .int) (hlk : meth.locks = false) {x1 : Int32} {x2 : Int32} {S : hm_S} {T : hm_T} {H : Heap} {locs : List Loc} {ls : Array Slot} (h : wp_10_heap x1 x2 S T Q) (hw : hm_w G H0 o 74 shX S T H) (hL : hm_L o 74 locs) (hl : lv_has ls 3 [(0, .ref (o + 0)), (1, .int x1), (2, .int x2)]) : W p l e rm_10_heap s m args below meth c H locs 0 0 (MQ below (hm_Qi G H0 o 74 shX Q) args s 0 0 (t_fr o (o + 74))) (F0 m 0 ls []) := by
  have hx := cx.1.1
  have hb := cx.1.2.1
  unfold wp_10_heap at h
  refine lv_iload_n hx hb d_10_heap_0 rfl (lv_at hl 1 rfl) ?_
  refine lv_if_lt (tgt := 31) hx hb d_10_heap_1 (by decide) (fun hc => ?_) (fun hc => ?_)
  · replace h := hm_pos hc h
    refine lv_bipush (v := (-2)) hx hb d_10_heap_31 (by decide) ?_
    exact W.iret hx hb hr (fun t ht _ => ⟨_, _, _, rfl, h, by rw [ht]; exact hw⟩) hL d_10_heap_33
  · replace h := hm_neg hc h
    refine lv_iload_n hx hb d_10_heap_4 rfl (lv_at hl 1 rfl) ?_
    refine lv_aload_n hx hb d_10_heap_5 rfl (lv_at hl 0 rfl) ?_
    refine gf_10_24 cx hw (i := 0) (r := 4) (by decide) sx_0 rfl d_10_heap_6 ?_
    refine lv_aload_n hx hb d_10_heap_9 rfl (lv_at hl 0 rfl) ?_
    refine gf_10_80 cx hw (i := 0) (by decide) sx_0 rfl d_10_heap_10 ?_
    refine hm_calli (hm_rS (As := [.int (S 0 9)]) (rest := [.ref (o + 4), .int x1]) cx hw (ct_10_layoutOf h) (mw_10_124 cx.1.2.2.2.2 ⟨Nat.le_of_ble_eq_true rfl, Nat.le_of_ble_eq_true rfl⟩) rfl hl.1 rfl (Nat.le_of_ble_eq_true rfl) d_10_heap_13 ⟨Nat.zero_le _, Nat.zero_le _⟩) hL (fun r1 S1 T1 H locs h hw hL => ?_)
    refine hm_calli (hm_rV (i := 4) (As := [.int r1]) (rest := [.int x1]) cx hw (ct_2_heapsOf (by decide) (fun _ _ _ => rfl) h) (mw_10_146 cx.1.2.2.2.2 ⟨Nat.le_of_ble_eq_true rfl, Nat.le_of_ble_eq_true rfl⟩) (by decide) sx_4 rfl rfl hl.1 rfl (Nat.le_of_ble_eq_true rfl) d_10_heap_16 ⟨Nat.zero_le _, Nat.zero_le _⟩) hL (fun r2 S2 T2 H locs h hw hL => ?_)
    refine lv_icmp_ge (tgt := 31) hx hb d_10_heap_19 (by decide) (fun hc => ?_) (fun hc => ?_)
    · replace h := hm_pos hc h
      refine lv_bipush (v := (-2)) hx hb d_10_heap_31 (by decide) ?_
      exact W.iret hx hb hr (fun t ht _ => ⟨_, _, _, rfl, h, by rw [ht]; exact hw⟩) hL d_10_heap_33
    · replace h := hm_neg hc h
      refine lv_iload_n hx hb d_10_heap_22 rfl (lv_at hl 2 rfl) ?_
      refine lv_if_lt (tgt := 31) hx hb d_10_heap_23 (by decide) (fun hc => ?_) (fun hc => ?_)
      · replace h := hm_pos hc h
        refine lv_bipush (v := (-2)) hx hb d_10_heap_31 (by decide) ?_
        exact W.iret hx hb hr (fun t ht _ => ⟨_, _, _, rfl, h, by rw [ht]; exact hw⟩) hL d_10_heap_33
      · replace h := hm_neg hc h
        refine lv_iload_n hx hb d_10_heap_26 rfl (lv_at hl 2 rfl) ?_
        refine lv_iconst (v := 2) hx hb d_10_heap_27 (by decide) ?_
        refine lv_icmp_le (tgt := 34) hx hb d_10_heap_28 (by decide) (fun hc => ?_) (fun hc => ?_)
        · replace h := hm_pos hc h
          refine lv_aload_n hx hb d_10_heap_34 rfl (lv_at hl 0 rfl) ?_
          refine lv_iload_n hx hb d_10_heap_35 rfl (lv_at hl 1 rfl) ?_
          refine lv_iload_n hx hb d_10_heap_36 rfl (lv_at hl 2 rfl) ?_
          refine hm_calli (hm_rV (i := 0) (As := [.int x1, .int x2]) (rest := []) cx hw (ct_10_propertyOfHeap h) (mw_10_163 cx.1.2.2.2.2 ⟨Nat.le_of_ble_eq_true rfl, Nat.le_of_ble_eq_true rfl⟩) (by decide) sx_0 rfl rfl hl.1 rfl (Nat.le_of_ble_eq_true rfl) d_10_heap_37 ⟨Nat.zero_le _, Nat.zero_le _⟩) hL (fun r3 S3 T3 H locs h hw hL => ?_)
          exact W.iret hx hb hr (fun t ht _ => ⟨_, _, _, rfl, h, by rw [ht]; exact hw⟩) hL d_10_heap_40
        · replace h := hm_neg hc h
          refine lv_bipush (v := (-2)) hx hb d_10_heap_31 (by decide) ?_
          exact W.iret hx hb hr (fun t ht _ => ⟨_, _, _, rfl, h, by rw [ht]; exact hw⟩) hL d_10_heap_33
set_option maxHeartbeats 4000000 in
set_option maxRecDepth 20000 in
theorem ct_10_heap {x1 : Int32} {x2 : Int32} {S : hm_S} {T : hm_T} {Q : Int32 → hm_S → hm_T → Prop} (h : wp_10_heap x1 x2 S T Q) : hm_M l G H0 o 74 shX y_10_heap prog_1_method_15_code 3 (some .int) rm_10_heap S T [.ref (o + 0), .int x1, .int x2] (hm_Qi G H0 o 74 shX Q) := by
  refine Met.ofW (cc := prog_1_method_15_code) (maxL := 3) (ret := some .int) (by decide) rfl ?_
  intro p e s m args below meth c s₁ B hml hv
  obtain ⟨rfl, hK, hw⟩ := hv
  have cx : hm_cx G p s m _ c prog_1_method_15_code 3 "HeapGames" := ⟨⟨B.exec, B.bytes, hml, findClass_of_methodNamed B.named, fun w hq => atoms_spec (ws := hm_ws y_10_heap prog_1_method_15_code 3 (some .int)) B.pre w (List.mem_cons_of_mem _ hq)⟩, hK⟩
  have hl := lv_entry ([.ref (o + 0), .int x1, .int x2]) (n := 3) (Nat.le_of_ble_eq_true rfl)
  rw [lg_entry_eq]
  generalize (lg_sl ([.ref (o + 0), .int x1, .int x2]) ++ List.replicate (3 - (lg_sl ([.ref (o + 0), .int x1, .int x2])).length) Slot.unset).toArray = ls at hl ⊢
  have hl : lv_has ls 3 [(0, .ref (o + 0)), (1, .int x1), (2, .int x2)] := hl
  exact bk_10_heap_0 cx B.returns B.notSynchronized h hw (hm_L0 _ _) hl
/-! ===== HeapGames.undo()I ===== -/
theorem d_10_undo_0 : decode prog_1_method_16_code 0 = .ok (.aload_n 0, 1) := by decide +kernel
theorem d_10_undo_1 : decode prog_1_method_16_code 1 = .ok (.getfield 76, 3) := by decide +kernel
theorem d_10_undo_4 : decode prog_1_method_16_code 4 = .ok (.getfield 166, 3) := by decide +kernel
theorem d_10_undo_7 : decode prog_1_method_16_code 7 = .ok (.ifCond .ne 6, 3) := by decide +kernel
theorem d_10_undo_10 : decode prog_1_method_16_code 10 = .ok (.bipush (-3), 2) := by decide +kernel
theorem d_10_undo_12 : decode prog_1_method_16_code 12 = .ok (.ireturn, 1) := by decide +kernel
theorem d_10_undo_13 : decode prog_1_method_16_code 13 = .ok (.aload_n 0, 1) := by decide +kernel
theorem d_10_undo_14 : decode prog_1_method_16_code 14 = .ok (.aload_n 0, 1) := by decide +kernel
theorem d_10_undo_15 : decode prog_1_method_16_code 15 = .ok (.getfield 76, 3) := by decide +kernel
theorem d_10_undo_18 : decode prog_1_method_16_code 18 = .ok (.invokevirtual 169, 3) := by decide +kernel
theorem d_10_undo_21 : decode prog_1_method_16_code 21 = .ok (.putfield 80, 3) := by decide +kernel
theorem d_10_undo_24 : decode prog_1_method_16_code 24 = .ok (.aload_n 0, 1) := by decide +kernel
theorem d_10_undo_25 : decode prog_1_method_16_code 25 = .ok (.getfield 76, 3) := by decide +kernel
theorem d_10_undo_28 : decode prog_1_method_16_code 28 = .ok (.getfield 166, 3) := by decide +kernel
theorem d_10_undo_31 : decode prog_1_method_16_code 31 = .ok (.ireturn, 1) := by decide +kernel
def wp_10_undo (S : hm_S) (T : hm_T) (Q : Int32 → hm_S → hm_T → Prop) : Prop :=
  (if (S 71 2) = 0 then Q (-3) S T else wp_1_takeLatest S T (fun r1 S1 T1 => Q ((hm_up S1 0 9 r1) 71 2) (hm_up S1 0 9 r1) T1))
set_option maxHeartbeats 4000000 in
set_option maxRecDepth 20000 in
theorem bk_10_undo_0 {Q : Int32 → hm_S → hm_T → Prop} (cx : hm_cx G p s m args c prog_1_method_16_code 1 "HeapGames") (hr : meth.sig.returnType = some .int) (hlk : meth.locks = false) {S : hm_S} {T : hm_T} {H : Heap} {locs : List Loc} {ls : Array Slot} (h : wp_10_undo S T Q) (hw : hm_w G H0 o 74 shX S T H) (hL : hm_L o 74 locs) (hl : lv_has ls 1 [(0, .ref (o + 0))]) : W p l e rm_10_undo s m args below meth c H locs 0 0 (MQ below (hm_Qi G H0 o 74 shX Q) args s 0 0 (t_fr o (o + 74))) (F0 m 0 ls []) := by
  have hx := cx.1.1
  have hb := cx.1.2.1
  unfold wp_10_undo at h
  refine lv_aload_n hx hb d_10_undo_0 rfl (lv_at hl 0 rfl) ?_
  refine gf_10_76 cx hw (i := 0) (r := 71) (by decide) sx_0 rfl d_10_undo_1 ?_
  refine gf_10_166 cx hw (i := 71) (by decide) sx_71 rfl d_10_undo_4 ?_
  refine lv_if_ne (tgt := 13) hx hb d_10_undo_7 (by decide) (fun hc => ?_) (fun hc => ?_)
  · replace h := hm_neg hc h
    refine lv_aload_n hx hb d_10_undo_13 rfl (lv_at hl 0 rfl) ?_
    refine lv_aload_n hx hb d_10_undo_14 rfl (lv_at hl 0 rfl) ?_
    refine gf_10_76 cx hw (i := 0) (r := 71) (by decide) sx_0 rfl d_10_undo_15 ?_
    refine hm_calli (hm_rV (i := 71) (As := []) (rest := [.ref (o + 0)]) cx hw (ct_1_takeLatest h) (mw_10_169 cx.1.2.2.2.2 ⟨Nat.le_of_ble_eq_true rfl, Nat.le_of_ble_eq_true rfl⟩) (by decide) sx_71 rfl rfl hl.1 rfl (Nat.le_of_ble_eq_true rfl) d_10_undo_18 ⟨Nat.zero_le _, Nat.zero_le _⟩) hL (fun r1 S1 T1 H locs h hw hL => ?_)
    refine pf_10_80 cx hw (i := 0) (by decide) sx_0 rfl hL d_10_undo_21 (fun H locs hw hL => ?_)
    refine lv_aload_n hx hb d_10_undo_24 rfl (lv_at hl 0 rfl) ?_
    refine gf_10_76 cx hw (i := 0) (r := 71) (by decide) sx_0 rfl d_10_undo_25 ?_
    refine gf_10_166 cx hw (i := 71) (by decide) sx_71 rfl d_10_undo_28 ?_
    exact W.iret hx hb hr (fun t ht _ => ⟨_, _, _, rfl, h, by rw [ht]; exact hw⟩) hL d_10_undo_31
  · replace h := hm_pos hc h
    refine lv_bipush (v := (-3)) hx hb d_10_undo_10 (by decide) ?_
    exact W.iret hx hb hr (fun t ht _ => ⟨_, _, _, rfl, h, by rw [ht]; exact hw⟩) hL d_10_undo_12
set_option maxHeartbeats 4000000 in
set_option maxRecDepth 20000 in
theorem ct_10_undo {S : hm_S} {T : hm_T} {Q : Int32 → hm_S → hm_T → Prop} (h : wp_10_undo S T Q) : hm_M l G H0 o 74 shX y_10_undo prog_1_method_16_code 1 (some .int) rm_10_undo S T [.ref (o + 0)] (hm_Qi G H0 o 74 shX Q) := by
  refine Met.ofW (cc := prog_1_method_16_code) (maxL := 1) (ret := some .int) (by decide) rfl ?_
  intro p e s m args below meth c s₁ B hml hv
  obtain ⟨rfl, hK, hw⟩ := hv
  have cx : hm_cx G p s m _ c prog_1_method_16_code 1 "HeapGames" := ⟨⟨B.exec, B.bytes, hml, findClass_of_methodNamed B.named, fun w hq => atoms_spec (ws := hm_ws y_10_undo prog_1_method_16_code 1 (some .int)) B.pre w (List.mem_cons_of_mem _ hq)⟩, hK⟩
  have hl := lv_entry ([.ref (o + 0)]) (n := 1) (Nat.le_of_ble_eq_true rfl)
  rw [lg_entry_eq]
  generalize (lg_sl ([.ref (o + 0)]) ++ List.replicate (1 - (lg_sl ([.ref (o + 0)])).length) Slot.unset).toArray = ls at hl ⊢
  have hl : lv_has ls 1 [(0, .ref (o + 0))] := hl
  exact bk_10_undo_0 cx B.returns B.notSynchronized h hw (hm_L0 _ _) hl
/-! ===== HeapGames.learnHere()V ===== -/
theorem d_10_learnHere_0 : decode prog_1_method_30_code 0 = .ok (.aload_n 0, 1) := by decide +kernel
theorem d_10_learnHere_1 : decode prog_1_method_30_code 1 = .ok (.getfield 37, 3) := by decide +kernel
theorem d_10_learnHere_4 : decode prog_1_method_30_code 4 = .ok (.aload_n 0, 1) := by decide +kernel
theorem d_10_learnHere_5 : decode prog_1_method_30_code 5 = .ok (.getfield 80, 3) := by decide +kernel
theorem d_10_learnHere_8 : decode prog_1_method_30_code 8 = .ok (.invokevirtual 236, 3) := by decide +kernel
theorem d_10_learnHere_11 : decode prog_1_method_30_code 11 = .ok (.aload_n 0, 1) := by decide +kernel
theorem d_10_learnHere_12 : decode prog_1_method_30_code 12 = .ok (.getfield 37, 3) := by decide +kernel
theorem d_10_learnHere_15 : decode prog_1_method_30_code 15 = .ok (.invokevirtual 239, 3) := by decide +kernel
theorem d_10_learnHere_18 : decode prog_1_method_30_code 18 = .ok (.aload_n 0, 1) := by decide +kernel
theorem d_10_learnHere_19 : decode prog_1_method_30_code 19 = .ok (.getfield 28, 3) := by decide +kernel
theorem d_10_learnHere_22 : decode prog_1_method_30_code 22 = .ok (.aload_n 0, 1) := by decide +kernel
theorem d_10_learnHere_23 : decode prog_1_method_30_code 23 = .ok (.getfield 80, 3) := by decide +kernel
theorem d_10_learnHere_26 : decode prog_1_method_30_code 26 = .ok (.invokevirtual 181, 3) := by decide +kernel
theorem d_10_learnHere_29 : decode prog_1_method_30_code 29 = .ok (.return_, 1) := by decide +kernel
def wp_10_learnHere (S : hm_S) (T : hm_T) (Q : hm_S → hm_T → Prop) : Prop :=
  wp_8_explore (S 0 9) S T (fun S1 T1 => wp_8_solve S1 T1 (fun S2 T2 => wp_3_list (S2 0 9) S2 T2 (fun S3 T3 => Q S3 T3)))
set_option maxHeartbeats 4000000 in
set_option maxRecDepth 20000 in
theorem bk_10_learnHere_0 {Q : hm_S → hm_T → Prop} (cx : hm_cx G p s m args c prog_1_method_30_code 1 "HeapGames") (hr : meth.sig.returnType = none) (hlk : meth.locks = false) {S : hm_S} {T : hm_T} {H : Heap} {locs : List Loc} {ls : Array Slot} (h : wp_10_learnHere S T Q) (hw : hm_w G H0 o 74 shX S T H) (hL : hm_L o 74 locs) (hl : lv_has ls 1 [(0, .ref (o + 0))]) : W p l e rm_10_learnHere s m args below meth c H locs 0 0 (MQ below (hm_Qv G H0 o 74 shX Q) args s 0 0 (t_fr o (o + 74))) (F0 m 0 ls []) := by
  have hx := cx.1.1
  have hb := cx.1.2.1
  unfold wp_10_learnHere at h
  refine lv_aload_n hx hb d_10_learnHere_0 rfl (lv_at hl 0 rfl) ?_
  refine gf_10_37 cx hw (i := 0) (r := 36) (by decide) sx_0 rfl d_10_learnHere_1 ?_
  refine lv_aload_n hx hb d_10_learnHere_4 rfl (lv_at hl 0 rfl) ?_
  refine gf_10_80 cx hw (i := 0) (by decide) sx_0 rfl d_10_learnHere_5 ?_
  refine hm_callv (hm_rV (i := 36) (As := [.int (S 0 9)]) (rest := []) cx hw (ct_8_explore h) (mw_10_236 cx.1.2.2.2.2 ⟨Nat.le_of_ble_eq_true rfl, Nat.le_of_ble_eq_true rfl⟩) (by decide) sx_36 rfl rfl hl.1 rfl (Nat.le_of_ble_eq_true rfl) d_10_learnHere_8 ⟨Nat.zero_le _, Nat.zero_le _⟩) hL (fun S1 T1 H locs h hw hL => ?_)
  refine lv_aload_n hx hb d_10_learnHere_11 rfl (lv_at hl 0 rfl) ?_
  refine gf_10_37 cx hw (i := 0) (r := 36) (by decide) sx_0 rfl d_10_learnHere_12 ?_
  refine hm_callv (hm_rV (i := 36) (As := []) (rest := []) cx hw (ct_8_solve h) (mw_10_239 cx.1.2.2.2.2 ⟨Nat.le_of_ble_eq_true rfl, Nat.le_of_ble_eq_true rfl⟩) (by decide) sx_36 rfl rfl hl.1 rfl (Nat.le_of_ble_eq_true rfl) d_10_learnHere_15 ⟨Nat.zero_le _, Nat.zero_le _⟩) hL (fun S2 T2 H locs h hw hL => ?_)
  refine lv_aload_n hx hb d_10_learnHere_18 rfl (lv_at hl 0 rfl) ?_
  refine gf_10_28 cx hw (i := 0) (r := 19) (by decide) sx_0 rfl d_10_learnHere_19 ?_
  refine lv_aload_n hx hb d_10_learnHere_22 rfl (lv_at hl 0 rfl) ?_
  refine gf_10_80 cx hw (i := 0) (by decide) sx_0 rfl d_10_learnHere_23 ?_
  refine hm_callv (hm_rV (i := 19) (As := [.int (S2 0 9)]) (rest := []) cx hw (ct_3_list h) (mw_10_181 cx.1.2.2.2.2 ⟨Nat.le_of_ble_eq_true rfl, Nat.le_of_ble_eq_true rfl⟩) (by decide) sx_19 rfl rfl hl.1 rfl (Nat.le_of_ble_eq_true rfl) d_10_learnHere_26 ⟨Nat.zero_le _, Nat.zero_le _⟩) hL (fun S3 T3 H locs h hw hL => ?_)
  exact W.vret hx hb hr (fun t ht _ => ⟨_, _, rfl, h, by rw [ht]; exact hw⟩) hL d_10_learnHere_29
set_option maxHeartbeats 4000000 in
set_option maxRecDepth 20000 in
theorem ct_10_learnHere {S : hm_S} {T : hm_T} {Q : hm_S → hm_T → Prop} (h : wp_10_learnHere S T Q) : hm_M l G H0 o 74 shX y_10_learnHere prog_1_method_30_code 1 (none) rm_10_learnHere S T [.ref (o + 0)] (hm_Qv G H0 o 74 shX Q) := by
  refine Met.ofW (cc := prog_1_method_30_code) (maxL := 1) (ret := none) (by decide) rfl ?_
  intro p e s m args below meth c s₁ B hml hv
  obtain ⟨rfl, hK, hw⟩ := hv
  have cx : hm_cx G p s m _ c prog_1_method_30_code 1 "HeapGames" := ⟨⟨B.exec, B.bytes, hml, findClass_of_methodNamed B.named, fun w hq => atoms_spec (ws := hm_ws y_10_learnHere prog_1_method_30_code 1 (none)) B.pre w (List.mem_cons_of_mem _ hq)⟩, hK⟩
  have hl := lv_entry ([.ref (o + 0)]) (n := 1) (Nat.le_of_ble_eq_true rfl)
  rw [lg_entry_eq]
  generalize (lg_sl ([.ref (o + 0)]) ++ List.replicate (1 - (lg_sl ([.ref (o + 0)])).length) Slot.unset).toArray = ls at hl ⊢
  have hl : lv_has ls 1 [(0, .ref (o + 0))] := hl
  exact bk_10_learnHere_0 cx B.returns B.notSynchronized h hw (hm_L0 _ _) hl
/-! ===== HeapGames.propertyOfMove(II)I ===== -/
theorem d_10_propertyOfMove_0 : decode prog_1_method_21_code 0 = .ok (.iload_n 2, 1) := by decide +kernel
theorem d_10_propertyOfMove_1 : decode prog_1_method_21_code 1 = .ok (.tableswitch 115 0 5 #[39, 51, 63, 75, 87, 99], 39) := by decide +kernel
theorem d_10_propertyOfMove_40 : decode prog_1_method_21_code 40 = .ok (.aload_n 0, 1) := by decide +kernel
theorem d_10_propertyOfMove_41 : decode prog_1_method_21_code 41 = .ok (.getfield 28, 3) := by decide +kernel
theorem d_10_propertyOfMove_44 : decode prog_1_method_21_code 44 = .ok (.getfield 196, 3) := by decide +kernel
theorem d_10_propertyOfMove_47 : decode prog_1_method_21_code 47 = .ok (.iload_n 1, 1) := by decide +kernel
theorem d_10_propertyOfMove_48 : decode prog_1_method_21_code 48 = .ok (.invokevirtual 200, 3) := by decide +kernel
theorem d_10_propertyOfMove_51 : decode prog_1_method_21_code 51 = .ok (.ireturn, 1) := by decide +kernel
theorem d_10_propertyOfMove_52 : decode prog_1_method_21_code 52 = .ok (.aload_n 0, 1) := by decide +kernel
theorem d_10_propertyOfMove_53 : decode prog_1_method_21_code 53 = .ok (.getfield 28, 3) := by decide +kernel
theorem d_10_propertyOfMove_56 : decode prog_1_method_21_code 56 = .ok (.getfield 205, 3) := by decide +kernel
theorem d_10_propertyOfMove_59 : decode prog_1_method_21_code 59 = .ok (.iload_n 1, 1) := by decide +kernel
theorem d_10_propertyOfMove_60 : decode prog_1_method_21_code 60 = .ok (.invokevirtual 200, 3) := by decide +kernel
theorem d_10_propertyOfMove_63 : decode prog_1_method_21_code 63 = .ok (.ireturn, 1) := by decide +kernel
theorem d_10_propertyOfMove_64 : decode prog_1_method_21_code 64 = .ok (.aload_n 0, 1) := by decide +kernel
theorem d_10_propertyOfMove_65 : decode prog_1_method_21_code 65 = .ok (.getfield 28, 3) := by decide +kernel
theorem d_10_propertyOfMove_68 : decode prog_1_method_21_code 68 = .ok (.getfield 208, 3) := by decide +kernel
theorem d_10_propertyOfMove_71 : decode prog_1_method_21_code 71 = .ok (.iload_n 1, 1) := by decide +kernel
theorem d_10_propertyOfMove_72 : decode prog_1_method_21_code 72 = .ok (.invokevirtual 200, 3) := by decide +kernel
theorem d_10_propertyOfMove_75 : decode prog_1_method_21_code 75 = .ok (.ireturn, 1) := by decide +kernel
theorem d_10_propertyOfMove_76 : decode prog_1_method_21_code 76 = .ok (.aload_n 0, 1) := by decide +kernel
theorem d_10_propertyOfMove_77 : decode prog_1_method_21_code 77 = .ok (.getfield 28, 3) := by decide +kernel
theorem d_10_propertyOfMove_80 : decode prog_1_method_21_code 80 = .ok (.getfield 211, 3) := by decide +kernel
theorem d_10_propertyOfMove_83 : decode prog_1_method_21_code 83 = .ok (.iload_n 1, 1) := by decide +kernel
theorem d_10_propertyOfMove_84 : decode prog_1_method_21_code 84 = .ok (.invokevirtual 200, 3) := by decide +kernel
theorem d_10_propertyOfMove_87 : decode prog_1_method_21_code 87 = .ok (.ireturn, 1) := by decide +kernel
theorem d_10_propertyOfMove_88 : decode prog_1_method_21_code 88 = .ok (.aload_n 0, 1) := by decide +kernel
theorem d_10_propertyOfMove_89 : decode prog_1_method_21_code 89 = .ok (.getfield 28, 3) := by decide +kernel
theorem d_10_propertyOfMove_92 : decode prog_1_method_21_code 92 = .ok (.getfield 214, 3) := by decide +kernel
theorem d_10_propertyOfMove_95 : decode prog_1_method_21_code 95 = .ok (.iload_n 1, 1) := by decide +kernel
theorem d_10_propertyOfMove_96 : decode prog_1_method_21_code 96 = .ok (.invokevirtual 200, 3) := by decide +kernel
theorem d_10_propertyOfMove_99 : decode prog_1_method_21_code 99 = .ok (.ireturn, 1) := by decide +kernel
theorem d_10_propertyOfMove_100 : decode prog_1_method_21_code 100 = .ok (.aload_n 0, 1) := by decide +kernel
theorem d_10_propertyOfMove_101 : decode prog_1_method_21_code 101 = .ok (.getfield 37, 3) := by decide +kernel
theorem d_10_propertyOfMove_104 : decode prog_1_method_21_code 104 = .ok (.aload_n 0, 1) := by decide +kernel
theorem d_10_propertyOfMove_105 : decode prog_1_method_21_code 105 = .ok (.getfield 28, 3) := by decide +kernel
theorem d_10_propertyOfMove_108 : decode prog_1_method_21_code 108 = .ok (.iload_n 1, 1) := by decide +kernel
theorem d_10_propertyOfMove_109 : decode prog_1_method_21_code 109 = .ok (.invokevirtual 193, 3) := by decide +kernel
theorem d_10_propertyOfMove_112 : decode prog_1_method_21_code 112 = .ok (.invokevirtual 217, 3) := by decide +kernel
theorem d_10_propertyOfMove_115 : decode prog_1_method_21_code 115 = .ok (.ireturn, 1) := by decide +kernel
theorem d_10_propertyOfMove_116 : decode prog_1_method_21_code 116 = .ok (.aload_n 0, 1) := by decide +kernel
theorem d_10_propertyOfMove_117 : decode prog_1_method_21_code 117 = .ok (.getfield 37, 3) := by decide +kernel
theorem d_10_propertyOfMove_120 : decode prog_1_method_21_code 120 = .ok (.aload_n 0, 1) := by decide +kernel
theorem d_10_propertyOfMove_121 : decode prog_1_method_21_code 121 = .ok (.getfield 28, 3) := by decide +kernel
theorem d_10_propertyOfMove_124 : decode prog_1_method_21_code 124 = .ok (.iload_n 1, 1) := by decide +kernel
theorem d_10_propertyOfMove_125 : decode prog_1_method_21_code 125 = .ok (.invokevirtual 193, 3) := by decide +kernel
theorem d_10_propertyOfMove_128 : decode prog_1_method_21_code 128 = .ok (.invokevirtual 220, 3) := by decide +kernel
theorem d_10_propertyOfMove_131 : decode prog_1_method_21_code 131 = .ok (.ireturn, 1) := by decide +kernel
def wp_10_propertyOfMove (x1 : Int32) (x2 : Int32) (S : hm_S) (T : hm_T) (Q : Int32 → hm_S → hm_T → Prop) : Prop :=
  (if x2 = 0 then wp_5_get 20 31 x1 S T (fun r1 S1 T1 => Q r1 S1 T1) else (if x2 = 1 then wp_5_get 22 31 x1 S T (fun r2 S2 T2 => Q r2 S2 T2) else (if x2 = 2 then wp_5_get 24 31 x1 S T (fun r3 S3 T3 => Q r3 S3 T3) else (if x2 = 3 then wp_5_get 26 31 x1 S T (fun r4 S4 T4 => Q r4 S4 T4) else (if x2 = 4 then wp_5_get 28 31 x1 S T (fun r5 S5 T5 => Q r5 S5 T5) else (if x2 = 5 then wp_3_targetOf x1 S T (fun r6 S6 T6 => wp_8_outcomeOf r6 S6 T6 (fun r7 S7 T7 => Q r7 S7 T7)) else wp_3_targetOf x1 S T (fun r8 S8 T8 => wp_8_distanceOf r8 S8 T8 (fun r9 S9 T9 => Q r9 S9 T9))))))))
set_option maxHeartbeats 4000000 in
set_option maxRecDepth 20000 in
theorem bk_10_propertyOfMove_0 {Q : Int32 → hm_S → hm_T → Prop} (cx : hm_cx G p s m args c prog_1_method_21_code 3 "HeapGames") (hr : meth.sig.returnType = some .int) (hlk : meth.locks = false) {x1 : Int32} {x2 : Int32} {S : hm_S} {T : hm_T} {H : Heap} {locs : List Loc} {ls : Array Slot} (h : wp_10_propertyOfMove x1 x2 S T Q) (hw : hm_w G H0 o 74 shX S T H) (hL : hm_L o 74 locs) (hl : lv_has ls 3 [(0, .ref (o + 0)), (1, .int x1), (2, .int x2)]) : W p l e rm_10_propertyOfMove s m args below meth c H locs 0 0 (MQ below (hm_Qi G H0 o 74 shX Q) args s 0 0 (t_fr o (o + 74))) (F0 m 0 ls []) := by
  have hx := cx.1.1
  have hb := cx.1.2.1
  unfold wp_10_propertyOfMove at h
  refine lv_iload_n hx hb d_10_propertyOfMove_0 rfl (lv_at hl 2 rfl) ?_
  refine hm_cs (x := x2) (v := 0) (fun hc => ?_) (fun hc0 => ?_)
  · replace h := hm_pos hc h
    refine lv_tableIn (tgt := 40) (off := 39) hx hb d_10_propertyOfMove_1 (by rw [hc]; decide) (by rw [hc]; decide) (by rw [hc]; rfl) (by decide) ?_
    refine lv_aload_n hx hb d_10_propertyOfMove_40 rfl (lv_at hl 0 rfl) ?_
    refine gf_10_28 cx hw (i := 0) (r := 19) (by decide) sx_0 rfl d_10_propertyOfMove_41 ?_
    refine gf_10_196 cx hw (i := 19) (r := 20) (by decide) sx_19 rfl d_10_propertyOfMove_44 ?_
    refine lv_iload_n hx hb d_10_propertyOfMove_47 rfl (lv_at hl 1 rfl) ?_
    refine hm_calli (hm_rV (i := 20) (As := [.int x1]) (rest := []) cx hw (ct_5_get (by decide) sx_20 sx_21 h) (mw_10_200 cx.1.2.2.2.2 ⟨Nat.le_of_ble_eq_true rfl, Nat.le_of_ble_eq_true rfl⟩) (by decide) sx_20 rfl rfl hl.1 rfl (Nat.le_of_ble_eq_true rfl) d_10_propertyOfMove_48 ⟨Nat.zero_le _, Nat.zero_le _⟩) hL (fun r1 S1 T1 H locs h hw hL => ?_)
    exact W.iret hx hb hr (fun t ht _ => ⟨_, _, _, rfl, h, by rw [ht]; exact hw⟩) hL d_10_propertyOfMove_51
  replace h := hm_neg hc0 h
  refine hm_cs (x := x2) (v := 1) (fun hc => ?_) (fun hc1 => ?_)
  · replace h := hm_pos hc h
    refine lv_tableIn (tgt := 52) (off := 51) hx hb d_10_propertyOfMove_1 (by rw [hc]; decide) (by rw [hc]; decide) (by rw [hc]; rfl) (by decide) ?_
    refine lv_aload_n hx hb d_10_propertyOfMove_52 rfl (lv_at hl 0 rfl) ?_
    refine gf_10_28 cx hw (i := 0) (r := 19) (by decide) sx_0 rfl d_10_propertyOfMove_53 ?_
    refine gf_10_205 cx hw (i := 19) (r := 22) (by decide) sx_19 rfl d_10_propertyOfMove_56 ?_
    refine lv_iload_n hx hb d_10_propertyOfMove_59 rfl (lv_at hl 1 rfl) ?_
    refine hm_calli (hm_rV (i := 22) (As := [.int x1]) (rest := []) cx hw (ct_5_get (by decide) sx_22 sx_23 h) (mw_10_200 cx.1.2.2.2.2 ⟨Nat.le_of_ble_eq_true rfl, Nat.le_of_ble_eq_true rfl⟩) (by decide) sx_22 rfl rfl hl.1 rfl (Nat.le_of_ble_eq_true rfl) d_10_propertyOfMove_60 ⟨Nat.zero_le _, Nat.zero_le _⟩) hL (fun r2 S2 T2 H locs h hw hL => ?_)
    exact W.iret hx hb hr (fun t ht _ => ⟨_, _, _, rfl, h, by rw [ht]; exact hw⟩) hL d_10_propertyOfMove_63
  replace h := hm_neg hc1 h
  refine hm_cs (x := x2) (v := 2) (fun hc => ?_) (fun hc2 => ?_)
  · replace h := hm_pos hc h
    refine lv_tableIn (tgt := 64) (off := 63) hx hb d_10_propertyOfMove_1 (by rw [hc]; decide) (by rw [hc]; decide) (by rw [hc]; rfl) (by decide) ?_
    refine lv_aload_n hx hb d_10_propertyOfMove_64 rfl (lv_at hl 0 rfl) ?_
    refine gf_10_28 cx hw (i := 0) (r := 19) (by decide) sx_0 rfl d_10_propertyOfMove_65 ?_
    refine gf_10_208 cx hw (i := 19) (r := 24) (by decide) sx_19 rfl d_10_propertyOfMove_68 ?_
    refine lv_iload_n hx hb d_10_propertyOfMove_71 rfl (lv_at hl 1 rfl) ?_
    refine hm_calli (hm_rV (i := 24) (As := [.int x1]) (rest := []) cx hw (ct_5_get (by decide) sx_24 sx_25 h) (mw_10_200 cx.1.2.2.2.2 ⟨Nat.le_of_ble_eq_true rfl, Nat.le_of_ble_eq_true rfl⟩) (by decide) sx_24 rfl rfl hl.1 rfl (Nat.le_of_ble_eq_true rfl) d_10_propertyOfMove_72 ⟨Nat.zero_le _, Nat.zero_le _⟩) hL (fun r3 S3 T3 H locs h hw hL => ?_)
    exact W.iret hx hb hr (fun t ht _ => ⟨_, _, _, rfl, h, by rw [ht]; exact hw⟩) hL d_10_propertyOfMove_75
  replace h := hm_neg hc2 h
  refine hm_cs (x := x2) (v := 3) (fun hc => ?_) (fun hc3 => ?_)
  · replace h := hm_pos hc h
    refine lv_tableIn (tgt := 76) (off := 75) hx hb d_10_propertyOfMove_1 (by rw [hc]; decide) (by rw [hc]; decide) (by rw [hc]; rfl) (by decide) ?_
    refine lv_aload_n hx hb d_10_propertyOfMove_76 rfl (lv_at hl 0 rfl) ?_
    refine gf_10_28 cx hw (i := 0) (r := 19) (by decide) sx_0 rfl d_10_propertyOfMove_77 ?_
    refine gf_10_211 cx hw (i := 19) (r := 26) (by decide) sx_19 rfl d_10_propertyOfMove_80 ?_
    refine lv_iload_n hx hb d_10_propertyOfMove_83 rfl (lv_at hl 1 rfl) ?_
    refine hm_calli (hm_rV (i := 26) (As := [.int x1]) (rest := []) cx hw (ct_5_get (by decide) sx_26 sx_27 h) (mw_10_200 cx.1.2.2.2.2 ⟨Nat.le_of_ble_eq_true rfl, Nat.le_of_ble_eq_true rfl⟩) (by decide) sx_26 rfl rfl hl.1 rfl (Nat.le_of_ble_eq_true rfl) d_10_propertyOfMove_84 ⟨Nat.zero_le _, Nat.zero_le _⟩) hL (fun r4 S4 T4 H locs h hw hL => ?_)
    exact W.iret hx hb hr (fun t ht _ => ⟨_, _, _, rfl, h, by rw [ht]; exact hw⟩) hL d_10_propertyOfMove_87
  replace h := hm_neg hc3 h
  refine hm_cs (x := x2) (v := 4) (fun hc => ?_) (fun hc4 => ?_)
  · replace h := hm_pos hc h
    refine lv_tableIn (tgt := 88) (off := 87) hx hb d_10_propertyOfMove_1 (by rw [hc]; decide) (by rw [hc]; decide) (by rw [hc]; rfl) (by decide) ?_
    refine lv_aload_n hx hb d_10_propertyOfMove_88 rfl (lv_at hl 0 rfl) ?_
    refine gf_10_28 cx hw (i := 0) (r := 19) (by decide) sx_0 rfl d_10_propertyOfMove_89 ?_
    refine gf_10_214 cx hw (i := 19) (r := 28) (by decide) sx_19 rfl d_10_propertyOfMove_92 ?_
    refine lv_iload_n hx hb d_10_propertyOfMove_95 rfl (lv_at hl 1 rfl) ?_
    refine hm_calli (hm_rV (i := 28) (As := [.int x1]) (rest := []) cx hw (ct_5_get (by decide) sx_28 sx_29 h) (mw_10_200 cx.1.2.2.2.2 ⟨Nat.le_of_ble_eq_true rfl, Nat.le_of_ble_eq_true rfl⟩) (by decide) sx_28 rfl rfl hl.1 rfl (Nat.le_of_ble_eq_true rfl) d_10_propertyOfMove_96 ⟨Nat.zero_le _, Nat.zero_le _⟩) hL (fun r5 S5 T5 H locs h hw hL => ?_)
    exact W.iret hx hb hr (fun t ht _ => ⟨_, _, _, rfl, h, by rw [ht]; exact hw⟩) hL d_10_propertyOfMove_99
  replace h := hm_neg hc4 h
  refine hm_cs (x := x2) (v := 5) (fun hc => ?_) (fun hc5 => ?_)
  · replace h := hm_pos hc h
    refine lv_tableIn (tgt := 100) (off := 99) hx hb d_10_propertyOfMove_1 (by rw [hc]; decide) (by rw [hc]; decide) (by rw [hc]; rfl) (by decide) ?_
    refine lv_aload_n hx hb d_10_propertyOfMove_100 rfl (lv_at hl 0 rfl) ?_
    refine gf_10_37 cx hw (i := 0) (r := 36) (by decide) sx_0 rfl d_10_propertyOfMove_101 ?_
    refine lv_aload_n hx hb d_10_propertyOfMove_104 rfl (lv_at hl 0 rfl) ?_
    refine gf_10_28 cx hw (i := 0) (r := 19) (by decide) sx_0 rfl d_10_propertyOfMove_105 ?_
    refine lv_iload_n hx hb d_10_propertyOfMove_108 rfl (lv_at hl 1 rfl) ?_
    refine hm_calli (hm_rV (i := 19) (As := [.int x1]) (rest := [.ref (o + 36)]) cx hw (ct_3_targetOf h) (mw_10_193 cx.1.2.2.2.2 ⟨Nat.le_of_ble_eq_true rfl, Nat.le_of_ble_eq_true rfl⟩) (by decide) sx_19 rfl rfl hl.1 rfl (Nat.le_of_ble_eq_true rfl) d_10_propertyOfMove_109 ⟨Nat.zero_le _, Nat.zero_le _⟩) hL (fun r6 S6 T6 H locs h hw hL => ?_)
    refine hm_calli (hm_rV (i := 36) (As := [.int r6]) (rest := []) cx hw (ct_8_outcomeOf h) (mw_10_217 cx.1.2.2.2.2 ⟨Nat.le_of_ble_eq_true rfl, Nat.le_of_ble_eq_true rfl⟩) (by decide) sx_36 rfl rfl hl.1 rfl (Nat.le_of_ble_eq_true rfl) d_10_propertyOfMove_112 ⟨Nat.zero_le _, Nat.zero_le _⟩) hL (fun r7 S7 T7 H locs h hw hL => ?_)
    exact W.iret hx hb hr (fun t ht _ => ⟨_, _, _, rfl, h, by rw [ht]; exact hw⟩) hL d_10_propertyOfMove_115
  replace h := hm_neg hc5 h
  refine lv_tableOut (tgt := 116) hx hb d_10_propertyOfMove_1 (hm_out0_5 hc0 hc1 hc2 hc3 hc4 hc5) (by decide) ?_
  refine lv_aload_n hx hb d_10_propertyOfMove_116 rfl (lv_at hl 0 rfl) ?_
  refine gf_10_37 cx hw (i := 0) (r := 36) (by decide) sx_0 rfl d_10_propertyOfMove_117 ?_
  refine lv_aload_n hx hb d_10_propertyOfMove_120 rfl (lv_at hl 0 rfl) ?_
  refine gf_10_28 cx hw (i := 0) (r := 19) (by decide) sx_0 rfl d_10_propertyOfMove_121 ?_
  refine lv_iload_n hx hb d_10_propertyOfMove_124 rfl (lv_at hl 1 rfl) ?_
  refine hm_calli (hm_rV (i := 19) (As := [.int x1]) (rest := [.ref (o + 36)]) cx hw (ct_3_targetOf h) (mw_10_193 cx.1.2.2.2.2 ⟨Nat.le_of_ble_eq_true rfl, Nat.le_of_ble_eq_true rfl⟩) (by decide) sx_19 rfl rfl hl.1 rfl (Nat.le_of_ble_eq_true rfl) d_10_propertyOfMove_125 ⟨Nat.zero_le _, Nat.zero_le _⟩) hL (fun r8 S8 T8 H locs h hw hL => ?_)
  refine hm_calli (hm_rV (i := 36) (As := [.int r8]) (rest := []) cx hw (ct_8_distanceOf h) (mw_10_220 cx.1.2.2.2.2 ⟨Nat.le_of_ble_eq_true rfl, Nat.le_of_ble_eq_true rfl⟩) (by decide) sx_36 rfl rfl hl.1 rfl (Nat.le_of_ble_eq_true rfl) d_10_propertyOfMove_128 ⟨Nat.zero_le _, Nat.zero_le _⟩) hL (fun r9 S9 T9 H locs h hw hL => ?_)
  exact W.iret hx hb hr (fun t ht _ => ⟨_, _, _, rfl, h, by rw [ht]; exact hw⟩) hL d_10_propertyOfMove_131
set_option maxHeartbeats 4000000 in
set_option maxRecDepth 20000 in
theorem ct_10_propertyOfMove {x1 : Int32} {x2 : Int32} {S : hm_S} {T : hm_T} {Q : Int32 → hm_S → hm_T → Prop} (h : wp_10_propertyOfMove x1 x2 S T Q) : hm_M l G H0 o 74 shX y_10_propertyOfMove prog_1_method_21_code 3 (some .int) rm_10_propertyOfMove S T [.ref (o + 0), .int x1, .int x2] (hm_Qi G H0 o 74 shX Q) := by
  refine Met.ofW (cc := prog_1_method_21_code) (maxL := 3) (ret := some .int) (by decide) rfl ?_
  intro p e s m args below meth c s₁ B hml hv
  obtain ⟨rfl, hK, hw⟩ := hv
  have cx : hm_cx G p s m _ c prog_1_method_21_code 3 "HeapGames" := ⟨⟨B.exec, B.bytes, hml, findClass_of_methodNamed B.named, fun w hq => atoms_spec (ws := hm_ws y_10_propertyOfMove prog_1_method_21_code 3 (some .int)) B.pre w (List.mem_cons_of_mem _ hq)⟩, hK⟩
  have hl := lv_entry ([.ref (o + 0), .int x1, .int x2]) (n := 3) (Nat.le_of_ble_eq_true rfl)
  rw [lg_entry_eq]
  generalize (lg_sl ([.ref (o + 0), .int x1, .int x2]) ++ List.replicate (3 - (lg_sl ([.ref (o + 0), .int x1, .int x2])).length) Slot.unset).toArray = ls at hl ⊢
  have hl : lv_has ls 3 [(0, .ref (o + 0)), (1, .int x1), (2, .int x2)] := hl
  exact bk_10_propertyOfMove_0 cx B.returns B.notSynchronized h hw (hm_L0 _ _) hl
/-! ===== HeapGames.move(II)I ===== -/
theorem d_10_move_0 : decode prog_1_method_19_code 0 = .ok (.aload_n 0, 1) := by decide +kernel
theorem d_10_move_1 : decode prog_1_method_19_code 1 = .ok (.getfield 28, 3) := by decide +kernel
theorem d_10_move_4 : decode prog_1_method_19_code 4 = .ok (.aload_n 0, 1) := by decide +kernel
theorem d_10_move_5 : decode prog_1_method_19_code 5 = .ok (.getfield 80, 3) := by decide +kernel
theorem d_10_move_8 : decode prog_1_method_19_code 8 = .ok (.invokevirtual 181, 3) := by decide +kernel
theorem d_10_move_11 : decode prog_1_method_19_code 11 = .ok (.iload_n 1, 1) := by decide +kernel
theorem d_10_move_12 : decode prog_1_method_19_code 12 = .ok (.ifCond .lt 24, 3) := by decide +kernel
theorem d_10_move_15 : decode prog_1_method_19_code 15 = .ok (.iload_n 1, 1) := by decide +kernel
theorem d_10_move_16 : decode prog_1_method_19_code 16 = .ok (.aload_n 0, 1) := by decide +kernel
theorem d_10_move_17 : decode prog_1_method_19_code 17 = .ok (.getfield 28, 3) := by decide +kernel
theorem d_10_move_20 : decode prog_1_method_19_code 20 = .ok (.getfield 184, 3) := by decide +kernel
theorem d_10_move_23 : decode prog_1_method_19_code 23 = .ok (.if_icmp .ge 13, 3) := by decide +kernel
theorem d_10_move_26 : decode prog_1_method_19_code 26 = .ok (.iload_n 2, 1) := by decide +kernel
theorem d_10_move_27 : decode prog_1_method_19_code 27 = .ok (.ifCond .lt 9, 3) := by decide +kernel
theorem d_10_move_30 : decode prog_1_method_19_code 30 = .ok (.iload_n 2, 1) := by decide +kernel
theorem d_10_move_31 : decode prog_1_method_19_code 31 = .ok (.bipush 6, 2) := by decide +kernel
theorem d_10_move_33 : decode prog_1_method_19_code 33 = .ok (.if_icmp .le 6, 3) := by decide +kernel
theorem d_10_move_36 : decode prog_1_method_19_code 36 = .ok (.bipush (-2), 2) := by decide +kernel
theorem d_10_move_38 : decode prog_1_method_19_code 38 = .ok (.ireturn, 1) := by decide +kernel
theorem d_10_move_39 : decode prog_1_method_19_code 39 = .ok (.iload_n 2, 1) := by decide +kernel
theorem d_10_move_40 : decode prog_1_method_19_code 40 = .ok (.iconst 5, 1) := by decide +kernel
theorem d_10_move_41 : decode prog_1_method_19_code 41 = .ok (.if_icmp .lt 7, 3) := by decide +kernel
theorem d_10_move_44 : decode prog_1_method_19_code 44 = .ok (.aload_n 0, 1) := by decide +kernel
theorem d_10_move_45 : decode prog_1_method_19_code 45 = .ok (.invokevirtual 187, 3) := by decide +kernel
theorem d_10_move_48 : decode prog_1_method_19_code 48 = .ok (.aload_n 0, 1) := by decide +kernel
theorem d_10_move_49 : decode prog_1_method_19_code 49 = .ok (.iload_n 1, 1) := by decide +kernel
theorem d_10_move_50 : decode prog_1_method_19_code 50 = .ok (.iload_n 2, 1) := by decide +kernel
theorem d_10_move_51 : decode prog_1_method_19_code 51 = .ok (.invokevirtual 190, 3) := by decide +kernel
theorem d_10_move_54 : decode prog_1_method_19_code 54 = .ok (.ireturn, 1) := by decide +kernel
def wb_10_move_48 (Q : Int32 → hm_S → hm_T → Prop) (x1 : Int32) (x2 : Int32) (S : hm_S) (T : hm_T) : Prop :=
  wp_10_propertyOfMove x1 x2 S T (fun r2 S2 T2 => Q r2 S2 T2)
set_option maxHeartbeats 4000000 in
set_option maxRecDepth 20000 in
theorem bk_10_move_48 {Q : Int32 → hm_S → hm_T → Prop} (cx : hm_cx G p s m args c prog_1_method_19_code 3 "HeapGames") (hr : meth.sig.returnType = some .int) (hlk : meth.locks = false) {x1 : Int32} {x2 : Int32} {S : hm_S} {T : hm_T} {H : Heap} {locs : List Loc} {ls : Array Slot} (h : wb_10_move_48 Q x1 x2 S T) (hw : hm_w G H0 o 74 shX S T H) (hL : hm_L o 74 locs) (hl : lv_has ls 3 [(0, .ref (o + 0)), (1, .int x1), (2, .int x2)]) : W p l e rm_10_move s m args below meth c H locs 0 0 (MQ below (hm_Qi G H0 o 74 shX Q) args s 0 0 (t_fr o (o + 74))) (F0 m 48 ls []) := by
  have hx := cx.1.1
  have hb := cx.1.2.1
  unfold wb_10_move_48 at h
  refine lv_aload_n hx hb d_10_move_48 rfl (lv_at hl 0 rfl) ?_
  refine lv_iload_n hx hb d_10_move_49 rfl (lv_at hl 1 rfl) ?_
  refine lv_iload_n hx hb d_10_move_50 rfl (lv_at hl 2 rfl) ?_
  refine hm_calli (hm_rV (i := 0) (As := [.int x1, .int x2]) (rest := []) cx hw (ct_10_propertyOfMove h) (mw_10_190 cx.1.2.2.2.2 ⟨Nat.le_of_ble_eq_true rfl, Nat.le_of_ble_eq_true rfl⟩) (by decide) sx_0 rfl rfl hl.1 rfl (Nat.le_of_ble_eq_true rfl) d_10_move_51 ⟨Nat.zero_le _, Nat.zero_le _⟩) hL (fun r2 S2 T2 H locs h hw hL => ?_)
  exact W.iret hx hb hr (fun t ht _ => ⟨_, _, _, rfl, h, by rw [ht]; exact hw⟩) hL d_10_move_54
def wp_10_move (x1 : Int32) (x2 : Int32) (S : hm_S) (T : hm_T) (Q : Int32 → hm_S → hm_T → Prop) : Prop :=
  wp_3_list (S 0 9) S T (fun S1 T1 => (if x1 < 0 then Q (-2) S1 T1 else (if (S1 19 11) ≤ x1 then Q (-2) S1 T1 else (if x2 < 0 then Q (-2) S1 T1 else (if x2 ≤ 6 then (if x2 < 5 then wb_10_move_48 Q x1 x2 S1 T1 else wp_10_learnHere S1 T1 (fun S3 T3 => wb_10_move_48 Q x1 x2 S3 T3)) else Q (-2) S1 T1)))))
set_option maxHeartbeats 4000000 in
set_option maxRecDepth 20000 in
theorem bk_10_move_0 {Q : Int32 → hm_S → hm_T → Prop} (cx : hm_cx G p s m args c prog_1_method_19_code 3 "HeapGames") (hr : meth.sig.returnType = some .int) (hlk : meth.locks = false) {x1 : Int32} {x2 : Int32} {S : hm_S} {T : hm_T} {H : Heap} {locs : List Loc} {ls : Array Slot} (h : wp_10_move x1 x2 S T Q) (hw : hm_w G H0 o 74 shX S T H) (hL : hm_L o 74 locs) (hl : lv_has ls 3 [(0, .ref (o + 0)), (1, .int x1), (2, .int x2)]) : W p l e rm_10_move s m args below meth c H locs 0 0 (MQ below (hm_Qi G H0 o 74 shX Q) args s 0 0 (t_fr o (o + 74))) (F0 m 0 ls []) := by
  have hx := cx.1.1
  have hb := cx.1.2.1
  unfold wp_10_move at h
  refine lv_aload_n hx hb d_10_move_0 rfl (lv_at hl 0 rfl) ?_
  refine gf_10_28 cx hw (i := 0) (r := 19) (by decide) sx_0 rfl d_10_move_1 ?_
  refine lv_aload_n hx hb d_10_move_4 rfl (lv_at hl 0 rfl) ?_
  refine gf_10_80 cx hw (i := 0) (by decide) sx_0 rfl d_10_move_5 ?_
  refine hm_callv (hm_rV (i := 19) (As := [.int (S 0 9)]) (rest := []) cx hw (ct_3_list h) (mw_10_181 cx.1.2.2.2.2 ⟨Nat.le_of_ble_eq_true rfl, Nat.le_of_ble_eq_true rfl⟩) (by decide) sx_19 rfl rfl hl.1 rfl (Nat.le_of_ble_eq_true rfl) d_10_move_8 ⟨Nat.zero_le _, Nat.zero_le _⟩) hL (fun S1 T1 H locs h hw hL => ?_)
  refine lv_iload_n hx hb d_10_move_11 rfl (lv_at hl 1 rfl) ?_
  refine lv_if_lt (tgt := 36) hx hb d_10_move_12 (by decide) (fun hc => ?_) (fun hc => ?_)
  · replace h := hm_pos hc h
    refine lv_bipush (v := (-2)) hx hb d_10_move_36 (by decide) ?_
    exact W.iret hx hb hr (fun t ht _ => ⟨_, _, _, rfl, h, by rw [ht]; exact hw⟩) hL d_10_move_38
  · replace h := hm_neg hc h
    refine lv_iload_n hx hb d_10_move_15 rfl (lv_at hl 1 rfl) ?_
    refine lv_aload_n hx hb d_10_move_16 rfl (lv_at hl 0 rfl) ?_
    refine gf_10_28 cx hw (i := 0) (r := 19) (by decide) sx_0 rfl d_10_move_17 ?_
    refine gf_10_184 cx hw (i := 19) (by decide) sx_19 rfl d_10_move_20 ?_
    refine lv_icmp_ge (tgt := 36) hx hb d_10_move_23 (by decide) (fun hc => ?_) (fun hc => ?_)
    · replace h := hm_pos hc h
      refine lv_bipush (v := (-2)) hx hb d_10_move_36 (by decide) ?_
      exact W.iret hx hb hr (fun t ht _ => ⟨_, _, _, rfl, h, by rw [ht]; exact hw⟩) hL d_10_move_38
    · replace h := hm_neg hc h
      refine lv_iload_n hx hb d_10_move_26 rfl (lv_at hl 2 rfl) ?_
      refine lv_if_lt (tgt := 36) hx hb d_10_move_27 (by decide) (fun hc => ?_) (fun hc => ?_)
      · replace h := hm_pos hc h
        refine lv_bipush (v := (-2)) hx hb d_10_move_36 (by decide) ?_
        exact W.iret hx hb hr (fun t ht _ => ⟨_, _, _, rfl, h, by rw [ht]; exact hw⟩) hL d_10_move_38
      · replace h := hm_neg hc h
        refine lv_iload_n hx hb d_10_move_30 rfl (lv_at hl 2 rfl) ?_
        refine lv_bipush (v := 6) hx hb d_10_move_31 (by decide) ?_
        refine lv_icmp_le (tgt := 39) hx hb d_10_move_33 (by decide) (fun hc => ?_) (fun hc => ?_)
        · replace h := hm_pos hc h
          refine lv_iload_n hx hb d_10_move_39 rfl (lv_at hl 2 rfl) ?_
          refine lv_iconst (v := 5) hx hb d_10_move_40 (by decide) ?_
          refine lv_icmp_lt (tgt := 48) hx hb d_10_move_41 (by decide) (fun hc => ?_) (fun hc => ?_)
          · replace h := hm_pos hc h
            exact bk_10_move_48 cx hr hlk h hw hL (lv_sub hl [0, 1, 2] rfl)
          · replace h := hm_neg hc h
            refine lv_aload_n hx hb d_10_move_44 rfl (lv_at hl 0 rfl) ?_
            refine hm_callv (hm_rV (i := 0) (As := []) (rest := []) cx hw (ct_10_learnHere h) (mw_10_187 cx.1.2.2.2.2 ⟨Nat.le_of_ble_eq_true rfl, Nat.le_of_ble_eq_true rfl⟩) (by decide) sx_0 rfl rfl hl.1 rfl (Nat.le_of_ble_eq_true rfl) d_10_move_45 ⟨Nat.zero_le _, Nat.zero_le _⟩) hL (fun S3 T3 H locs h hw hL => ?_)
            exact bk_10_move_48 cx hr hlk h hw hL (lv_sub hl [0, 1, 2] rfl)
        · replace h := hm_neg hc h
          refine lv_bipush (v := (-2)) hx hb d_10_move_36 (by decide) ?_
          exact W.iret hx hb hr (fun t ht _ => ⟨_, _, _, rfl, h, by rw [ht]; exact hw⟩) hL d_10_move_38
set_option maxHeartbeats 4000000 in
set_option maxRecDepth 20000 in
theorem ct_10_move {x1 : Int32} {x2 : Int32} {S : hm_S} {T : hm_T} {Q : Int32 → hm_S → hm_T → Prop} (h : wp_10_move x1 x2 S T Q) : hm_M l G H0 o 74 shX y_10_move prog_1_method_19_code 3 (some .int) rm_10_move S T [.ref (o + 0), .int x1, .int x2] (hm_Qi G H0 o 74 shX Q) := by
  refine Met.ofW (cc := prog_1_method_19_code) (maxL := 3) (ret := some .int) (by decide) rfl ?_
  intro p e s m args below meth c s₁ B hml hv
  obtain ⟨rfl, hK, hw⟩ := hv
  have cx : hm_cx G p s m _ c prog_1_method_19_code 3 "HeapGames" := ⟨⟨B.exec, B.bytes, hml, findClass_of_methodNamed B.named, fun w hq => atoms_spec (ws := hm_ws y_10_move prog_1_method_19_code 3 (some .int)) B.pre w (List.mem_cons_of_mem _ hq)⟩, hK⟩
  have hl := lv_entry ([.ref (o + 0), .int x1, .int x2]) (n := 3) (Nat.le_of_ble_eq_true rfl)
  rw [lg_entry_eq]
  generalize (lg_sl ([.ref (o + 0), .int x1, .int x2]) ++ List.replicate (3 - (lg_sl ([.ref (o + 0), .int x1, .int x2])).length) Slot.unset).toArray = ls at hl ⊢
  have hl : lv_has ls 3 [(0, .ref (o + 0)), (1, .int x1), (2, .int x2)] := hl
  exact bk_10_move_0 cx B.returns B.notSynchronized h hw (hm_L0 _ _) hl
/-! ===== HeapGames.play(I)I ===== -/
theorem d_10_play_0 : decode prog_1_method_20_code 0 = .ok (.aload_n 0, 1) := by decide +kernel
theorem d_10_play_1 : decode prog_1_method_20_code 1 = .ok (.getfield 28, 3) := by decide +kernel
theorem d_10_play_4 : decode prog_1_method_20_code 4 = .ok (.aload_n 0, 1) := by decide +kernel
theorem d_10_play_5 : decode prog_1_method_20_code 5 = .ok (.getfield 80, 3) := by decide +kernel
theorem d_10_play_8 : decode prog_1_method_20_code 8 = .ok (.invokevirtual 181, 3) := by decide +kernel
theorem d_10_play_11 : decode prog_1_method_20_code 11 = .ok (.iload_n 1, 1) := by decide +kernel
theorem d_10_play_12 : decode prog_1_method_20_code 12 = .ok (.ifCond .lt 14, 3) := by decide +kernel
theorem d_10_play_15 : decode prog_1_method_20_code 15 = .ok (.iload_n 1, 1) := by decide +kernel
theorem d_10_play_16 : decode prog_1_method_20_code 16 = .ok (.aload_n 0, 1) := by decide +kernel
theorem d_10_play_17 : decode prog_1_method_20_code 17 = .ok (.getfield 28, 3) := by decide +kernel
theorem d_10_play_20 : decode prog_1_method_20_code 20 = .ok (.getfield 184, 3) := by decide +kernel
theorem d_10_play_23 : decode prog_1_method_20_code 23 = .ok (.if_icmp .lt 6, 3) := by decide +kernel
theorem d_10_play_26 : decode prog_1_method_20_code 26 = .ok (.bipush (-2), 2) := by decide +kernel
theorem d_10_play_28 : decode prog_1_method_20_code 28 = .ok (.ireturn, 1) := by decide +kernel
theorem d_10_play_29 : decode prog_1_method_20_code 29 = .ok (.aload_n 0, 1) := by decide +kernel
theorem d_10_play_30 : decode prog_1_method_20_code 30 = .ok (.aload_n 0, 1) := by decide +kernel
theorem d_10_play_31 : decode prog_1_method_20_code 31 = .ok (.getfield 28, 3) := by decide +kernel
theorem d_10_play_34 : decode prog_1_method_20_code 34 = .ok (.iload_n 1, 1) := by decide +kernel
theorem d_10_play_35 : decode prog_1_method_20_code 35 = .ok (.invokevirtual 193, 3) := by decide +kernel
theorem d_10_play_38 : decode prog_1_method_20_code 38 = .ok (.invokevirtual 143, 3) := by decide +kernel
theorem d_10_play_41 : decode prog_1_method_20_code 41 = .ok (.aload_n 0, 1) := by decide +kernel
theorem d_10_play_42 : decode prog_1_method_20_code 42 = .ok (.getfield 24, 3) := by decide +kernel
theorem d_10_play_45 : decode prog_1_method_20_code 45 = .ok (.aload_n 0, 1) := by decide +kernel
theorem d_10_play_46 : decode prog_1_method_20_code 46 = .ok (.getfield 80, 3) := by decide +kernel
theorem d_10_play_49 : decode prog_1_method_20_code 49 = .ok (.invokestatic 124, 3) := by decide +kernel
theorem d_10_play_52 : decode prog_1_method_20_code 52 = .ok (.invokevirtual 127, 3) := by decide +kernel
theorem d_10_play_55 : decode prog_1_method_20_code 55 = .ok (.ireturn, 1) := by decide +kernel
def wp_10_play (x1 : Int32) (S : hm_S) (T : hm_T) (Q : Int32 → hm_S → hm_T → Prop) : Prop :=
  wp_3_list (S 0 9) S T (fun S1 T1 => (if x1 < 0 then Q (-2) S1 T1 else (if x1 < (S1 19 11) then wp_3_targetOf x1 S1 T1 (fun r2 S2 T2 => wp_10_goTo r2 S2 T2 (fun S3 T3 => wp_10_layoutOf (S3 0 9) S3 T3 (fun r4 S4 T4 => wp_2_countersOf r4 S4 T4 (fun r5 S5 T5 => Q r5 S5 T5)))) else Q (-2) S1 T1)))
set_option maxHeartbeats 4000000 in
set_option maxRecDepth 20000 in
theorem bk_10_play_0 {Q : Int32 → hm_S → hm_T → Prop} (cx : hm_cx G p s m args c prog_1_method_20_code 2 "HeapGames") (hr : meth.sig.returnType = some .int) (hlk : meth.locks = false) {x1 : Int32} {S : hm_S} {T : hm_T} {H : Heap} {locs : List Loc} {ls : Array Slot} (h : wp_10_play x1 S T Q) (hw : hm_w G H0 o 74 shX S T H) (hL : hm_L o 74 locs) (hl : lv_has ls 2 [(0, .ref (o + 0)), (1, .int x1)]) : W p l e rm_10_play s m args below meth c H locs 0 0 (MQ below (hm_Qi G H0 o 74 shX Q) args s 0 0 (t_fr o (o + 74))) (F0 m 0 ls []) := by
  have hx := cx.1.1
  have hb := cx.1.2.1
  unfold wp_10_play at h
  refine lv_aload_n hx hb d_10_play_0 rfl (lv_at hl 0 rfl) ?_
  refine gf_10_28 cx hw (i := 0) (r := 19) (by decide) sx_0 rfl d_10_play_1 ?_
  refine lv_aload_n hx hb d_10_play_4 rfl (lv_at hl 0 rfl) ?_
  refine gf_10_80 cx hw (i := 0) (by decide) sx_0 rfl d_10_play_5 ?_
  refine hm_callv (hm_rV (i := 19) (As := [.int (S 0 9)]) (rest := []) cx hw (ct_3_list h) (mw_10_181 cx.1.2.2.2.2 ⟨Nat.le_of_ble_eq_true rfl, Nat.le_of_ble_eq_true rfl⟩) (by decide) sx_19 rfl rfl hl.1 rfl (Nat.le_of_ble_eq_true rfl) d_10_play_8 ⟨Nat.zero_le _, Nat.zero_le _⟩) hL (fun S1 T1 H locs h hw hL => ?_)
  refine lv_iload_n hx hb d_10_play_11 rfl (lv_at hl 1 rfl) ?_
  refine lv_if_lt (tgt := 26) hx hb d_10_play_12 (by decide) (fun hc => ?_) (fun hc => ?_)
  · replace h := hm_pos hc h
    refine lv_bipush (v := (-2)) hx hb d_10_play_26 (by decide) ?_
    exact W.iret hx hb hr (fun t ht _ => ⟨_, _, _, rfl, h, by rw [ht]; exact hw⟩) hL d_10_play_28
  · replace h := hm_neg hc h
    refine lv_iload_n hx hb d_10_play_15 rfl (lv_at hl 1 rfl) ?_
    refine lv_aload_n hx hb d_10_play_16 rfl (lv_at hl 0 rfl) ?_
    refine gf_10_28 cx hw (i := 0) (r := 19) (by decide) sx_0 rfl d_10_play_17 ?_
    refine gf_10_184 cx hw (i := 19) (by decide) sx_19 rfl d_10_play_20 ?_
    refine lv_icmp_lt (tgt := 29) hx hb d_10_play_23 (by decide) (fun hc => ?_) (fun hc => ?_)
    · replace h := hm_pos hc h
      refine lv_aload_n hx hb d_10_play_29 rfl (lv_at hl 0 rfl) ?_
      refine lv_aload_n hx hb d_10_play_30 rfl (lv_at hl 0 rfl) ?_
      refine gf_10_28 cx hw (i := 0) (r := 19) (by decide) sx_0 rfl d_10_play_31 ?_
      refine lv_iload_n hx hb d_10_play_34 rfl (lv_at hl 1 rfl) ?_
      refine hm_calli (hm_rV (i := 19) (As := [.int x1]) (rest := [.ref (o + 0)]) cx hw (ct_3_targetOf h) (mw_10_193 cx.1.2.2.2.2 ⟨Nat.le_of_ble_eq_true rfl, Nat.le_of_ble_eq_true rfl⟩) (by decide) sx_19 rfl rfl hl.1 rfl (Nat.le_of_ble_eq_true rfl) d_10_play_35 ⟨Nat.zero_le _, Nat.zero_le _⟩) hL (fun r2 S2 T2 H locs h hw hL => ?_)
      refine hm_callv (hm_rV (i := 0) (As := [.int r2]) (rest := []) cx hw (ct_10_goTo h) (mw_10_143 cx.1.2.2.2.2 ⟨Nat.le_of_ble_eq_true rfl, Nat.le_of_ble_eq_true rfl⟩) (by decide) sx_0 rfl rfl hl.1 rfl (Nat.le_of_ble_eq_true rfl) d_10_play_38 ⟨Nat.zero_le _, Nat.zero_le _⟩) hL (fun S3 T3 H locs h hw hL => ?_)
      refine lv_aload_n hx hb d_10_play_41 rfl (lv_at hl 0 rfl) ?_
      refine gf_10_24 cx hw (i := 0) (r := 4) (by decide) sx_0 rfl d_10_play_42 ?_
      refine lv_aload_n hx hb d_10_play_45 rfl (lv_at hl 0 rfl) ?_
      refine gf_10_80 cx hw (i := 0) (by decide) sx_0 rfl d_10_play_46 ?_
      refine hm_calli (hm_rS (As := [.int (S3 0 9)]) (rest := [.ref (o + 4)]) cx hw (ct_10_layoutOf h) (mw_10_124 cx.1.2.2.2.2 ⟨Nat.le_of_ble_eq_true rfl, Nat.le_of_ble_eq_true rfl⟩) rfl hl.1 rfl (Nat.le_of_ble_eq_true rfl) d_10_play_49 ⟨Nat.zero_le _, Nat.zero_le _⟩) hL (fun r4 S4 T4 H locs h hw hL => ?_)
      refine hm_calli (hm_rV (i := 4) (As := [.int r4]) (rest := []) cx hw (ct_2_countersOf (by decide) (fun _ _ _ => rfl) h) (mw_10_127 cx.1.2.2.2.2 ⟨Nat.le_of_ble_eq_true rfl, Nat.le_of_ble_eq_true rfl⟩) (by decide) sx_4 rfl rfl hl.1 rfl (Nat.le_of_ble_eq_true rfl) d_10_play_52 ⟨Nat.zero_le _, Nat.zero_le _⟩) hL (fun r5 S5 T5 H locs h hw hL => ?_)
      exact W.iret hx hb hr (fun t ht _ => ⟨_, _, _, rfl, h, by rw [ht]; exact hw⟩) hL d_10_play_55
    · replace h := hm_neg hc h
      refine lv_bipush (v := (-2)) hx hb d_10_play_26 (by decide) ?_
      exact W.iret hx hb hr (fun t ht _ => ⟨_, _, _, rfl, h, by rw [ht]; exact hw⟩) hL d_10_play_28
set_option maxHeartbeats 4000000 in
set_option maxRecDepth 20000 in
theorem ct_10_play {x1 : Int32} {S : hm_S} {T : hm_T} {Q : Int32 → hm_S → hm_T → Prop} (h : wp_10_play x1 S T Q) : hm_M l G H0 o 74 shX y_10_play prog_1_method_20_code 2 (some .int) rm_10_play S T [.ref (o + 0), .int x1] (hm_Qi G H0 o 74 shX Q) := by
  refine Met.ofW (cc := prog_1_method_20_code) (maxL := 2) (ret := some .int) (by decide) rfl ?_
  intro p e s m args below meth c s₁ B hml hv
  obtain ⟨rfl, hK, hw⟩ := hv
  have cx : hm_cx G p s m _ c prog_1_method_20_code 2 "HeapGames" := ⟨⟨B.exec, B.bytes, hml, findClass_of_methodNamed B.named, fun w hq => atoms_spec (ws := hm_ws y_10_play prog_1_method_20_code 2 (some .int)) B.pre w (List.mem_cons_of_mem _ hq)⟩, hK⟩
  have hl := lv_entry ([.ref (o + 0), .int x1]) (n := 2) (Nat.le_of_ble_eq_true rfl)
  rw [lg_entry_eq]
  generalize (lg_sl ([.ref (o + 0), .int x1]) ++ List.replicate (2 - (lg_sl ([.ref (o + 0), .int x1])).length) Slot.unset).toArray = ls at hl ⊢
  have hl : lv_has ls 2 [(0, .ref (o + 0)), (1, .int x1)] := hl
  exact bk_10_play_0 cx B.returns B.notSynchronized h hw (hm_L0 _ _) hl
/-! ===== HeapGames.learn(I)V ===== -/
theorem d_10_learn_0 : decode prog_1_method_29_code 0 = .ok (.aload_n 0, 1) := by decide +kernel
theorem d_10_learn_1 : decode prog_1_method_29_code 1 = .ok (.getfield 37, 3) := by decide +kernel
theorem d_10_learn_4 : decode prog_1_method_29_code 4 = .ok (.iload_n 1, 1) := by decide +kernel
theorem d_10_learn_5 : decode prog_1_method_29_code 5 = .ok (.invokevirtual 236, 3) := by decide +kernel
theorem d_10_learn_8 : decode prog_1_method_29_code 8 = .ok (.aload_n 0, 1) := by decide +kernel
theorem d_10_learn_9 : decode prog_1_method_29_code 9 = .ok (.getfield 37, 3) := by decide +kernel
theorem d_10_learn_12 : decode prog_1_method_29_code 12 = .ok (.invokevirtual 239, 3) := by decide +kernel
theorem d_10_learn_15 : decode prog_1_method_29_code 15 = .ok (.return_, 1) := by decide +kernel
def wp_10_learn (x1 : Int32) (S : hm_S) (T : hm_T) (Q : hm_S → hm_T → Prop) : Prop :=
  wp_8_explore x1 S T (fun S1 T1 => wp_8_solve S1 T1 (fun S2 T2 => Q S2 T2))
set_option maxHeartbeats 4000000 in
set_option maxRecDepth 20000 in
theorem bk_10_learn_0 {Q : hm_S → hm_T → Prop} (cx : hm_cx G p s m args c prog_1_method_29_code 2 "HeapGames") (hr : meth.sig.returnType = none) (hlk : meth.locks = false) {x1 : Int32} {S : hm_S} {T : hm_T} {H : Heap} {locs : List Loc} {ls : Array Slot} (h : wp_10_learn x1 S T Q) (hw : hm_w G H0 o 74 shX S T H) (hL : hm_L o 74 locs) (hl : lv_has ls 2 [(0, .ref (o + 0)), (1, .int x1)]) : W p l e rm_10_learn s m args below meth c H locs 0 0 (MQ below (hm_Qv G H0 o 74 shX Q) args s 0 0 (t_fr o (o + 74))) (F0 m 0 ls []) := by
  have hx := cx.1.1
  have hb := cx.1.2.1
  unfold wp_10_learn at h
  refine lv_aload_n hx hb d_10_learn_0 rfl (lv_at hl 0 rfl) ?_
  refine gf_10_37 cx hw (i := 0) (r := 36) (by decide) sx_0 rfl d_10_learn_1 ?_
  refine lv_iload_n hx hb d_10_learn_4 rfl (lv_at hl 1 rfl) ?_
  refine hm_callv (hm_rV (i := 36) (As := [.int x1]) (rest := []) cx hw (ct_8_explore h) (mw_10_236 cx.1.2.2.2.2 ⟨Nat.le_of_ble_eq_true rfl, Nat.le_of_ble_eq_true rfl⟩) (by decide) sx_36 rfl rfl hl.1 rfl (Nat.le_of_ble_eq_true rfl) d_10_learn_5 ⟨Nat.zero_le _, Nat.zero_le _⟩) hL (fun S1 T1 H locs h hw hL => ?_)
  refine lv_aload_n hx hb d_10_learn_8 rfl (lv_at hl 0 rfl) ?_
  refine gf_10_37 cx hw (i := 0) (r := 36) (by decide) sx_0 rfl d_10_learn_9 ?_
  refine hm_callv (hm_rV (i := 36) (As := []) (rest := []) cx hw (ct_8_solve h) (mw_10_239 cx.1.2.2.2.2 ⟨Nat.le_of_ble_eq_true rfl, Nat.le_of_ble_eq_true rfl⟩) (by decide) sx_36 rfl rfl hl.1 rfl (Nat.le_of_ble_eq_true rfl) d_10_learn_12 ⟨Nat.zero_le _, Nat.zero_le _⟩) hL (fun S2 T2 H locs h hw hL => ?_)
  exact W.vret hx hb hr (fun t ht _ => ⟨_, _, rfl, h, by rw [ht]; exact hw⟩) hL d_10_learn_15
set_option maxHeartbeats 4000000 in
set_option maxRecDepth 20000 in
theorem ct_10_learn {x1 : Int32} {S : hm_S} {T : hm_T} {Q : hm_S → hm_T → Prop} (h : wp_10_learn x1 S T Q) : hm_M l G H0 o 74 shX y_10_learn prog_1_method_29_code 2 (none) rm_10_learn S T [.ref (o + 0), .int x1] (hm_Qv G H0 o 74 shX Q) := by
  refine Met.ofW (cc := prog_1_method_29_code) (maxL := 2) (ret := none) (by decide) rfl ?_
  intro p e s m args below meth c s₁ B hml hv
  obtain ⟨rfl, hK, hw⟩ := hv
  have cx : hm_cx G p s m _ c prog_1_method_29_code 2 "HeapGames" := ⟨⟨B.exec, B.bytes, hml, findClass_of_methodNamed B.named, fun w hq => atoms_spec (ws := hm_ws y_10_learn prog_1_method_29_code 2 (none)) B.pre w (List.mem_cons_of_mem _ hq)⟩, hK⟩
  have hl := lv_entry ([.ref (o + 0), .int x1]) (n := 2) (Nat.le_of_ble_eq_true rfl)
  rw [lg_entry_eq]
  generalize (lg_sl ([.ref (o + 0), .int x1]) ++ List.replicate (2 - (lg_sl ([.ref (o + 0), .int x1])).length) Slot.unset).toArray = ls at hl ⊢
  have hl : lv_has ls 2 [(0, .ref (o + 0)), (1, .int x1)] := hl
  exact bk_10_learn_0 cx B.returns B.notSynchronized h hw (hm_L0 _ _) hl
/-! ===== HeapGames.outcome()I ===== -/
theorem d_10_outcome_0 : decode prog_1_method_22_code 0 = .ok (.aload_n 0, 1) := by decide +kernel
theorem d_10_outcome_1 : decode prog_1_method_22_code 1 = .ok (.aload_n 0, 1) := by decide +kernel
theorem d_10_outcome_2 : decode prog_1_method_22_code 2 = .ok (.getfield 80, 3) := by decide +kernel
theorem d_10_outcome_5 : decode prog_1_method_22_code 5 = .ok (.invokevirtual 223, 3) := by decide +kernel
theorem d_10_outcome_8 : decode prog_1_method_22_code 8 = .ok (.aload_n 0, 1) := by decide +kernel
theorem d_10_outcome_9 : decode prog_1_method_22_code 9 = .ok (.getfield 37, 3) := by decide +kernel
theorem d_10_outcome_12 : decode prog_1_method_22_code 12 = .ok (.aload_n 0, 1) := by decide +kernel
theorem d_10_outcome_13 : decode prog_1_method_22_code 13 = .ok (.getfield 80, 3) := by decide +kernel
theorem d_10_outcome_16 : decode prog_1_method_22_code 16 = .ok (.invokevirtual 217, 3) := by decide +kernel
theorem d_10_outcome_19 : decode prog_1_method_22_code 19 = .ok (.ireturn, 1) := by decide +kernel
def wp_10_outcome (S : hm_S) (T : hm_T) (Q : Int32 → hm_S → hm_T → Prop) : Prop :=
  wp_10_learn (S 0 9) S T (fun S1 T1 => wp_8_outcomeOf (S1 0 9) S1 T1 (fun r2 S2 T2 => Q r2 S2 T2))
set_option maxHeartbeats 4000000 in
set_option maxRecDepth 20000 in
theorem bk_10_outcome_0 {Q : Int32 → hm_S → hm_T → Prop} (cx : hm_cx G p s m args c prog_1_method_22_code 1 "HeapGames") (hr : meth.sig.returnType = some .int) (hlk : meth.locks = false) {S : hm_S} {T : hm_T} {H : Heap} {locs : List Loc} {ls : Array Slot} (h : wp_10_outcome S T Q) (hw : hm_w G H0 o 74 shX S T H) (hL : hm_L o 74 locs) (hl : lv_has ls 1 [(0, .ref (o + 0))]) : W p l e rm_10_outcome s m args below meth c H locs 0 0 (MQ below (hm_Qi G H0 o 74 shX Q) args s 0 0 (t_fr o (o + 74))) (F0 m 0 ls []) := by
  have hx := cx.1.1
  have hb := cx.1.2.1
  unfold wp_10_outcome at h
  refine lv_aload_n hx hb d_10_outcome_0 rfl (lv_at hl 0 rfl) ?_
  refine lv_aload_n hx hb d_10_outcome_1 rfl (lv_at hl 0 rfl) ?_
  refine gf_10_80 cx hw (i := 0) (by decide) sx_0 rfl d_10_outcome_2 ?_
  refine hm_callv (hm_rV (i := 0) (As := [.int (S 0 9)]) (rest := []) cx hw (ct_10_learn h) (mw_10_223 cx.1.2.2.2.2 ⟨Nat.le_of_ble_eq_true rfl, Nat.le_of_ble_eq_true rfl⟩) (by decide) sx_0 rfl rfl hl.1 rfl (Nat.le_of_ble_eq_true rfl) d_10_outcome_5 ⟨Nat.zero_le _, Nat.zero_le _⟩) hL (fun S1 T1 H locs h hw hL => ?_)
  refine lv_aload_n hx hb d_10_outcome_8 rfl (lv_at hl 0 rfl) ?_
  refine gf_10_37 cx hw (i := 0) (r := 36) (by decide) sx_0 rfl d_10_outcome_9 ?_
  refine lv_aload_n hx hb d_10_outcome_12 rfl (lv_at hl 0 rfl) ?_
  refine gf_10_80 cx hw (i := 0) (by decide) sx_0 rfl d_10_outcome_13 ?_
  refine hm_calli (hm_rV (i := 36) (As := [.int (S1 0 9)]) (rest := []) cx hw (ct_8_outcomeOf h) (mw_10_217 cx.1.2.2.2.2 ⟨Nat.le_of_ble_eq_true rfl, Nat.le_of_ble_eq_true rfl⟩) (by decide) sx_36 rfl rfl hl.1 rfl (Nat.le_of_ble_eq_true rfl) d_10_outcome_16 ⟨Nat.zero_le _, Nat.zero_le _⟩) hL (fun r2 S2 T2 H locs h hw hL => ?_)
  exact W.iret hx hb hr (fun t ht _ => ⟨_, _, _, rfl, h, by rw [ht]; exact hw⟩) hL d_10_outcome_19
set_option maxHeartbeats 4000000 in
set_option maxRecDepth 20000 in
theorem ct_10_outcome {S : hm_S} {T : hm_T} {Q : Int32 → hm_S → hm_T → Prop} (h : wp_10_outcome S T Q) : hm_M l G H0 o 74 shX y_10_outcome prog_1_method_22_code 1 (some .int) rm_10_outcome S T [.ref (o + 0)] (hm_Qi G H0 o 74 shX Q) := by
  refine Met.ofW (cc := prog_1_method_22_code) (maxL := 1) (ret := some .int) (by decide) rfl ?_
  intro p e s m args below meth c s₁ B hml hv
  obtain ⟨rfl, hK, hw⟩ := hv
  have cx : hm_cx G p s m _ c prog_1_method_22_code 1 "HeapGames" := ⟨⟨B.exec, B.bytes, hml, findClass_of_methodNamed B.named, fun w hq => atoms_spec (ws := hm_ws y_10_outcome prog_1_method_22_code 1 (some .int)) B.pre w (List.mem_cons_of_mem _ hq)⟩, hK⟩
  have hl := lv_entry ([.ref (o + 0)]) (n := 1) (Nat.le_of_ble_eq_true rfl)
  rw [lg_entry_eq]
  generalize (lg_sl ([.ref (o + 0)]) ++ List.replicate (1 - (lg_sl ([.ref (o + 0)])).length) Slot.unset).toArray = ls at hl ⊢
  have hl : lv_has ls 1 [(0, .ref (o + 0))] := hl
  exact bk_10_outcome_0 cx B.returns B.notSynchronized h hw (hm_L0 _ _) hl
/-! ===== HeapGames.distance()I ===== -/
theorem d_10_distance_0 : decode prog_1_method_23_code 0 = .ok (.aload_n 0, 1) := by decide +kernel
theorem d_10_distance_1 : decode prog_1_method_23_code 1 = .ok (.aload_n 0, 1) := by decide +kernel
theorem d_10_distance_2 : decode prog_1_method_23_code 2 = .ok (.getfield 80, 3) := by decide +kernel
theorem d_10_distance_5 : decode prog_1_method_23_code 5 = .ok (.invokevirtual 223, 3) := by decide +kernel
theorem d_10_distance_8 : decode prog_1_method_23_code 8 = .ok (.aload_n 0, 1) := by decide +kernel
theorem d_10_distance_9 : decode prog_1_method_23_code 9 = .ok (.getfield 37, 3) := by decide +kernel
theorem d_10_distance_12 : decode prog_1_method_23_code 12 = .ok (.aload_n 0, 1) := by decide +kernel
theorem d_10_distance_13 : decode prog_1_method_23_code 13 = .ok (.getfield 80, 3) := by decide +kernel
theorem d_10_distance_16 : decode prog_1_method_23_code 16 = .ok (.invokevirtual 220, 3) := by decide +kernel
theorem d_10_distance_19 : decode prog_1_method_23_code 19 = .ok (.ireturn, 1) := by decide +kernel
def wp_10_distance (S : hm_S) (T : hm_T) (Q : Int32 → hm_S → hm_T → Prop) : Prop :=
  wp_10_learn (S 0 9) S T (fun S1 T1 => wp_8_distanceOf (S1 0 9) S1 T1 (fun r2 S2 T2 => Q r2 S2 T2))
set_option maxHeartbeats 4000000 in
set_option maxRecDepth 20000 in
theorem bk_10_distance_0 {Q : Int32 → hm_S → hm_T → Prop} (cx : hm_cx G p s m args c prog_1_method_23_code 1 "HeapGames") (hr : meth.sig.returnType = some .int) (hlk : meth.locks = false) {S : hm_S} {T : hm_T} {H : Heap} {locs : List Loc} {ls : Array Slot} (h : wp_10_distance S T Q) (hw : hm_w G H0 o 74 shX S T H) (hL : hm_L o 74 locs) (hl : lv_has ls 1 [(0, .ref (o + 0))]) : W p l e rm_10_distance s m args below meth c H locs 0 0 (MQ below (hm_Qi G H0 o 74 shX Q) args s 0 0 (t_fr o (o + 74))) (F0 m 0 ls []) := by
  have hx := cx.1.1
  have hb := cx.1.2.1
  unfold wp_10_distance at h
  refine lv_aload_n hx hb d_10_distance_0 rfl (lv_at hl 0 rfl) ?_
  refine lv_aload_n hx hb d_10_distance_1 rfl (lv_at hl 0 rfl) ?_
  refine gf_10_80 cx hw (i := 0) (by decide) sx_0 rfl d_10_distance_2 ?_
  refine hm_callv (hm_rV (i := 0) (As := [.int (S 0 9)]) (rest := []) cx hw (ct_10_learn h) (mw_10_223 cx.1.2.2.2.2 ⟨Nat.le_of_ble_eq_true rfl, Nat.le_of_ble_eq_true rfl⟩) (by decide) sx_0 rfl rfl hl.1 rfl (Nat.le_of_ble_eq_true rfl) d_10_distance_5 ⟨Nat.zero_le _, Nat.zero_le _⟩) hL (fun S1 T1 H locs h hw hL => ?_)
  refine lv_aload_n hx hb d_10_distance_8 rfl (lv_at hl 0 rfl) ?_
  refine gf_10_37 cx hw (i := 0) (r := 36) (by decide) sx_0 rfl d_10_distance_9 ?_
  refine lv_aload_n hx hb d_10_distance_12 rfl (lv_at hl 0 rfl) ?_
  refine gf_10_80 cx hw (i := 0) (by decide) sx_0 rfl d_10_distance_13 ?_
  refine hm_calli (hm_rV (i := 36) (As := [.int (S1 0 9)]) (rest := []) cx hw (ct_8_distanceOf h) (mw_10_220 cx.1.2.2.2.2 ⟨Nat.le_of_ble_eq_true rfl, Nat.le_of_ble_eq_true rfl⟩) (by decide) sx_36 rfl rfl hl.1 rfl (Nat.le_of_ble_eq_true rfl) d_10_distance_16 ⟨Nat.zero_le _, Nat.zero_le _⟩) hL (fun r2 S2 T2 H locs h hw hL => ?_)
  exact W.iret hx hb hr (fun t ht _ => ⟨_, _, _, rfl, h, by rw [ht]; exact hw⟩) hL d_10_distance_19
set_option maxHeartbeats 4000000 in
set_option maxRecDepth 20000 in
theorem ct_10_distance {S : hm_S} {T : hm_T} {Q : Int32 → hm_S → hm_T → Prop} (h : wp_10_distance S T Q) : hm_M l G H0 o 74 shX y_10_distance prog_1_method_23_code 1 (some .int) rm_10_distance S T [.ref (o + 0)] (hm_Qi G H0 o 74 shX Q) := by
  refine Met.ofW (cc := prog_1_method_23_code) (maxL := 1) (ret := some .int) (by decide) rfl ?_
  intro p e s m args below meth c s₁ B hml hv
  obtain ⟨rfl, hK, hw⟩ := hv
  have cx : hm_cx G p s m _ c prog_1_method_23_code 1 "HeapGames" := ⟨⟨B.exec, B.bytes, hml, findClass_of_methodNamed B.named, fun w hq => atoms_spec (ws := hm_ws y_10_distance prog_1_method_23_code 1 (some .int)) B.pre w (List.mem_cons_of_mem _ hq)⟩, hK⟩
  have hl := lv_entry ([.ref (o + 0)]) (n := 1) (Nat.le_of_ble_eq_true rfl)
  rw [lg_entry_eq]
  generalize (lg_sl ([.ref (o + 0)]) ++ List.replicate (1 - (lg_sl ([.ref (o + 0)])).length) Slot.unset).toArray = ls at hl ⊢
  have hl : lv_has ls 1 [(0, .ref (o + 0))] := hl
  exact bk_10_distance_0 cx B.returns B.notSynchronized h hw (hm_L0 _ _) hl
/-! ===== HeapGames.goodOutcome()I ===== -/
theorem d_10_goodOutcome_0 : decode prog_1_method_31_code 0 = .ok (.iconst (-1), 1) := by decide +kernel
theorem d_10_goodOutcome_1 : decode prog_1_method_31_code 1 = .ok (.istore_n 1, 1) := by decide +kernel
theorem d_10_goodOutcome_2 : decode prog_1_method_31_code 2 = .ok (.iconst 0, 1) := by decide +kernel
theorem d_10_goodOutcome_3 : decode prog_1_method_31_code 3 = .ok (.istore_n 2, 1) := by decide +kernel
theorem d_10_goodOutcome_4 : decode prog_1_method_31_code 4 = .ok (.iload_n 2, 1) := by decide +kernel
theorem d_10_goodOutcome_5 : decode prog_1_method_31_code 5 = .ok (.aload_n 0, 1) := by decide +kernel
theorem d_10_goodOutcome_6 : decode prog_1_method_31_code 6 = .ok (.getfield 28, 3) := by decide +kernel
theorem d_10_goodOutcome_9 : decode prog_1_method_31_code 9 = .ok (.getfield 184, 3) := by decide +kernel
theorem d_10_goodOutcome_12 : decode prog_1_method_31_code 12 = .ok (.if_icmp .ge 38, 3) := by decide +kernel
theorem d_10_goodOutcome_15 : decode prog_1_method_31_code 15 = .ok (.aload_n 0, 1) := by decide +kernel
theorem d_10_goodOutcome_16 : decode prog_1_method_31_code 16 = .ok (.getfield 37, 3) := by decide +kernel
theorem d_10_goodOutcome_19 : decode prog_1_method_31_code 19 = .ok (.aload_n 0, 1) := by decide +kernel
theorem d_10_goodOutcome_20 : decode prog_1_method_31_code 20 = .ok (.getfield 28, 3) := by decide +kernel
theorem d_10_goodOutcome_23 : decode prog_1_method_31_code 23 = .ok (.iload_n 2, 1) := by decide +kernel
theorem d_10_goodOutcome_24 : decode prog_1_method_31_code 24 = .ok (.invokevirtual 193, 3) := by decide +kernel
theorem d_10_goodOutcome_27 : decode prog_1_method_31_code 27 = .ok (.invokevirtual 217, 3) := by decide +kernel
theorem d_10_goodOutcome_30 : decode prog_1_method_31_code 30 = .ok (.istore_n 3, 1) := by decide +kernel
theorem d_10_goodOutcome_31 : decode prog_1_method_31_code 31 = .ok (.iload_n 3, 1) := by decide +kernel
theorem d_10_goodOutcome_32 : decode prog_1_method_31_code 32 = .ok (.ifCond .ne 5, 3) := by decide +kernel
theorem d_10_goodOutcome_35 : decode prog_1_method_31_code 35 = .ok (.iconst 0, 1) := by decide +kernel
theorem d_10_goodOutcome_36 : decode prog_1_method_31_code 36 = .ok (.ireturn, 1) := by decide +kernel
theorem d_10_goodOutcome_37 : decode prog_1_method_31_code 37 = .ok (.iload_n 1, 1) := by decide +kernel
theorem d_10_goodOutcome_38 : decode prog_1_method_31_code 38 = .ok (.iconst 2, 1) := by decide +kernel
theorem d_10_goodOutcome_39 : decode prog_1_method_31_code 39 = .ok (.if_icmp .eq 5, 3) := by decide +kernel
theorem d_10_goodOutcome_42 : decode prog_1_method_31_code 42 = .ok (.iload_n 3, 1) := by decide +kernel
theorem d_10_goodOutcome_43 : decode prog_1_method_31_code 43 = .ok (.istore_n 1, 1) := by decide +kernel
theorem d_10_goodOutcome_44 : decode prog_1_method_31_code 44 = .ok (.iinc 2 1, 3) := by decide +kernel
theorem d_10_goodOutcome_47 : decode prog_1_method_31_code 47 = .ok (.goto (-43), 3) := by decide +kernel
theorem d_10_goodOutcome_50 : decode prog_1_method_31_code 50 = .ok (.iload_n 1, 1) := by decide +kernel
theorem d_10_goodOutcome_51 : decode prog_1_method_31_code 51 = .ok (.ireturn, 1) := by decide +kernel
def wb_10_goodOutcome_44 (Q : Int32 → hm_S → hm_T → Prop) (K4 : Int32 → Int32 → hm_S → hm_T → Prop) (x1 : Int32) (x2 : Int32) (S : hm_S) (T : hm_T) : Prop :=
  K4 x1 (x2 + 1) S T
set_option maxHeartbeats 4000000 in
set_option maxRecDepth 20000 in
theorem bk_10_goodOutcome_44 {Q : Int32 → hm_S → hm_T → Prop} {K4 : Int32 → Int32 → hm_S → hm_T → Prop} (cx : hm_cx G p s m args c prog_1_method_31_code 4 "HeapGames") (hr : meth.sig.returnType = some .int) (hlk : meth.locks = false) (k4 : ∀ (x1 : Int32) (x2 : Int32) (S : hm_S) (T : hm_T) (H : Heap) (locs : List Loc) (ls : Array Slot), K4 x1 x2 S T → hm_w G H0 o 74 shX S T H → hm_L o 74 locs → lv_has ls 4 [(0, .ref (o + 0)), (1, .int x1), (2, .int x2)] → W p l e rm_10_goodOutcome s m args below meth c H locs 0 0 (MQ below (hm_Qi G H0 o 74 shX Q) args s 0 0 (t_fr o (o + 74))) (F0 m 4 ls [])) {x1 : Int32} {x2 : Int32} {S : hm_S} {T : hm_T} {H : Heap} {locs : List Loc} {ls : Array Slot} (h : wb_10_goodOutcome_44 Q K4 x1 x2 S T) (hw : hm_w G H0 o 74 shX S T H) (hL : hm_L o 74 locs) (hl : lv_has ls 4 [(0, .ref (o + 0)), (1, .int x1), (2, .int x2)]) : W p l e rm_10_goodOutcome s m args below meth c H locs 0 0 (MQ below (hm_Qi G H0 o 74 shX Q) args s 0 0 (t_fr o (o + 74))) (F0 m 44 ls []) := by
  have hx := cx.1.1
  have hb := cx.1.2.1
  unfold wb_10_goodOutcome_44 at h
  refine lv_iinc (v := (x2 + 1)) (lv' := [(2, .int (x2 + 1)), (0, .ref (o + 0)), (1, .int x1)]) hx hb d_10_goodOutcome_44 hl (k := 2) rfl rfl (by decide) rfl (fun ls hl => ?_)
  refine lv_goto (tgt := 4) hx hb d_10_goodOutcome_47 (by decide) ?_
  exact k4 _ _ _ _ _ _ _ h hw hL (lv_sub hl [1, 2, 0] rfl)
def wb_10_goodOutcome_4 (Q : Int32 → hm_S → hm_T → Prop) (K4 : Int32 → Int32 → hm_S → hm_T → Prop) (x1 : Int32) (x2 : Int32) (S : hm_S) (T : hm_T) : Prop :=
  (if (S 19 11) ≤ x2 then Q x1 S T else wp_3_targetOf x2 S T (fun r1 S1 T1 => wp_8_outcomeOf r1 S1 T1 (fun r2 S2 T2 => (if r2 = 0 then Q 0 S2 T2 else (if x1 = 2 then wb_10_goodOutcome_44 Q K4 x1 x2 S2 T2 else wb_10_goodOutcome_44 Q K4 r2 x2 S2 T2)))))
set_option maxHeartbeats 4000000 in
set_option maxRecDepth 20000 in
theorem bk_10_goodOutcome_4 {Q : Int32 → hm_S → hm_T → Prop} {K4 : Int32 → Int32 → hm_S → hm_T → Prop} (cx : hm_cx G p s m args c prog_1_method_31_code 4 "HeapGames") (hr : meth.sig.returnType = some .int) (hlk : meth.locks = false) (k4 : ∀ (x1 : Int32) (x2 : Int32) (S : hm_S) (T : hm_T) (H : Heap) (locs : List Loc) (ls : Array Slot), K4 x1 x2 S T → hm_w G H0 o 74 shX S T H → hm_L o 74 locs → lv_has ls 4 [(0, .ref (o + 0)), (1, .int x1), (2, .int x2)] → W p l e rm_10_goodOutcome s m args below meth c H locs 0 0 (MQ below (hm_Qi G H0 o 74 shX Q) args s 0 0 (t_fr o (o + 74))) (F0 m 4 ls [])) {x1 : Int32} {x2 : Int32} {S : hm_S} {T : hm_T} {H : Heap} {locs : List Loc} {ls : Array Slot} (h : wb_10_goodOutcome_4 Q K4 x1 x2 S T) (hw : hm_w G H0 o 74 shX S T H) (hL : hm_L o 74 locs) (hl : lv_has ls 4 [(0, .ref (o + 0)), (1, .int x1), (2, .int x2)]) : W p l e rm_10_goodOutcome s m args below meth c H locs 0 0 (MQ below (hm_Qi G H0 o 74 shX Q) args s 0 0 (t_fr o (o + 74))) (F0 m 4 ls []) := by
  have hx := cx.1.1
  have hb := cx.1.2.1
  unfold wb_10_goodOutcome_4 at h
  refine lv_iload_n hx hb d_10_goodOutcome_4 rfl (lv_at hl 2 rfl) ?_
  refine lv_aload_n hx hb d_10_goodOutcome_5 rfl (lv_at hl 0 rfl) ?_
  refine gf_10_28 cx hw (i := 0) (r := 19) (by decide) sx_0 rfl d_10_goodOutcome_6 ?_
  refine gf_10_184 cx hw (i := 19) (by decide) sx_19 rfl d_10_goodOutcome_9 ?_
  refine lv_icmp_ge (tgt := 50) hx hb d_10_goodOutcome_12 (by decide) (fun hc => ?_) (fun hc => ?_)
  · replace h := hm_pos hc h
    refine lv_iload_n hx hb d_10_goodOutcome_50 rfl (lv_at hl 1 rfl) ?_
    exact W.iret hx hb hr (fun t ht _ => ⟨_, _, _, rfl, h, by rw [ht]; exact hw⟩) hL d_10_goodOutcome_51
  · replace h := hm_neg hc h
    refine lv_aload_n hx hb d_10_goodOutcome_15 rfl (lv_at hl 0 rfl) ?_
    refine gf_10_37 cx hw (i := 0) (r := 36) (by decide) sx_0 rfl d_10_goodOutcome_16 ?_
    refine lv_aload_n hx hb d_10_goodOutcome_19 rfl (lv_at hl 0 rfl) ?_
    refine gf_10_28 cx hw (i := 0) (r := 19) (by decide) sx_0 rfl d_10_goodOutcome_20 ?_
    refine lv_iload_n hx hb d_10_goodOutcome_23 rfl (lv_at hl 2 rfl) ?_
    refine hm_calli (hm_rV (i := 19) (As := [.int x2]) (rest := [.ref (o + 36)]) cx hw (ct_3_targetOf h) (mw_10_193 cx.1.2.2.2.2 ⟨Nat.le_of_ble_eq_true rfl, Nat.le_of_ble_eq_true rfl⟩) (by decide) sx_19 rfl rfl hl.1 rfl (Nat.le_of_ble_eq_true rfl) d_10_goodOutcome_24 ⟨Nat.zero_le _, Nat.zero_le _⟩) hL (fun r1 S1 T1 H locs h hw hL => ?_)
    refine hm_calli (hm_rV (i := 36) (As := [.int r1]) (rest := []) cx hw (ct_8_outcomeOf h) (mw_10_217 cx.1.2.2.2.2 ⟨Nat.le_of_ble_eq_true rfl, Nat.le_of_ble_eq_true rfl⟩) (by decide) sx_36 rfl rfl hl.1 rfl (Nat.le_of_ble_eq_true rfl) d_10_goodOutcome_27 ⟨Nat.zero_le _, Nat.zero_le _⟩) hL (fun r2 S2 T2 H locs h hw hL => ?_)
    refine lv_istore_n (lv' := [(3, .int r2), (0, .ref (o + 0)), (1, .int x1), (2, .int x2)]) hx hb d_10_goodOutcome_30 rfl hl (by decide) rfl (fun ls hl => ?_)
    refine lv_iload_n hx hb d_10_goodOutcome_31 rfl (lv_at hl 0 rfl) ?_
    refine lv_if_ne (tgt := 37) hx hb d_10_goodOutcome_32 (by decide) (fun hc => ?_) (fun hc => ?_)
    · replace h := hm_neg hc h
      refine lv_iload_n hx hb d_10_goodOutcome_37 rfl (lv_at hl 2 rfl) ?_
      refine lv_iconst (v := 2) hx hb d_10_goodOutcome_38 (by decide) ?_
      refine lv_icmp_eq (tgt := 44) hx hb d_10_goodOutcome_39 (by decide) (fun hc => ?_) (fun hc => ?_)
      · replace h := hm_pos hc h
        exact bk_10_goodOutcome_44 cx hr hlk k4 h hw hL (lv_sub hl [1, 2, 3] rfl)
      · replace h := hm_neg hc h
        refine lv_iload_n hx hb d_10_goodOutcome_42 rfl (lv_at hl 0 rfl) ?_
        refine lv_istore_n (lv' := [(1, .int r2), (3, .int r2), (0, .ref (o + 0)), (2, .int x2)]) hx hb d_10_goodOutcome_43 rfl hl (by decide) rfl (fun ls hl => ?_)
        exact bk_10_goodOutcome_44 cx hr hlk k4 h hw hL (lv_sub hl [2, 0, 3] rfl)
    · replace h := hm_pos hc h
      refine lv_iconst (v := 0) hx hb d_10_goodOutcome_35 (by decide) ?_
      exact W.iret hx hb hr (fun t ht _ => ⟨_, _, _, rfl, h, by rw [ht]; exact hw⟩) hL d_10_goodOutcome_36
def wl_10_goodOutcome_4 (Q : Int32 → hm_S → hm_T → Prop) : Nat → Int32 → Int32 → hm_S → hm_T → Prop
  | 0, _, _, _, _ => False
  | f + 1, x1, x2, S, T => wb_10_goodOutcome_4 Q (wl_10_goodOutcome_4 Q f) x1 x2 S T
theorem lp_10_goodOutcome_4 {Q : Int32 → hm_S → hm_T → Prop} (cx : hm_cx G p s m args c prog_1_method_31_code 4 "HeapGames") (hr : meth.sig.returnType = some .int) (hlk : meth.locks = false) : ∀ (f : Nat) (x1 : Int32) (x2 : Int32) (S : hm_S) (T : hm_T) (H : Heap) (locs : List Loc) (ls : Array Slot), wl_10_goodOutcome_4 Q f x1 x2 S T → hm_w G H0 o 74 shX S T H → hm_L o 74 locs → lv_has ls 4 [(0, .ref (o + 0)), (1, .int x1), (2, .int x2)] → W p l e rm_10_goodOutcome s m args below meth c H locs 0 0 (MQ below (hm_Qi G H0 o 74 shX Q) args s 0 0 (t_fr o (o + 74))) (F0 m 4 ls []) := by
  intro f
  induction f with
  | zero => intro x1 x2 S T H locs ls h; exact h.elim
  | succ f ih => intro x1 x2 S T H locs ls h hw hL hl; exact bk_10_goodOutcome_4 cx hr hlk ih h hw hL hl
def wp_10_goodOutcome (S : hm_S) (T : hm_T) (Q : Int32 → hm_S → hm_T → Prop) : Prop :=
  ∃ f, wl_10_goodOutcome_4 Q f (-1) 0 S T
set_option maxHeartbeats 4000000 in
set_option maxRecDepth 20000 in
theorem bk_10_goodOutcome_0 {Q : Int32 → hm_S → hm_T → Prop} (cx : hm_cx G p s m args c prog_1_method_31_code 4 "HeapGames") (hr : meth.sig.returnType = some .int) (hlk : meth.locks = false) {S : hm_S} {T : hm_T} {H : Heap} {locs : List Loc} {ls : Array Slot} (h : wp_10_goodOutcome S T Q) (hw : hm_w G H0 o 74 shX S T H) (hL : hm_L o 74 locs) (hl : lv_has ls 4 [(0, .ref (o + 0))]) : W p l e rm_10_goodOutcome s m args below meth c H locs 0 0 (MQ below (hm_Qi G H0 o 74 shX Q) args s 0 0 (t_fr o (o + 74))) (F0 m 0 ls []) := by
  have hx := cx.1.1
  have hb := cx.1.2.1
  unfold wp_10_goodOutcome at h
  refine lv_iconst (v := (-1)) hx hb d_10_goodOutcome_0 (by decide) ?_
  refine lv_istore_n (lv' := [(1, .int (-1)), (0, .ref (o + 0))]) hx hb d_10_goodOutcome_1 rfl hl (by decide) rfl (fun ls hl => ?_)
  refine lv_iconst (v := 0) hx hb d_10_goodOutcome_2 (by decide) ?_
  refine lv_istore_n (lv' := [(2, .int 0), (1, .int (-1)), (0, .ref (o + 0))]) hx hb d_10_goodOutcome_3 rfl hl (by decide) rfl (fun ls hl => ?_)
  obtain ⟨f, h⟩ := h
  exact lp_10_goodOutcome_4 cx hr hlk f _ _ _ _ _ _ _ h hw hL (lv_sub hl [2, 1, 0] rfl)
set_option maxHeartbeats 4000000 in
set_option maxRecDepth 20000 in
theorem ct_10_goodOutcome {S : hm_S} {T : hm_T} {Q : Int32 → hm_S → hm_T → Prop} (h : wp_10_goodOutcome S T Q) : hm_M l G H0 o 74 shX y_10_goodOutcome prog_1_method_31_code 4 (some .int) rm_10_goodOutcome S T [.ref (o + 0)] (hm_Qi G H0 o 74 shX Q) := by
  refine Met.ofW (cc := prog_1_method_31_code) (maxL := 4) (ret := some .int) (by decide) rfl ?_
  intro p e s m args below meth c s₁ B hml hv
  obtain ⟨rfl, hK, hw⟩ := hv
  have cx : hm_cx G p s m _ c prog_1_method_31_code 4 "HeapGames" := ⟨⟨B.exec, B.bytes, hml, findClass_of_methodNamed B.named, fun w hq => atoms_spec (ws := hm_ws y_10_goodOutcome prog_1_method_31_code 4 (some .int)) B.pre w (List.mem_cons_of_mem _ hq)⟩, hK⟩
  have hl := lv_entry ([.ref (o + 0)]) (n := 4) (Nat.le_of_ble_eq_true rfl)
  rw [lg_entry_eq]
  generalize (lg_sl ([.ref (o + 0)]) ++ List.replicate (4 - (lg_sl ([.ref (o + 0)])).length) Slot.unset).toArray = ls at hl ⊢
  have hl : lv_has ls 4 [(0, .ref (o + 0))] := hl
  exact bk_10_goodOutcome_0 cx B.returns B.notSynchronized h hw (hm_L0 _ _) hl
/-! ===== HeapGames.bestMove()I ===== -/
theorem d_10_bestMove_0 : decode prog_1_method_33_code 0 = .ok (.aload_n 0, 1) := by decide +kernel
theorem d_10_bestMove_1 : decode prog_1_method_33_code 1 = .ok (.invokevirtual 242, 3) := by decide +kernel
theorem d_10_bestMove_4 : decode prog_1_method_33_code 4 = .ok (.istore_n 1, 1) := by decide +kernel
theorem d_10_bestMove_5 : decode prog_1_method_33_code 5 = .ok (.iconst (-1), 1) := by decide +kernel
theorem d_10_bestMove_6 : decode prog_1_method_33_code 6 = .ok (.istore_n 2, 1) := by decide +kernel
theorem d_10_bestMove_7 : decode prog_1_method_33_code 7 = .ok (.iconst (-1), 1) := by decide +kernel
theorem d_10_bestMove_8 : decode prog_1_method_33_code 8 = .ok (.istore_n 3, 1) := by decide +kernel
theorem d_10_bestMove_9 : decode prog_1_method_33_code 9 = .ok (.iconst 0, 1) := by decide +kernel
theorem d_10_bestMove_10 : decode prog_1_method_33_code 10 = .ok (.istore 4, 2) := by decide +kernel
theorem d_10_bestMove_12 : decode prog_1_method_33_code 12 = .ok (.iload 4, 2) := by decide +kernel
theorem d_10_bestMove_14 : decode prog_1_method_33_code 14 = .ok (.aload_n 0, 1) := by decide +kernel
theorem d_10_bestMove_15 : decode prog_1_method_33_code 15 = .ok (.getfield 28, 3) := by decide +kernel
theorem d_10_bestMove_18 : decode prog_1_method_33_code 18 = .ok (.getfield 184, 3) := by decide +kernel
theorem d_10_bestMove_21 : decode prog_1_method_33_code 21 = .ok (.if_icmp .ge 94, 3) := by decide +kernel
theorem d_10_bestMove_24 : decode prog_1_method_33_code 24 = .ok (.aload_n 0, 1) := by decide +kernel
theorem d_10_bestMove_25 : decode prog_1_method_33_code 25 = .ok (.getfield 28, 3) := by decide +kernel
theorem d_10_bestMove_28 : decode prog_1_method_33_code 28 = .ok (.iload 4, 2) := by decide +kernel
theorem d_10_bestMove_30 : decode prog_1_method_33_code 30 = .ok (.invokevirtual 193, 3) := by decide +kernel
theorem d_10_bestMove_33 : decode prog_1_method_33_code 33 = .ok (.istore 5, 2) := by decide +kernel
theorem d_10_bestMove_35 : decode prog_1_method_33_code 35 = .ok (.aload_n 0, 1) := by decide +kernel
theorem d_10_bestMove_36 : decode prog_1_method_33_code 36 = .ok (.getfield 37, 3) := by decide +kernel
theorem d_10_bestMove_39 : decode prog_1_method_33_code 39 = .ok (.iload 5, 2) := by decide +kernel
theorem d_10_bestMove_41 : decode prog_1_method_33_code 41 = .ok (.invokevirtual 217, 3) := by decide +kernel
theorem d_10_bestMove_44 : decode prog_1_method_33_code 44 = .ok (.iload_n 1, 1) := by decide +kernel
theorem d_10_bestMove_45 : decode prog_1_method_33_code 45 = .ok (.if_icmp .eq 6, 3) := by decide +kernel
theorem d_10_bestMove_48 : decode prog_1_method_33_code 48 = .ok (.goto 61, 3) := by decide +kernel
theorem d_10_bestMove_51 : decode prog_1_method_33_code 51 = .ok (.aload_n 0, 1) := by decide +kernel
theorem d_10_bestMove_52 : decode prog_1_method_33_code 52 = .ok (.getfield 37, 3) := by decide +kernel
theorem d_10_bestMove_55 : decode prog_1_method_33_code 55 = .ok (.iload 5, 2) := by decide +kernel
theorem d_10_bestMove_57 : decode prog_1_method_33_code 57 = .ok (.invokevirtual 220, 3) := by decide +kernel
theorem d_10_bestMove_60 : decode prog_1_method_33_code 60 = .ok (.istore 6, 2) := by decide +kernel
theorem d_10_bestMove_62 : decode prog_1_method_33_code 62 = .ok (.iload_n 1, 1) := by decide +kernel
theorem d_10_bestMove_63 : decode prog_1_method_33_code 63 = .ok (.ifCond .ne 17, 3) := by decide +kernel
theorem d_10_bestMove_66 : decode prog_1_method_33_code 66 = .ok (.iload 6, 2) := by decide +kernel
theorem d_10_bestMove_68 : decode prog_1_method_33_code 68 = .ok (.iload_n 3, 1) := by decide +kernel
theorem d_10_bestMove_69 : decode prog_1_method_33_code 69 = .ok (.if_icmp .ge 7, 3) := by decide +kernel
theorem d_10_bestMove_72 : decode prog_1_method_33_code 72 = .ok (.iconst 1, 1) := by decide +kernel
theorem d_10_bestMove_73 : decode prog_1_method_33_code 73 = .ok (.goto 18, 3) := by decide +kernel
theorem d_10_bestMove_76 : decode prog_1_method_33_code 76 = .ok (.iconst 0, 1) := by decide +kernel
theorem d_10_bestMove_77 : decode prog_1_method_33_code 77 = .ok (.goto 14, 3) := by decide +kernel
theorem d_10_bestMove_80 : decode prog_1_method_33_code 80 = .ok (.iload 6, 2) := by decide +kernel
theorem d_10_bestMove_82 : decode prog_1_method_33_code 82 = .ok (.iload_n 3, 1) := by decide +kernel
theorem d_10_bestMove_83 : decode prog_1_method_33_code 83 = .ok (.if_icmp .le 7, 3) := by decide +kernel
theorem d_10_bestMove_86 : decode prog_1_method_33_code 86 = .ok (.iconst 1, 1) := by decide +kernel
theorem d_10_bestMove_87 : decode prog_1_method_33_code 87 = .ok (.goto 4, 3) := by decide +kernel
theorem d_10_bestMove_90 : decode prog_1_method_33_code 90 = .ok (.iconst 0, 1) := by decide +kernel
theorem d_10_bestMove_91 : decode prog_1_method_33_code 91 = .ok (.istore 7, 2) := by decide +kernel
theorem d_10_bestMove_93 : decode prog_1_method_33_code 93 = .ok (.iload_n 2, 1) := by decide +kernel
theorem d_10_bestMove_94 : decode prog_1_method_33_code 94 = .ok (.iconst (-1), 1) := by decide +kernel
theorem d_10_bestMove_95 : decode prog_1_method_33_code 95 = .ok (.if_icmp .eq 8, 3) := by decide +kernel
theorem d_10_bestMove_98 : decode prog_1_method_33_code 98 = .ok (.iload 7, 2) := by decide +kernel
theorem d_10_bestMove_100 : decode prog_1_method_33_code 100 = .ok (.ifCond .eq 9, 3) := by decide +kernel
theorem d_10_bestMove_103 : decode prog_1_method_33_code 103 = .ok (.iload 4, 2) := by decide +kernel
theorem d_10_bestMove_105 : decode prog_1_method_33_code 105 = .ok (.istore_n 2, 1) := by decide +kernel
theorem d_10_bestMove_106 : decode prog_1_method_33_code 106 = .ok (.iload 6, 2) := by decide +kernel
theorem d_10_bestMove_108 : decode prog_1_method_33_code 108 = .ok (.istore_n 3, 1) := by decide +kernel
theorem d_10_bestMove_109 : decode prog_1_method_33_code 109 = .ok (.iinc 4 1, 3) := by decide +kernel
theorem d_10_bestMove_112 : decode prog_1_method_33_code 112 = .ok (.goto (-100), 3) := by decide +kernel
theorem d_10_bestMove_115 : decode prog_1_method_33_code 115 = .ok (.iload_n 2, 1) := by decide +kernel
theorem d_10_bestMove_116 : decode prog_1_method_33_code 116 = .ok (.ireturn, 1) := by decide +kernel
def wb_10_bestMove_109 (Q : Int32 → hm_S → hm_T → Prop) (K12 : Int32 → Int32 → Int32 → Int32 → hm_S → hm_T → Prop) (x1 : Int32) (x2 : Int32) (x3 : Int32) (x4 : Int32) (S : hm_S) (T : hm_T) : Prop :=
  K12 x1 x2 x3 (x4 + 1) S T
set_option maxHeartbeats 4000000 in
set_option maxRecDepth 20000 in
theorem bk_10_bestMove_109 {Q : Int32 → hm_S → hm_T → Prop} {K12 : Int32 → Int32 → Int32 → Int32 → hm_S → hm_T → Prop} (cx : hm_cx G p s m args c prog_1_method_33_code 8 "HeapGames") (hr : meth.sig.returnType = some .int) (hlk : meth.locks = false) (k12 : ∀ (x1 : Int32) (x2 : Int32) (x3 : Int32) (x4 : Int32) (S : hm_S) (T : hm_T) (H : Heap) (locs : List Loc) (ls : Array Slot), K12 x1 x2 x3 x4 S T → hm_w G H0 o 74 shX S T H → hm_L o 74 locs → lv_has ls 8 [(0, .ref (o + 0)), (1, .int x1), (2, .int x2), (3, .int x3), (4, .int x4)] → W p l e rm_10_bestMove s m args below meth c H locs 0 0 (MQ below (hm_Qi G H0 o 74 shX Q) args s 0 0 (t_fr o (o + 74))) (F0 m 12 ls [])) {x1 : Int32} {x2 : Int32} {x3 : Int32} {x4 : Int32} {S : hm_S} {T : hm_T} {H : Heap} {locs : List Loc} {ls : Array Slot} (h : wb_10_bestMove_109 Q K12 x1 x2 x3 x4 S T) (hw : hm_w G H0 o 74 shX S T H) (hL : hm_L o 74 locs) (hl : lv_has ls 8 [(0, .ref (o + 0)), (1, .int x1), (2, .int x2), (3, .int x3), (4, .int x4)]) : W p l e rm_10_bestMove s m args below meth c H locs 0 0 (MQ below (hm_Qi G H0 o 74 shX Q) args s 0 0 (t_fr o (o + 74))) (F0 m 109 ls []) := by
  have hx := cx.1.1
  have hb := cx.1.2.1
  unfold wb_10_bestMove_109 at h
  refine lv_iinc (v := (x4 + 1)) (lv' := [(4, .int (x4 + 1)), (0, .ref (o + 0)), (1, .int x1), (2, .int x2), (3, .int x3)]) hx hb d_10_bestMove_109 hl (k := 4) rfl rfl (by decide) rfl (fun ls hl => ?_)
  refine lv_goto (tgt := 12) hx hb d_10_bestMove_112 (by decide) ?_
  exact k12 _ _ _ _ _ _ _ _ _ h hw hL (lv_sub hl [1, 2, 3, 4, 0] rfl)
def wb_10_bestMove_103 (Q : Int32 → hm_S → hm_T → Prop) (K12 : Int32 → Int32 → Int32 → Int32 → hm_S → hm_T → Prop) (x1 : Int32) (x4 : Int32) (x6 : Int32) (S : hm_S) (T : hm_T) : Prop :=
  wb_10_bestMove_109 Q K12 x1 x4 x6 x4 S T
set_option maxHeartbeats 4000000 in
set_option maxRecDepth 20000 in
theorem bk_10_bestMove_103 {Q : Int32 → hm_S → hm_T → Prop} {K12 : Int32 → Int32 → Int32 → Int32 → hm_S → hm_T → Prop} (cx : hm_cx G p s m args c prog_1_method_33_code 8 "HeapGames") (hr : meth.sig.returnType = some .int) (hlk : meth.locks = false) (k12 : ∀ (x1 : Int32) (x2 : Int32) (x3 : Int32) (x4 : Int32) (S : hm_S) (T : hm_T) (H : Heap) (locs : List Loc) (ls : Array Slot), K12 x1 x2 x3 x4 S T → hm_w G H0 o 74 shX S T H → hm_L o 74 locs → lv_has ls 8 [(0, .ref (o + 0)), (1, .int x1), (2, .int x2), (3, .int x3), (4, .int x4)] → W p l e rm_10_bestMove s m args below meth c H locs 0 0 (MQ below (hm_Qi G H0 o 74 shX Q) args s 0 0 (t_fr o (o + 74))) (F0 m 12 ls [])) {x1 : Int32} {x4 : Int32} {x6 : Int32} {S : hm_S} {T : hm_T} {H : Heap} {locs : List Loc} {ls : Array Slot} (h : wb_10_bestMove_103 Q K12 x1 x4 x6 S T) (hw : hm_w G H0 o 74 shX S T H) (hL : hm_L o 74 locs) (hl : lv_has ls 8 [(0, .ref (o + 0)), (1, .int x1), (4, .int x4), (6, .int x6)]) : W p l e rm_10_bestMove s m args below meth c H locs 0 0 (MQ below (hm_Qi G H0 o 74 shX Q) args s 0 0 (t_fr o (o + 74))) (F0 m 103 ls []) := by
  have hx := cx.1.1
  have hb := cx.1.2.1
  unfold wb_10_bestMove_103 at h
  refine lv_iload hx hb d_10_bestMove_103 (lv_at hl 2 rfl) ?_
  refine lv_istore_n (lv' := [(2, .int x4), (0, .ref (o + 0)), (1, .int x1), (4, .int x4), (6, .int x6)]) hx hb d_10_bestMove_105 rfl hl (by decide) rfl (fun ls hl => ?_)
  refine lv_iload hx hb d_10_bestMove_106 (lv_at hl 4 rfl) ?_
  refine lv_istore_n (lv' := [(3, .int x6), (2, .int x4), (0, .ref (o + 0)), (1, .int x1), (4, .int x4), (6, .int x6)]) hx hb d_10_bestMove_108 rfl hl (by decide) rfl (fun ls hl => ?_)
  exact bk_10_bestMove_109 cx hr hlk k12 h hw hL (lv_sub hl [2, 3, 1, 0, 4] rfl)
def wb_10_bestMove_91 (Q : Int32 → hm_S → hm_T → Prop) (K12 : Int32 → Int32 → Int32 → Int32 → hm_S → hm_T → Prop) (x1 : Int32) (x2 : Int32) (x3 : Int32) (x4 : Int32) (x6 : Int32) (z0 : Int32) (S : hm_S) (T : hm_T) : Prop :=
  (if x2 = (-1) then wb_10_bestMove_103 Q K12 x1 x4 x6 S T else (if z0 = 0 then wb_10_bestMove_109 Q K12 x1 x2 x3 x4 S T else wb_10_bestMove_103 Q K12 x1 x4 x6 S T))
set_option maxHeartbeats 4000000 in
set_option maxRecDepth 20000 in
theorem bk_10_bestMove_91 {Q : Int32 → hm_S → hm_T → Prop} {K12 : Int32 → Int32 → Int32 → Int32 → hm_S → hm_T → Prop} (cx : hm_cx G p s m args c prog_1_method_33_code 8 "HeapGames") (hr : meth.sig.returnType = some .int) (hlk : meth.locks = false) (k12 : ∀ (x1 : Int32) (x2 : Int32) (x3 : Int32) (x4 : Int32) (S : hm_S) (T : hm_T) (H : Heap) (locs : List Loc) (ls : Array Slot), K12 x1 x2 x3 x4 S T → hm_w G H0 o 74 shX S T H → hm_L o 74 locs → lv_has ls 8 [(0, .ref (o + 0)), (1, .int x1), (2, .int x2), (3, .int x3), (4, .int x4)] → W p l e rm_10_bestMove s m args below meth c H locs 0 0 (MQ below (hm_Qi G H0 o 74 shX Q) args s 0 0 (t_fr o (o + 74))) (F0 m 12 ls [])) {x1 : Int32} {x2 : Int32} {x3 : Int32} {x4 : Int32} {x6 : Int32} {z0 : Int32} {S : hm_S} {T : hm_T} {H : Heap} {locs : List Loc} {ls : Array Slot} (h : wb_10_bestMove_91 Q K12 x1 x2 x3 x4 x6 z0 S T) (hw : hm_w G H0 o 74 shX S T H) (hL : hm_L o 74 locs) (hl : lv_has ls 8 [(0, .ref (o + 0)), (1, .int x1), (2, .int x2), (3, .int x3), (4, .int x4), (6, .int x6)]) : W p l e rm_10_bestMove s m args below meth c H locs 0 0 (MQ below (hm_Qi G H0 o 74 shX Q) args s 0 0 (t_fr o (o + 74))) (F0 m 91 ls [.int z0]) := by
  have hx := cx.1.1
  have hb := cx.1.2.1
  unfold wb_10_bestMove_91 at h
  refine lv_istore (lv' := [(7, .int z0), (0, .ref (o + 0)), (1, .int x1), (2, .int x2), (3, .int x3), (4, .int x4), (6, .int x6)]) hx hb d_10_bestMove_91 hl (by decide) rfl (fun ls hl => ?_)
  refine lv_iload_n hx hb d_10_bestMove_93 rfl (lv_at hl 3 rfl) ?_
  refine lv_iconst (v := (-1)) hx hb d_10_bestMove_94 (by decide) ?_
  refine lv_icmp_eq (tgt := 103) hx hb d_10_bestMove_95 (by decide) (fun hc => ?_) (fun hc => ?_)
  · replace h := hm_pos hc h
    exact bk_10_bestMove_103 cx hr hlk k12 h hw hL (lv_sub hl [1, 2, 5, 6] rfl)
  · replace h := hm_neg hc h
    refine lv_iload hx hb d_10_bestMove_98 (lv_at hl 0 rfl) ?_
    refine lv_if_eq (tgt := 109) hx hb d_10_bestMove_100 (by decide) (fun hc => ?_) (fun hc => ?_)
    · replace h := hm_pos hc h
      exact bk_10_bestMove_109 cx hr hlk k12 h hw hL (lv_sub hl [1, 2, 3, 4, 5] rfl)
    · replace h := hm_neg hc h
      exact bk_10_bestMove_103 cx hr hlk k12 h hw hL (lv_sub hl [1, 2, 5, 6] rfl)
def wb_10_bestMove_12 (Q : Int32 → hm_S → hm_T → Prop) (K12 : Int32 → Int32 → Int32 → Int32 → hm_S → hm_T → Prop) (x1 : Int32) (x2 : Int32) (x3 : Int32) (x4 : Int32) (S : hm_S) (T : hm_T) : Prop :=
  (if (S 19 11) ≤ x4 then Q x2 S T else wp_3_targetOf x4 S T (fun r2 S2 T2 => wp_8_outcomeOf r2 S2 T2 (fun r3 S3 T3 => (if r3 = x1 then wp_8_distanceOf r2 S3 T3 (fun r4 S4 T4 => (if x1 = 0 then (if x3 ≤ r4 then wb_10_bestMove_91 Q K12 x1 x2 x3 x4 r4 0 S4 T4 else wb_10_bestMove_91 Q K12 x1 x2 x3 x4 r4 1 S4 T4) else (if r4 ≤ x3 then wb_10_bestMove_91 Q K12 x1 x2 x3 x4 r4 0 S4 T4 else wb_10_bestMove_91 Q K12 x1 x2 x3 x4 r4 1 S4 T4))) else wb_10_bestMove_109 Q K12 x1 x2 x3 x4 S3 T3))))
set_option maxHeartbeats 4000000 in
set_option maxRecDepth 20000 in
theorem bk_10_bestMove_12 {Q : Int32 → hm_S → hm_T → Prop} {K12 : Int32 → Int32 → Int32 → Int32 → hm_S → hm_T → Prop} (cx : hm_cx G p s m args c prog_1_method_33_code 8 "HeapGames") (hr : meth.sig.returnType = some .int) (hlk : meth.locks = false) (k12 : ∀ (x1 : Int32) (x2 : Int32) (x3 : Int32) (x4 : Int32) (S : hm_S) (T : hm_T) (H : Heap) (locs : List Loc) (ls : Array Slot), K12 x1 x2 x3 x4 S T → hm_w G H0 o 74 shX S T H → hm_L o 74 locs → lv_has ls 8 [(0, .ref (o + 0)), (1, .int x1), (2, .int x2), (3, .int x3), (4, .int x4)] → W p l e rm_10_bestMove s m args below meth c H locs 0 0 (MQ below (hm_Qi G H0 o 74 shX Q) args s 0 0 (t_fr o (o + 74))) (F0 m 12 ls [])) {x1 : Int32} {x2 : Int32} {x3 : Int32} {x4 : Int32} {S : hm_S} {T : hm_T} {H : Heap} {locs : List Loc} {ls : Array Slot} (h : wb_10_bestMove_12 Q K12 x1 x2 x3 x4 S T) (hw : hm_w G H0 o 74 shX S T H) (hL : hm_L o 74 locs) (hl : lv_has ls 8 [(0, .ref (o + 0)), (1, .int x1), (2, .int x2), (3, .int x3), (4, .int x4)]) : W p l e rm_10_bestMove s m args below meth c H locs 0 0 (MQ below (hm_Qi G H0 o 74 shX Q) args s 0 0 (t_fr o (o + 74))) (F0 m 12 ls []) := by
  have hx := cx.1.1
  have hb := cx.1.2.1
  unfold wb_10_bestMove_12 at h
  refine lv_iload hx hb d_10_bestMove_12 (lv_at hl 4 rfl) ?_
  refine lv_aload_n hx hb d_10_bestMove_14 rfl (lv_at hl 0 rfl) ?_
  refine gf_10_28 cx hw (i := 0) (r := 19) (by decide) sx_0 rfl d_10_bestMove_15 ?_
  refine gf_10_184 cx hw (i := 19) (by decide) sx_19 rfl d_10_bestMove_18 ?_
  refine lv_icmp_ge (tgt := 115) hx hb d_10_bestMove_21 (by decide) (fun hc => ?_) (fun hc => ?_)
  · replace h := hm_pos hc h
    refine lv_iload_n hx hb d_10_bestMove_115 rfl (lv_at hl 2 rfl) ?_
    exact W.iret hx hb hr (fun t ht _ => ⟨_, _, _, rfl, h, by rw [ht]; exact hw⟩) hL d_10_bestMove_116
  · replace h := hm_neg hc h
    refine lv_aload_n hx hb d_10_bestMove_24 rfl (lv_at hl 0 rfl) ?_
    refine gf_10_28 cx hw (i := 0) (r := 19) (by decide) sx_0 rfl d_10_bestMove_25 ?_
    refine lv_iload hx hb d_10_bestMove_28 (lv_at hl 4 rfl) ?_
    refine hm_calli (hm_rV (i := 19) (As := [.int x4]) (rest := []) cx hw (ct_3_targetOf h) (mw_10_193 cx.1.2.2.2.2 ⟨Nat.le_of_ble_eq_true rfl, Nat.le_of_ble_eq_true rfl⟩) (by decide) sx_19 rfl rfl hl.1 rfl (Nat.le_of_ble_eq_true rfl) d_10_bestMove_30 ⟨Nat.zero_le _, Nat.zero_le _⟩) hL (fun r2 S2 T2 H locs h hw hL => ?_)
    refine lv_istore (lv' := [(5, .int r2), (0, .ref (o + 0)), (1, .int x1), (2, .int x2), (3, .int x3), (4, .int x4)]) hx hb d_10_bestMove_33 hl (by decide) rfl (fun ls hl => ?_)
    refine lv_aload_n hx hb d_10_bestMove_35 rfl (lv_at hl 1 rfl) ?_
    refine gf_10_37 cx hw (i := 0) (r := 36) (by decide) sx_0 rfl d_10_bestMove_36 ?_
    refine lv_iload hx hb d_10_bestMove_39 (lv_at hl 0 rfl) ?_
    refine hm_calli (hm_rV (i := 36) (As := [.int r2]) (rest := []) cx hw (ct_8_outcomeOf h) (mw_10_217 cx.1.2.2.2.2 ⟨Nat.le_of_ble_eq_true rfl, Nat.le_of_ble_eq_true rfl⟩) (by decide) sx_36 rfl rfl hl.1 rfl (Nat.le_of_ble_eq_true rfl) d_10_bestMove_41 ⟨Nat.zero_le _, Nat.zero_le _⟩) hL (fun r3 S3 T3 H locs h hw hL => ?_)
    refine lv_iload_n hx hb d_10_bestMove_44 rfl (lv_at hl 2 rfl) ?_
    refine lv_icmp_eq (tgt := 51) hx hb d_10_bestMove_45 (by decide) (fun hc => ?_) (fun hc => ?_)
    · replace h := hm_pos hc h
      refine lv_aload_n hx hb d_10_bestMove_51 rfl (lv_at hl 1 rfl) ?_
      refine gf_10_37 cx hw (i := 0) (r := 36) (by decide) sx_0 rfl d_10_bestMove_52 ?_
      refine lv_iload hx hb d_10_bestMove_55 (lv_at hl 0 rfl) ?_
      refine hm_calli (hm_rV (i := 36) (As := [.int r2]) (rest := []) cx hw (ct_8_distanceOf h) (mw_10_220 cx.1.2.2.2.2 ⟨Nat.le_of_ble_eq_true rfl, Nat.le_of_ble_eq_true rfl⟩) (by decide) sx_36 rfl rfl hl.1 rfl (Nat.le_of_ble_eq_true rfl) d_10_bestMove_57 ⟨Nat.zero_le _, Nat.zero_le _⟩) hL (fun r4 S4 T4 H locs h hw hL => ?_)
      refine lv_istore (lv' := [(6, .int r4), (5, .int r2), (0, .ref (o + 0)), (1, .int x1), (2, .int x2), (3, .int x3), (4, .int x4)]) hx hb d_10_bestMove_60 hl (by decide) rfl (fun ls hl => ?_)
      refine lv_iload_n hx hb d_10_bestMove_62 rfl (lv_at hl 3 rfl) ?_
      refine lv_if_ne (tgt := 80) hx hb d_10_bestMove_63 (by decide) (fun hc => ?_) (fun hc => ?_)
      · replace h := hm_neg hc h
        refine lv_iload hx hb d_10_bestMove_80 (lv_at hl 0 rfl) ?_
        refine lv_iload_n hx hb d_10_bestMove_82 rfl (lv_at hl 5 rfl) ?_
        refine lv_icmp_le (tgt := 90) hx hb d_10_bestMove_83 (by decide) (fun hc => ?_) (fun hc => ?_)
        · replace h := hm_pos hc h
          refine lv_iconst (v := 0) hx hb d_10_bestMove_90 (by decide) ?_
          exact bk_10_bestMove_91 cx hr hlk k12 h hw hL (lv_sub hl [2, 3, 4, 5, 6, 0] rfl)
        · replace h := hm_neg hc h
          refine lv_iconst (v := 1) hx hb d_10_bestMove_86 (by decide) ?_
          refine lv_goto (tgt := 91) hx hb d_10_bestMove_87 (by decide) ?_
          exact bk_10_bestMove_91 cx hr hlk k12 h hw hL (lv_sub hl [2, 3, 4, 5, 6, 0] rfl)
      · replace h := hm_pos hc h
        refine lv_iload hx hb d_10_bestMove_66 (lv_at hl 0 rfl) ?_
        refine lv_iload_n hx hb d_10_bestMove_68 rfl (lv_at hl 5 rfl) ?_
        refine lv_icmp_ge (tgt := 76) hx hb d_10_bestMove_69 (by decide) (fun hc => ?_) (fun hc => ?_)
        · replace h := hm_pos hc h
          refine lv_iconst (v := 0) hx hb d_10_bestMove_76 (by decide) ?_
          refine lv_goto (tgt := 91) hx hb d_10_bestMove_77 (by decide) ?_
          exact bk_10_bestMove_91 cx hr hlk k12 h hw hL (lv_sub hl [2, 3, 4, 5, 6, 0] rfl)
        · replace h := hm_neg hc h
          refine lv_iconst (v := 1) hx hb d_10_bestMove_72 (by decide) ?_
          refine lv_goto (tgt := 91) hx hb d_10_bestMove_73 (by decide) ?_
          exact bk_10_bestMove_91 cx hr hlk k12 h hw hL (lv_sub hl [2, 3, 4, 5, 6, 0] rfl)
    · replace h := hm_neg hc h
      refine lv_goto (tgt := 109) hx hb d_10_bestMove_48 (by decide) ?_
      exact bk_10_bestMove_109 cx hr hlk k12 h hw hL (lv_sub hl [1, 2, 3, 4, 5] rfl)
def wl_10_bestMove_12 (Q : Int32 → hm_S → hm_T → Prop) : Nat → Int32 → Int32 → Int32 → Int32 → hm_S → hm_T → Prop
  | 0, _, _, _, _, _, _ => False
  | f + 1, x1, x2, x3, x4, S, T => wb_10_bestMove_12 Q (wl_10_bestMove_12 Q f) x1 x2 x3 x4 S T
theorem lp_10_bestMove_12 {Q : Int32 → hm_S → hm_T → Prop} (cx : hm_cx G p s m args c prog_1_method_33_code 8 "HeapGames") (hr : meth.sig.returnType = some .int) (hlk : meth.locks = false) : ∀ (f : Nat) (x1 : Int32) (x2 : Int32) (x3 : Int32) (x4 : Int32) (S : hm_S) (T : hm_T) (H : Heap) (locs : List Loc) (ls : Array Slot), wl_10_bestMove_12 Q f x1 x2 x3 x4 S T → hm_w G H0 o 74 shX S T H → hm_L o 74 locs → lv_has ls 8 [(0, .ref (o + 0)), (1, .int x1), (2, .int x2), (3, .int x3), (4, .int x4)] → W p l e rm_10_bestMove s m args below meth c H locs 0 0 (MQ below (hm_Qi G H0 o 74 shX Q) args s 0 0 (t_fr o (o + 74))) (F0 m 12 ls []) := by
  intro f
  induction f with
  | zero => intro x1 x2 x3 x4 S T H locs ls h; exact h.elim
  | succ f ih => intro x1 x2 x3 x4 S T H locs ls h hw hL hl; exact bk_10_bestMove_12 cx hr hlk ih h hw hL hl
def wp_10_bestMove (S : hm_S) (T : hm_T) (Q : Int32 → hm_S → hm_T → Prop) : Prop :=
  wp_10_goodOutcome S T (fun r1 S1 T1 => ∃ f, wl_10_bestMove_12 Q f r1 (-1) (-1) 0 S1 T1)
set_option maxHeartbeats 4000000 in
set_option maxRecDepth 20000 in
theorem bk_10_bestMove_0 {Q : Int32 → hm_S → hm_T → Prop} (cx : hm_cx G p s m args c prog_1_method_33_code 8 "HeapGames") (hr : meth.sig.returnType = some .int) (hlk : meth.locks = false) {S : hm_S} {T : hm_T} {H : Heap} {locs : List Loc} {ls : Array Slot} (h : wp_10_bestMove S T Q) (hw : hm_w G H0 o 74 shX S T H) (hL : hm_L o 74 locs) (hl : lv_has ls 8 [(0, .ref (o + 0))]) : W p l e rm_10_bestMove s m args below meth c H locs 0 0 (MQ below (hm_Qi G H0 o 74 shX Q) args s 0 0 (t_fr o (o + 74))) (F0 m 0 ls []) := by
  have hx := cx.1.1
  have hb := cx.1.2.1
  unfold wp_10_bestMove at h
  refine lv_aload_n hx hb d_10_bestMove_0 rfl (lv_at hl 0 rfl) ?_
  refine hm_calli (hm_rV (i := 0) (As := []) (rest := []) cx hw (ct_10_goodOutcome h) (mw_10_242 cx.1.2.2.2.2 ⟨Nat.le_of_ble_eq_true rfl, Nat.le_of_ble_eq_true rfl⟩) (by decide) sx_0 rfl rfl hl.1 rfl (Nat.le_of_ble_eq_true rfl) d_10_bestMove_1 ⟨Nat.zero_le _, Nat.zero_le _⟩) hL (fun r1 S1 T1 H locs h hw hL => ?_)
  refine lv_istore_n (lv' := [(1, .int r1), (0, .ref (o + 0))]) hx hb d_10_bestMove_4 rfl hl (by decide) rfl (fun ls hl => ?_)
  refine lv_iconst (v := (-1)) hx hb d_10_bestMove_5 (by decide) ?_
  refine lv_istore_n (lv' := [(2, .int (-1)), (1, .int r1), (0, .ref (o + 0))]) hx hb d_10_bestMove_6 rfl hl (by decide) rfl (fun ls hl => ?_)
  refine lv_iconst (v := (-1)) hx hb d_10_bestMove_7 (by decide) ?_
  refine lv_istore_n (lv' := [(3, .int (-1)), (2, .int (-1)), (1, .int r1), (0, .ref (o + 0))]) hx hb d_10_bestMove_8 rfl hl (by decide) rfl (fun ls hl => ?_)
  refine lv_iconst (v := 0) hx hb d_10_bestMove_9 (by decide) ?_
  refine lv_istore (lv' := [(4, .int 0), (3, .int (-1)), (2, .int (-1)), (1, .int r1), (0, .ref (o + 0))]) hx hb d_10_bestMove_10 hl (by decide) rfl (fun ls hl => ?_)
  obtain ⟨f, h⟩ := h
  exact lp_10_bestMove_12 cx hr hlk f _ _ _ _ _ _ _ _ _ h hw hL (lv_sub hl [4, 3, 2, 1, 0] rfl)
set_option maxHeartbeats 4000000 in
set_option maxRecDepth 20000 in
theorem ct_10_bestMove {S : hm_S} {T : hm_T} {Q : Int32 → hm_S → hm_T → Prop} (h : wp_10_bestMove S T Q) : hm_M l G H0 o 74 shX y_10_bestMove prog_1_method_33_code 8 (some .int) rm_10_bestMove S T [.ref (o + 0)] (hm_Qi G H0 o 74 shX Q) := by
  refine Met.ofW (cc := prog_1_method_33_code) (maxL := 8) (ret := some .int) (by decide) rfl ?_
  intro p e s m args below meth c s₁ B hml hv
  obtain ⟨rfl, hK, hw⟩ := hv
  have cx : hm_cx G p s m _ c prog_1_method_33_code 8 "HeapGames" := ⟨⟨B.exec, B.bytes, hml, findClass_of_methodNamed B.named, fun w hq => atoms_spec (ws := hm_ws y_10_bestMove prog_1_method_33_code 8 (some .int)) B.pre w (List.mem_cons_of_mem _ hq)⟩, hK⟩
  have hl := lv_entry ([.ref (o + 0)]) (n := 8) (Nat.le_of_ble_eq_true rfl)
  rw [lg_entry_eq]
  generalize (lg_sl ([.ref (o + 0)]) ++ List.replicate (8 - (lg_sl ([.ref (o + 0)])).length) Slot.unset).toArray = ls at hl ⊢
  have hl : lv_has ls 8 [(0, .ref (o + 0))] := hl
  exact bk_10_bestMove_0 cx B.returns B.notSynchronized h hw (hm_L0 _ _) hl
/-! ===== HeapGames.best()I ===== -/
theorem d_10_best_0 : decode prog_1_method_24_code 0 = .ok (.aload_n 0, 1) := by decide +kernel
theorem d_10_best_1 : decode prog_1_method_24_code 1 = .ok (.invokevirtual 187, 3) := by decide +kernel
theorem d_10_best_4 : decode prog_1_method_24_code 4 = .ok (.aload_n 0, 1) := by decide +kernel
theorem d_10_best_5 : decode prog_1_method_24_code 5 = .ok (.invokevirtual 226, 3) := by decide +kernel
theorem d_10_best_8 : decode prog_1_method_24_code 8 = .ok (.ireturn, 1) := by decide +kernel
def wp_10_best (S : hm_S) (T : hm_T) (Q : Int32 → hm_S → hm_T → Prop) : Prop :=
  wp_10_learnHere S T (fun S1 T1 => wp_10_bestMove S1 T1 (fun r2 S2 T2 => Q r2 S2 T2))
set_option maxHeartbeats 4000000 in
set_option maxRecDepth 20000 in
theorem bk_10_best_0 {Q : Int32 → hm_S → hm_T → Prop} (cx : hm_cx G p s m args c prog_1_method_24_code 1 "HeapGames") (hr : meth.sig.returnType = some .int) (hlk : meth.locks = false) {S : hm_S} {T : hm_T} {H : Heap} {locs : List Loc} {ls : Array Slot} (h : wp_10_best S T Q) (hw : hm_w G H0 o 74 shX S T H) (hL : hm_L o 74 locs) (hl : lv_has ls 1 [(0, .ref (o + 0))]) : W p l e rm_10_best s m args below meth c H locs 0 0 (MQ below (hm_Qi G H0 o 74 shX Q) args s 0 0 (t_fr o (o + 74))) (F0 m 0 ls []) := by
  have hx := cx.1.1
  have hb := cx.1.2.1
  unfold wp_10_best at h
  refine lv_aload_n hx hb d_10_best_0 rfl (lv_at hl 0 rfl) ?_
  refine hm_callv (hm_rV (i := 0) (As := []) (rest := []) cx hw (ct_10_learnHere h) (mw_10_187 cx.1.2.2.2.2 ⟨Nat.le_of_ble_eq_true rfl, Nat.le_of_ble_eq_true rfl⟩) (by decide) sx_0 rfl rfl hl.1 rfl (Nat.le_of_ble_eq_true rfl) d_10_best_1 ⟨Nat.zero_le _, Nat.zero_le _⟩) hL (fun S1 T1 H locs h hw hL => ?_)
  refine lv_aload_n hx hb d_10_best_4 rfl (lv_at hl 0 rfl) ?_
  refine hm_calli (hm_rV (i := 0) (As := []) (rest := []) cx hw (ct_10_bestMove h) (mw_10_226 cx.1.2.2.2.2 ⟨Nat.le_of_ble_eq_true rfl, Nat.le_of_ble_eq_true rfl⟩) (by decide) sx_0 rfl rfl hl.1 rfl (Nat.le_of_ble_eq_true rfl) d_10_best_5 ⟨Nat.zero_le _, Nat.zero_le _⟩) hL (fun r2 S2 T2 H locs h hw hL => ?_)
  exact W.iret hx hb hr (fun t ht _ => ⟨_, _, _, rfl, h, by rw [ht]; exact hw⟩) hL d_10_best_8
set_option maxHeartbeats 4000000 in
set_option maxRecDepth 20000 in
theorem ct_10_best {S : hm_S} {T : hm_T} {Q : Int32 → hm_S → hm_T → Prop} (h : wp_10_best S T Q) : hm_M l G H0 o 74 shX y_10_best prog_1_method_24_code 1 (some .int) rm_10_best S T [.ref (o + 0)] (hm_Qi G H0 o 74 shX Q) := by
  refine Met.ofW (cc := prog_1_method_24_code) (maxL := 1) (ret := some .int) (by decide) rfl ?_
  intro p e s m args below meth c s₁ B hml hv
  obtain ⟨rfl, hK, hw⟩ := hv
  have cx : hm_cx G p s m _ c prog_1_method_24_code 1 "HeapGames" := ⟨⟨B.exec, B.bytes, hml, findClass_of_methodNamed B.named, fun w hq => atoms_spec (ws := hm_ws y_10_best prog_1_method_24_code 1 (some .int)) B.pre w (List.mem_cons_of_mem _ hq)⟩, hK⟩
  have hl := lv_entry ([.ref (o + 0)]) (n := 1) (Nat.le_of_ble_eq_true rfl)
  rw [lg_entry_eq]
  generalize (lg_sl ([.ref (o + 0)]) ++ List.replicate (1 - (lg_sl ([.ref (o + 0)])).length) Slot.unset).toArray = ls at hl ⊢
  have hl : lv_has ls 1 [(0, .ref (o + 0))] := hl
  exact bk_10_best_0 cx B.returns B.notSynchronized h hw (hm_L0 _ _) hl
/-! ===== HeapGames.goodMoves()I ===== -/
theorem d_10_goodMoves_0 : decode prog_1_method_32_code 0 = .ok (.aload_n 0, 1) := by decide +kernel
theorem d_10_goodMoves_1 : decode prog_1_method_32_code 1 = .ok (.invokevirtual 242, 3) := by decide +kernel
theorem d_10_goodMoves_4 : decode prog_1_method_32_code 4 = .ok (.istore_n 1, 1) := by decide +kernel
theorem d_10_goodMoves_5 : decode prog_1_method_32_code 5 = .ok (.iconst 0, 1) := by decide +kernel
theorem d_10_goodMoves_6 : decode prog_1_method_32_code 6 = .ok (.istore_n 2, 1) := by decide +kernel
theorem d_10_goodMoves_7 : decode prog_1_method_32_code 7 = .ok (.iconst 0, 1) := by decide +kernel
theorem d_10_goodMoves_8 : decode prog_1_method_32_code 8 = .ok (.istore_n 3, 1) := by decide +kernel
theorem d_10_goodMoves_9 : decode prog_1_method_32_code 9 = .ok (.iload_n 3, 1) := by decide +kernel
theorem d_10_goodMoves_10 : decode prog_1_method_32_code 10 = .ok (.aload_n 0, 1) := by decide +kernel
theorem d_10_goodMoves_11 : decode prog_1_method_32_code 11 = .ok (.getfield 28, 3) := by decide +kernel
theorem d_10_goodMoves_14 : decode prog_1_method_32_code 14 = .ok (.getfield 184, 3) := by decide +kernel
theorem d_10_goodMoves_17 : decode prog_1_method_32_code 17 = .ok (.if_icmp .ge 31, 3) := by decide +kernel
theorem d_10_goodMoves_20 : decode prog_1_method_32_code 20 = .ok (.aload_n 0, 1) := by decide +kernel
theorem d_10_goodMoves_21 : decode prog_1_method_32_code 21 = .ok (.getfield 37, 3) := by decide +kernel
theorem d_10_goodMoves_24 : decode prog_1_method_32_code 24 = .ok (.aload_n 0, 1) := by decide +kernel
theorem d_10_goodMoves_25 : decode prog_1_method_32_code 25 = .ok (.getfield 28, 3) := by decide +kernel
theorem d_10_goodMoves_28 : decode prog_1_method_32_code 28 = .ok (.iload_n 3, 1) := by decide +kernel
theorem d_10_goodMoves_29 : decode prog_1_method_32_code 29 = .ok (.invokevirtual 193, 3) := by decide +kernel
theorem d_10_goodMoves_32 : decode prog_1_method_32_code 32 = .ok (.invokevirtual 217, 3) := by decide +kernel
theorem d_10_goodMoves_35 : decode prog_1_method_32_code 35 = .ok (.iload_n 1, 1) := by decide +kernel
theorem d_10_goodMoves_36 : decode prog_1_method_32_code 36 = .ok (.if_icmp .ne 6, 3) := by decide +kernel
theorem d_10_goodMoves_39 : decode prog_1_method_32_code 39 = .ok (.iinc 2 1, 3) := by decide +kernel
theorem d_10_goodMoves_42 : decode prog_1_method_32_code 42 = .ok (.iinc 3 1, 3) := by decide +kernel
theorem d_10_goodMoves_45 : decode prog_1_method_32_code 45 = .ok (.goto (-36), 3) := by decide +kernel
theorem d_10_goodMoves_48 : decode prog_1_method_32_code 48 = .ok (.iload_n 2, 1) := by decide +kernel
theorem d_10_goodMoves_49 : decode prog_1_method_32_code 49 = .ok (.ireturn, 1) := by decide +kernel
def wb_10_goodMoves_42 (Q : Int32 → hm_S → hm_T → Prop) (K9 : Int32 → Int32 → Int32 → hm_S → hm_T → Prop) (x1 : Int32) (x2 : Int32) (x3 : Int32) (S : hm_S) (T : hm_T) : Prop :=
  K9 x1 x2 (x3 + 1) S T
set_option maxHeartbeats 4000000 in
set_option maxRecDepth 20000 in
theorem bk_10_goodMoves_42 {Q : Int32 → hm_S → hm_T → Prop} {K9 : Int32 → Int32 → Int32 → hm_S → hm_T → Prop} (cx : hm_cx G p s m args c prog_1_method_32_code 4 "HeapGames") (hr : meth.sig.returnType = some .int) (hlk : meth.locks = false) (k9 : ∀ (x1 : Int32) (x2 : Int32) (x3 : Int32) (S : hm_S) (T : hm_T) (H : Heap) (locs : List Loc) (ls : Array Slot), K9 x1 x2 x3 S T → hm_w G H0 o 74 shX S T H → hm_L o 74 locs → lv_has ls 4 [(0, .ref (o + 0)), (1, .int x1), (2, .int x2), (3, .int x3)] → W p l e rm_10_goodMoves s m args below meth c H locs 0 0 (MQ below (hm_Qi G H0 o 74 shX Q) args s 0 0 (t_fr o (o + 74))) (F0 m 9 ls [])) {x1 : Int32} {x2 : Int32} {x3 : Int32} {S : hm_S} {T : hm_T} {H : Heap} {locs : List Loc} {ls : Array Slot} (h : wb_10_goodMoves_42 Q K9 x1 x2 x3 S T) (hw : hm_w G H0 o 74 shX S T H) (hL : hm_L o 74 locs) (hl : lv_has ls 4 [(0, .ref (o + 0)), (1, .int x1), (2, .int x2), (3, .int x3)]) : W p l e rm_10_goodMoves s m args below meth c H locs 0 0 (MQ below (hm_Qi G H0 o 74 shX Q) args s 0 0 (t_fr o (o + 74))) (F0 m 42 ls []) := by
  have hx := cx.1.1
  have hb := cx.1.2.1
  unfold wb_10_goodMoves_42 at h
  refine lv_iinc (v := (x3 + 1)) (lv' := [(3, .int (x3 + 1)), (0, .ref (o + 0)), (1, .int x1), (2, .int x2)]) hx hb d_10_goodMoves_42 hl (k := 3) rfl rfl (by decide) rfl (fun ls hl => ?_)
  refine lv_goto (tgt := 9) hx hb d_10_goodMoves_45 (by decide) ?_
  exact k9 _ _ _ _ _ _ _ _ h hw hL (lv_sub hl [1, 2, 3, 0] rfl)
def wb_10_goodMoves_9 (Q : Int32 → hm_S → hm_T → Prop) (K9 : Int32 → Int32 → Int32 → hm_S → hm_T → Prop) (x1 : Int32) (x2 : Int32) (x3 : Int32) (S : hm_S) (T : hm_T) : Prop :=
  (if (S 19 11) ≤ x3 then Q x2 S T else wp_3_targetOf x3 S T (fun r2 S2 T2 => wp_8_outcomeOf r2 S2 T2 (fun r3 S3 T3 => (if r3 = x1 then wb_10_goodMoves_42 Q K9 x1 (x2 + 1) x3 S3 T3 else wb_10_goodMoves_42 Q K9 x1 x2 x3 S3 T3))))
set_option maxHeartbeats 4000000 in
set_option maxRecDepth 20000 in
theorem bk_10_goodMoves_9 {Q : Int32 → hm_S → hm_T → Prop} {K9 : Int32 → Int32 → Int32 → hm_S → hm_T → Prop} (cx : hm_cx G p s m args c prog_1_method_32_code 4 "HeapGames") (hr : meth.sig.returnType = some .int) (hlk : meth.locks = false) (k9 : ∀ (x1 : Int32) (x2 : Int32) (x3 : Int32) (S : hm_S) (T : hm_T) (H : Heap) (locs : List Loc) (ls : Array Slot), K9 x1 x2 x3 S T → hm_w G H0 o 74 shX S T H → hm_L o 74 locs → lv_has ls 4 [(0, .ref (o + 0)), (1, .int x1), (2, .int x2), (3, .int x3)] → W p l e rm_10_goodMoves s m args below meth c H locs 0 0 (MQ below (hm_Qi G H0 o 74 shX Q) args s 0 0 (t_fr o (o + 74))) (F0 m 9 ls [])) {x1 : Int32} {x2 : Int32} {x3 : Int32} {S : hm_S} {T : hm_T} {H : Heap} {locs : List Loc} {ls : Array Slot} (h : wb_10_goodMoves_9 Q K9 x1 x2 x3 S T) (hw : hm_w G H0 o 74 shX S T H) (hL : hm_L o 74 locs) (hl : lv_has ls 4 [(0, .ref (o + 0)), (1, .int x1), (2, .int x2), (3, .int x3)]) : W p l e rm_10_goodMoves s m args below meth c H locs 0 0 (MQ below (hm_Qi G H0 o 74 shX Q) args s 0 0 (t_fr o (o + 74))) (F0 m 9 ls []) := by
  have hx := cx.1.1
  have hb := cx.1.2.1
  unfold wb_10_goodMoves_9 at h
  refine lv_iload_n hx hb d_10_goodMoves_9 rfl (lv_at hl 3 rfl) ?_
  refine lv_aload_n hx hb d_10_goodMoves_10 rfl (lv_at hl 0 rfl) ?_
  refine gf_10_28 cx hw (i := 0) (r := 19) (by decide) sx_0 rfl d_10_goodMoves_11 ?_
  refine gf_10_184 cx hw (i := 19) (by decide) sx_19 rfl d_10_goodMoves_14 ?_
  refine lv_icmp_ge (tgt := 48) hx hb d_10_goodMoves_17 (by decide) (fun hc => ?_) (fun hc => ?_)
  · replace h := hm_pos hc h
    refine lv_iload_n hx hb d_10_goodMoves_48 rfl (lv_at hl 2 rfl) ?_
    exact W.iret hx hb hr (fun t ht _ => ⟨_, _, _, rfl, h, by rw [ht]; exact hw⟩) hL d_10_goodMoves_49
  · replace h := hm_neg hc h
    refine lv_aload_n hx hb d_10_goodMoves_20 rfl (lv_at hl 0 rfl) ?_
    refine gf_10_37 cx hw (i := 0) (r := 36) (by decide) sx_0 rfl d_10_goodMoves_21 ?_
    refine lv_aload_n hx hb d_10_goodMoves_24 rfl (lv_at hl 0 rfl) ?_
    refine gf_10_28 cx hw (i := 0) (r := 19) (by decide) sx_0 rfl d_10_goodMoves_25 ?_
    refine lv_iload_n hx hb d_10_goodMoves_28 rfl (lv_at hl 3 rfl) ?_
    refine hm_calli (hm_rV (i := 19) (As := [.int x3]) (rest := [.ref (o + 36)]) cx hw (ct_3_targetOf h) (mw_10_193 cx.1.2.2.2.2 ⟨Nat.le_of_ble_eq_true rfl, Nat.le_of_ble_eq_true rfl⟩) (by decide) sx_19 rfl rfl hl.1 rfl (Nat.le_of_ble_eq_true rfl) d_10_goodMoves_29 ⟨Nat.zero_le _, Nat.zero_le _⟩) hL (fun r2 S2 T2 H locs h hw hL => ?_)
    refine hm_calli (hm_rV (i := 36) (As := [.int r2]) (rest := []) cx hw (ct_8_outcomeOf h) (mw_10_217 cx.1.2.2.2.2 ⟨Nat.le_of_ble_eq_true rfl, Nat.le_of_ble_eq_true rfl⟩) (by decide) sx_36 rfl rfl hl.1 rfl (Nat.le_of_ble_eq_true rfl) d_10_goodMoves_32 ⟨Nat.zero_le _, Nat.zero_le _⟩) hL (fun r3 S3 T3 H locs h hw hL => ?_)
    refine lv_iload_n hx hb d_10_goodMoves_35 rfl (lv_at hl 1 rfl) ?_
    refine lv_icmp_ne (tgt := 42) hx hb d_10_goodMoves_36 (by decide) (fun hc => ?_) (fun hc => ?_)
    · replace h := hm_neg hc h
      exact bk_10_goodMoves_42 cx hr hlk k9 h hw hL (lv_sub hl [0, 1, 2, 3] rfl)
    · replace h := hm_pos hc h
      refine lv_iinc (v := (x2 + 1)) (lv' := [(2, .int (x2 + 1)), (0, .ref (o + 0)), (1, .int x1), (3, .int x3)]) hx hb d_10_goodMoves_39 hl (k := 2) rfl rfl (by decide) rfl (fun ls hl => ?_)
      exact bk_10_goodMoves_42 cx hr hlk k9 h hw hL (lv_sub hl [1, 2, 0, 3] rfl)
def wl_10_goodMoves_9 (Q : Int32 → hm_S → hm_T → Prop) : Nat → Int32 → Int32 → Int32 → hm_S → hm_T → Prop
  | 0, _, _, _, _, _ => False
  | f + 1, x1, x2, x3, S, T => wb_10_goodMoves_9 Q (wl_10_goodMoves_9 Q f) x1 x2 x3 S T
theorem lp_10_goodMoves_9 {Q : Int32 → hm_S → hm_T → Prop} (cx : hm_cx G p s m args c prog_1_method_32_code 4 "HeapGames") (hr : meth.sig.returnType = some .int) (hlk : meth.locks = false) : ∀ (f : Nat) (x1 : Int32) (x2 : Int32) (x3 : Int32) (S : hm_S) (T : hm_T) (H : Heap) (locs : List Loc) (ls : Array Slot), wl_10_goodMoves_9 Q f x1 x2 x3 S T → hm_w G H0 o 74 shX S T H → hm_L o 74 locs → lv_has ls 4 [(0, .ref (o + 0)), (1, .int x1), (2, .int x2), (3, .int x3)] → W p l e rm_10_goodMoves s m args below meth c H locs 0 0 (MQ below (hm_Qi G H0 o 74 shX Q) args s 0 0 (t_fr o (o + 74))) (F0 m 9 ls []) := by
  intro f
  induction f with
  | zero => intro x1 x2 x3 S T H locs ls h; exact h.elim
  | succ f ih => intro x1 x2 x3 S T H locs ls h hw hL hl; exact bk_10_goodMoves_9 cx hr hlk ih h hw hL hl
def wp_10_goodMoves (S : hm_S) (T : hm_T) (Q : Int32 → hm_S → hm_T → Prop) : Prop :=
  wp_10_goodOutcome S T (fun r1 S1 T1 => ∃ f, wl_10_goodMoves_9 Q f r1 0 0 S1 T1)
set_option maxHeartbeats 4000000 in
set_option maxRecDepth 20000 in
theorem bk_10_goodMoves_0 {Q : Int32 → hm_S → hm_T → Prop} (cx : hm_cx G p s m args c prog_1_method_32_code 4 "HeapGames") (hr : meth.sig.returnType = some .int) (hlk : meth.locks = false) {S : hm_S} {T : hm_T} {H : Heap} {locs : List Loc} {ls : Array Slot} (h : wp_10_goodMoves S T Q) (hw : hm_w G H0 o 74 shX S T H) (hL : hm_L o 74 locs) (hl : lv_has ls 4 [(0, .ref (o + 0))]) : W p l e rm_10_goodMoves s m args below meth c H locs 0 0 (MQ below (hm_Qi G H0 o 74 shX Q) args s 0 0 (t_fr o (o + 74))) (F0 m 0 ls []) := by
  have hx := cx.1.1
  have hb := cx.1.2.1
  unfold wp_10_goodMoves at h
  refine lv_aload_n hx hb d_10_goodMoves_0 rfl (lv_at hl 0 rfl) ?_
  refine hm_calli (hm_rV (i := 0) (As := []) (rest := []) cx hw (ct_10_goodOutcome h) (mw_10_242 cx.1.2.2.2.2 ⟨Nat.le_of_ble_eq_true rfl, Nat.le_of_ble_eq_true rfl⟩) (by decide) sx_0 rfl rfl hl.1 rfl (Nat.le_of_ble_eq_true rfl) d_10_goodMoves_1 ⟨Nat.zero_le _, Nat.zero_le _⟩) hL (fun r1 S1 T1 H locs h hw hL => ?_)
  refine lv_istore_n (lv' := [(1, .int r1), (0, .ref (o + 0))]) hx hb d_10_goodMoves_4 rfl hl (by decide) rfl (fun ls hl => ?_)
  refine lv_iconst (v := 0) hx hb d_10_goodMoves_5 (by decide) ?_
  refine lv_istore_n (lv' := [(2, .int 0), (1, .int r1), (0, .ref (o + 0))]) hx hb d_10_goodMoves_6 rfl hl (by decide) rfl (fun ls hl => ?_)
  refine lv_iconst (v := 0) hx hb d_10_goodMoves_7 (by decide) ?_
  refine lv_istore_n (lv' := [(3, .int 0), (2, .int 0), (1, .int r1), (0, .ref (o + 0))]) hx hb d_10_goodMoves_8 rfl hl (by decide) rfl (fun ls hl => ?_)
  obtain ⟨f, h⟩ := h
  exact lp_10_goodMoves_9 cx hr hlk f _ _ _ _ _ _ _ _ h hw hL (lv_sub hl [3, 2, 1, 0] rfl)
set_option maxHeartbeats 4000000 in
set_option maxRecDepth 20000 in
theorem ct_10_goodMoves {S : hm_S} {T : hm_T} {Q : Int32 → hm_S → hm_T → Prop} (h : wp_10_goodMoves S T Q) : hm_M l G H0 o 74 shX y_10_goodMoves prog_1_method_32_code 4 (some .int) rm_10_goodMoves S T [.ref (o + 0)] (hm_Qi G H0 o 74 shX Q) := by
  refine Met.ofW (cc := prog_1_method_32_code) (maxL := 4) (ret := some .int) (by decide) rfl ?_
  intro p e s m args below meth c s₁ B hml hv
  obtain ⟨rfl, hK, hw⟩ := hv
  have cx : hm_cx G p s m _ c prog_1_method_32_code 4 "HeapGames" := ⟨⟨B.exec, B.bytes, hml, findClass_of_methodNamed B.named, fun w hq => atoms_spec (ws := hm_ws y_10_goodMoves prog_1_method_32_code 4 (some .int)) B.pre w (List.mem_cons_of_mem _ hq)⟩, hK⟩
  have hl := lv_entry ([.ref (o + 0)]) (n := 4) (Nat.le_of_ble_eq_true rfl)
  rw [lg_entry_eq]
  generalize (lg_sl ([.ref (o + 0)]) ++ List.replicate (4 - (lg_sl ([.ref (o + 0)])).length) Slot.unset).toArray = ls at hl ⊢
  have hl : lv_has ls 4 [(0, .ref (o + 0))] := hl
  exact bk_10_goodMoves_0 cx B.returns B.notSynchronized h hw (hm_L0 _ _) hl
/-! ===== HeapGames.good()I ===== -/
theorem d_10_good_0 : decode prog_1_method_25_code 0 = .ok (.aload_n 0, 1) := by decide +kernel
theorem d_10_good_1 : decode prog_1_method_25_code 1 = .ok (.invokevirtual 187, 3) := by decide +kernel
theorem d_10_good_4 : decode prog_1_method_25_code 4 = .ok (.aload_n 0, 1) := by decide +kernel
theorem d_10_good_5 : decode prog_1_method_25_code 5 = .ok (.invokevirtual 229, 3) := by decide +kernel
theorem d_10_good_8 : decode prog_1_method_25_code 8 = .ok (.ireturn, 1) := by decide +kernel
def wp_10_good (S : hm_S) (T : hm_T) (Q : Int32 → hm_S → hm_T → Prop) : Prop :=
  wp_10_learnHere S T (fun S1 T1 => wp_10_goodMoves S1 T1 (fun r2 S2 T2 => Q r2 S2 T2))
set_option maxHeartbeats 4000000 in
set_option maxRecDepth 20000 in
theorem bk_10_good_0 {Q : Int32 → hm_S → hm_T → Prop} (cx : hm_cx G p s m args c prog_1_method_25_code 1 "HeapGames") (hr : meth.sig.returnType = some .int) (hlk : meth.locks = false) {S : hm_S} {T : hm_T} {H : Heap} {locs : List Loc} {ls : Array Slot} (h : wp_10_good S T Q) (hw : hm_w G H0 o 74 shX S T H) (hL : hm_L o 74 locs) (hl : lv_has ls 1 [(0, .ref (o + 0))]) : W p l e rm_10_good s m args below meth c H locs 0 0 (MQ below (hm_Qi G H0 o 74 shX Q) args s 0 0 (t_fr o (o + 74))) (F0 m 0 ls []) := by
  have hx := cx.1.1
  have hb := cx.1.2.1
  unfold wp_10_good at h
  refine lv_aload_n hx hb d_10_good_0 rfl (lv_at hl 0 rfl) ?_
  refine hm_callv (hm_rV (i := 0) (As := []) (rest := []) cx hw (ct_10_learnHere h) (mw_10_187 cx.1.2.2.2.2 ⟨Nat.le_of_ble_eq_true rfl, Nat.le_of_ble_eq_true rfl⟩) (by decide) sx_0 rfl rfl hl.1 rfl (Nat.le_of_ble_eq_true rfl) d_10_good_1 ⟨Nat.zero_le _, Nat.zero_le _⟩) hL (fun S1 T1 H locs h hw hL => ?_)
  refine lv_aload_n hx hb d_10_good_4 rfl (lv_at hl 0 rfl) ?_
  refine hm_calli (hm_rV (i := 0) (As := []) (rest := []) cx hw (ct_10_goodMoves h) (mw_10_229 cx.1.2.2.2.2 ⟨Nat.le_of_ble_eq_true rfl, Nat.le_of_ble_eq_true rfl⟩) (by decide) sx_0 rfl rfl hl.1 rfl (Nat.le_of_ble_eq_true rfl) d_10_good_5 ⟨Nat.zero_le _, Nat.zero_le _⟩) hL (fun r2 S2 T2 H locs h hw hL => ?_)
  exact W.iret hx hb hr (fun t ht _ => ⟨_, _, _, rfl, h, by rw [ht]; exact hw⟩) hL d_10_good_8
set_option maxHeartbeats 4000000 in
set_option maxRecDepth 20000 in
theorem ct_10_good {S : hm_S} {T : hm_T} {Q : Int32 → hm_S → hm_T → Prop} (h : wp_10_good S T Q) : hm_M l G H0 o 74 shX y_10_good prog_1_method_25_code 1 (some .int) rm_10_good S T [.ref (o + 0)] (hm_Qi G H0 o 74 shX Q) := by
  refine Met.ofW (cc := prog_1_method_25_code) (maxL := 1) (ret := some .int) (by decide) rfl ?_
  intro p e s m args below meth c s₁ B hml hv
  obtain ⟨rfl, hK, hw⟩ := hv
  have cx : hm_cx G p s m _ c prog_1_method_25_code 1 "HeapGames" := ⟨⟨B.exec, B.bytes, hml, findClass_of_methodNamed B.named, fun w hq => atoms_spec (ws := hm_ws y_10_good prog_1_method_25_code 1 (some .int)) B.pre w (List.mem_cons_of_mem _ hq)⟩, hK⟩
  have hl := lv_entry ([.ref (o + 0)]) (n := 1) (Nat.le_of_ble_eq_true rfl)
  rw [lg_entry_eq]
  generalize (lg_sl ([.ref (o + 0)]) ++ List.replicate (1 - (lg_sl ([.ref (o + 0)])).length) Slot.unset).toArray = ls at hl ⊢
  have hl : lv_has ls 1 [(0, .ref (o + 0))] := hl
  exact bk_10_good_0 cx B.returns B.notSynchronized h hw (hm_L0 _ _) hl
/-! ===== HeapGames.playOut(I)I ===== -/
theorem d_10_playOut_0 : decode prog_1_method_26_code 0 = .ok (.iload_n 1, 1) := by decide +kernel
theorem d_10_playOut_1 : decode prog_1_method_26_code 1 = .ok (.iconst 1, 1) := by decide +kernel
theorem d_10_playOut_2 : decode prog_1_method_26_code 2 = .ok (.if_icmp .lt 9, 3) := by decide +kernel
theorem d_10_playOut_5 : decode prog_1_method_26_code 5 = .ok (.iload_n 1, 1) := by decide +kernel
theorem d_10_playOut_6 : decode prog_1_method_26_code 6 = .ok (.bipush 40, 2) := by decide +kernel
theorem d_10_playOut_8 : decode prog_1_method_26_code 8 = .ok (.if_icmp .le 6, 3) := by decide +kernel
theorem d_10_playOut_11 : decode prog_1_method_26_code 11 = .ok (.bipush (-2), 2) := by decide +kernel
theorem d_10_playOut_13 : decode prog_1_method_26_code 13 = .ok (.ireturn, 1) := by decide +kernel
theorem d_10_playOut_14 : decode prog_1_method_26_code 14 = .ok (.iconst 0, 1) := by decide +kernel
theorem d_10_playOut_15 : decode prog_1_method_26_code 15 = .ok (.istore_n 2, 1) := by decide +kernel
theorem d_10_playOut_16 : decode prog_1_method_26_code 16 = .ok (.iload_n 2, 1) := by decide +kernel
theorem d_10_playOut_17 : decode prog_1_method_26_code 17 = .ok (.iload_n 1, 1) := by decide +kernel
theorem d_10_playOut_18 : decode prog_1_method_26_code 18 = .ok (.if_icmp .ge 37, 3) := by decide +kernel
theorem d_10_playOut_21 : decode prog_1_method_26_code 21 = .ok (.aload_n 0, 1) := by decide +kernel
theorem d_10_playOut_22 : decode prog_1_method_26_code 22 = .ok (.invokevirtual 187, 3) := by decide +kernel
theorem d_10_playOut_25 : decode prog_1_method_26_code 25 = .ok (.aload_n 0, 1) := by decide +kernel
theorem d_10_playOut_26 : decode prog_1_method_26_code 26 = .ok (.invokevirtual 226, 3) := by decide +kernel
theorem d_10_playOut_29 : decode prog_1_method_26_code 29 = .ok (.istore_n 3, 1) := by decide +kernel
theorem d_10_playOut_30 : decode prog_1_method_26_code 30 = .ok (.iload_n 3, 1) := by decide +kernel
theorem d_10_playOut_31 : decode prog_1_method_26_code 31 = .ok (.iconst (-1), 1) := by decide +kernel
theorem d_10_playOut_32 : decode prog_1_method_26_code 32 = .ok (.if_icmp .ne 5, 3) := by decide +kernel
theorem d_10_playOut_35 : decode prog_1_method_26_code 35 = .ok (.iload_n 2, 1) := by decide +kernel
theorem d_10_playOut_36 : decode prog_1_method_26_code 36 = .ok (.ireturn, 1) := by decide +kernel
theorem d_10_playOut_37 : decode prog_1_method_26_code 37 = .ok (.aload_n 0, 1) := by decide +kernel
theorem d_10_playOut_38 : decode prog_1_method_26_code 38 = .ok (.aload_n 0, 1) := by decide +kernel
theorem d_10_playOut_39 : decode prog_1_method_26_code 39 = .ok (.getfield 28, 3) := by decide +kernel
theorem d_10_playOut_42 : decode prog_1_method_26_code 42 = .ok (.iload_n 3, 1) := by decide +kernel
theorem d_10_playOut_43 : decode prog_1_method_26_code 43 = .ok (.invokevirtual 193, 3) := by decide +kernel
theorem d_10_playOut_46 : decode prog_1_method_26_code 46 = .ok (.invokevirtual 143, 3) := by decide +kernel
theorem d_10_playOut_49 : decode prog_1_method_26_code 49 = .ok (.iinc 2 1, 3) := by decide +kernel
theorem d_10_playOut_52 : decode prog_1_method_26_code 52 = .ok (.goto (-36), 3) := by decide +kernel
theorem d_10_playOut_55 : decode prog_1_method_26_code 55 = .ok (.iload_n 1, 1) := by decide +kernel
theorem d_10_playOut_56 : decode prog_1_method_26_code 56 = .ok (.ireturn, 1) := by decide +kernel
def wb_10_playOut_16 (Q : Int32 → hm_S → hm_T → Prop) (K16 : Int32 → Int32 → hm_S → hm_T → Prop) (x1 : Int32) (x2 : Int32) (S : hm_S) (T : hm_T) : Prop :=
  (if x1 ≤ x2 then Q x1 S T else wp_10_learnHere S T (fun S1 T1 => wp_10_bestMove S1 T1 (fun r2 S2 T2 => (if r2 = (-1) then Q x2 S2 T2 else wp_3_targetOf r2 S2 T2 (fun r3 S3 T3 => wp_10_goTo r3 S3 T3 (fun S4 T4 => K16 x1 (x2 + 1) S4 T4))))))
set_option maxHeartbeats 4000000 in
set_option maxRecDepth 20000 in
theorem bk_10_playOut_16 {Q : Int32 → hm_S → hm_T → Prop} {K16 : Int32 → Int32 → hm_S → hm_T → Prop} (cx : hm_cx G p s m args c prog_1_method_26_code 4 "HeapGames") (hr : meth.sig.returnType = some .int) (hlk : meth.locks = false) (k16 : ∀ (x1 : Int32) (x2 : Int32) (S : hm_S) (T : hm_T) (H : Heap) (locs : List Loc) (ls : Array Slot), K16 x1 x2 S T → hm_w G H0 o 74 shX S T H → hm_L o 74 locs → lv_has ls 4 [(0, .ref (o + 0)), (1, .int x1), (2, .int x2)] → W p l e rm_10_playOut s m args below meth c H locs 0 0 (MQ below (hm_Qi G H0 o 74 shX Q) args s 0 0 (t_fr o (o + 74))) (F0 m 16 ls [])) {x1 : Int32} {x2 : Int32} {S : hm_S} {T : hm_T} {H : Heap} {locs : List Loc} {ls : Array Slot} (h : wb_10_playOut_16 Q K16 x1 x2 S T) (hw : hm_w G H0 o 74 shX S T H) (hL : hm_L o 74 locs) (hl : lv_has ls 4 [(0, .ref (o + 0)), (1, .int x1), (2, .int x2)]) : W p l e rm_10_playOut s m args below meth c H locs 0 0 (MQ below (hm_Qi G H0 o 74 shX Q) args s 0 0 (t_fr o (o + 74))) (F0 m 16 ls []) := by
  have hx := cx.1.1
  have hb := cx.1.2.1
  unfold wb_10_playOut_16 at h
  refine lv_iload_n hx hb d_10_playOut_16 rfl (lv_at hl 2 rfl) ?_
  refine lv_iload_n hx hb d_10_playOut_17 rfl (lv_at hl 1 rfl) ?_
  refine lv_icmp_ge (tgt := 55) hx hb d_10_playOut_18 (by decide) (fun hc => ?_) (fun hc => ?_)
  · replace h := hm_pos hc h
    refine lv_iload_n hx hb d_10_playOut_55 rfl (lv_at hl 1 rfl) ?_
    exact W.iret hx hb hr (fun t ht _ => ⟨_, _, _, rfl, h, by rw [ht]; exact hw⟩) hL d_10_playOut_56
  · replace h := hm_neg hc h
    refine lv_aload_n hx hb d_10_playOut_21 rfl (lv_at hl 0 rfl) ?_
    refine hm_callv (hm_rV (i := 0) (As := []) (rest := []) cx hw (ct_10_learnHere h) (mw_10_187 cx.1.2.2.2.2 ⟨Nat.le_of_ble_eq_true rfl, Nat.le_of_ble_eq_true rfl⟩) (by decide) sx_0 rfl rfl hl.1 rfl (Nat.le_of_ble_eq_true rfl) d_10_playOut_22 ⟨Nat.zero_le _, Nat.zero_le _⟩) hL (fun S1 T1 H locs h hw hL => ?_)
    refine lv_aload_n hx hb d_10_playOut_25 rfl (lv_at hl 0 rfl) ?_
    refine hm_calli (hm_rV (i := 0) (As := []) (rest := []) cx hw (ct_10_bestMove h) (mw_10_226 cx.1.2.2.2.2 ⟨Nat.le_of_ble_eq_true rfl, Nat.le_of_ble_eq_true rfl⟩) (by decide) sx_0 rfl rfl hl.1 rfl (Nat.le_of_ble_eq_true rfl) d_10_playOut_26 ⟨Nat.zero_le _, Nat.zero_le _⟩) hL (fun r2 S2 T2 H locs h hw hL => ?_)
    refine lv_istore_n (lv' := [(3, .int r2), (0, .ref (o + 0)), (1, .int x1), (2, .int x2)]) hx hb d_10_playOut_29 rfl hl (by decide) rfl (fun ls hl => ?_)
    refine lv_iload_n hx hb d_10_playOut_30 rfl (lv_at hl 0 rfl) ?_
    refine lv_iconst (v := (-1)) hx hb d_10_playOut_31 (by decide) ?_
    refine lv_icmp_ne (tgt := 37) hx hb d_10_playOut_32 (by decide) (fun hc => ?_) (fun hc => ?_)
    · replace h := hm_neg hc h
      refine lv_aload_n hx hb d_10_playOut_37 rfl (lv_at hl 1 rfl) ?_
      refine lv_aload_n hx hb d_10_playOut_38 rfl (lv_at hl 1 rfl) ?_
      refine gf_10_28 cx hw (i := 0) (r := 19) (by decide) sx_0 rfl d_10_playOut_39 ?_
      refine lv_iload_n hx hb d_10_playOut_42 rfl (lv_at hl 0 rfl) ?_
      refine hm_calli (hm_rV (i := 19) (As := [.int r2]) (rest := [.ref (o + 0)]) cx hw (ct_3_targetOf h) (mw_10_193 cx.1.2.2.2.2 ⟨Nat.le_of_ble_eq_true rfl, Nat.le_of_ble_eq_true rfl⟩) (by decide) sx_19 rfl rfl hl.1 rfl (Nat.le_of_ble_eq_true rfl) d_10_playOut_43 ⟨Nat.zero_le _, Nat.zero_le _⟩) hL (fun r3 S3 T3 H locs h hw hL => ?_)
      refine hm_callv (hm_rV (i := 0) (As := [.int r3]) (rest := []) cx hw (ct_10_goTo h) (mw_10_143 cx.1.2.2.2.2 ⟨Nat.le_of_ble_eq_true rfl, Nat.le_of_ble_eq_true rfl⟩) (by decide) sx_0 rfl rfl hl.1 rfl (Nat.le_of_ble_eq_true rfl) d_10_playOut_46 ⟨Nat.zero_le _, Nat.zero_le _⟩) hL (fun S4 T4 H locs h hw hL => ?_)
      refine lv_iinc (v := (x2 + 1)) (lv' := [(2, .int (x2 + 1)), (3, .int r2), (0, .ref (o + 0)), (1, .int x1)]) hx hb d_10_playOut_49 hl (k := 3) rfl rfl (by decide) rfl (fun ls hl => ?_)
      refine lv_goto (tgt := 16) hx hb d_10_playOut_52 (by decide) ?_
      exact k16 _ _ _ _ _ _ _ h hw hL (lv_sub hl [2, 3, 0] rfl)
    · replace h := hm_pos hc h
      refine lv_iload_n hx hb d_10_playOut_35 rfl (lv_at hl 3 rfl) ?_
      exact W.iret hx hb hr (fun t ht _ => ⟨_, _, _, rfl, h, by rw [ht]; exact hw⟩) hL d_10_playOut_36
def wl_10_playOut_16 (Q : Int32 → hm_S → hm_T → Prop) : Nat → Int32 → Int32 → hm_S → hm_T → Prop
  | 0, _, _, _, _ => False
  | f + 1, x1, x2, S, T => wb_10_playOut_16 Q (wl_10_playOut_16 Q f) x1 x2 S T
theorem lp_10_playOut_16 {Q : Int32 → hm_S → hm_T → Prop} (cx : hm_cx G p s m args c prog_1_method_26_code 4 "HeapGames") (hr : meth.sig.returnType = some .int) (hlk : meth.locks = false) : ∀ (f : Nat) (x1 : Int32) (x2 : Int32) (S : hm_S) (T : hm_T) (H : Heap) (locs : List Loc) (ls : Array Slot), wl_10_playOut_16 Q f x1 x2 S T → hm_w G H0 o 74 shX S T H → hm_L o 74 locs → lv_has ls 4 [(0, .ref (o + 0)), (1, .int x1), (2, .int x2)] → W p l e rm_10_playOut s m args below meth c H locs 0 0 (MQ below (hm_Qi G H0 o 74 shX Q) args s 0 0 (t_fr o (o + 74))) (F0 m 16 ls []) := by
  intro f
  induction f with
  | zero => intro x1 x2 S T H locs ls h; exact h.elim
  | succ f ih => intro x1 x2 S T H locs ls h hw hL hl; exact bk_10_playOut_16 cx hr hlk ih h hw hL hl
def wp_10_playOut (x1 : Int32) (S : hm_S) (T : hm_T) (Q : Int32 → hm_S → hm_T → Prop) : Prop :=
  (if x1 < 1 then Q (-2) S T else (if x1 ≤ 40 then ∃ f, wl_10_playOut_16 Q f x1 0 S T else Q (-2) S T))
set_option maxHeartbeats 4000000 in
set_option maxRecDepth 20000 in
theorem bk_10_playOut_0 {Q : Int32 → hm_S → hm_T → Prop} (cx : hm_cx G p s m args c prog_1_method_26_code 4 "HeapGames") (hr : meth.sig.returnType = some .int) (hlk : meth.locks = false) {x1 : Int32} {S : hm_S} {T : hm_T} {H : Heap} {locs : List Loc} {ls : Array Slot} (h : wp_10_playOut x1 S T Q) (hw : hm_w G H0 o 74 shX S T H) (hL : hm_L o 74 locs) (hl : lv_has ls 4 [(0, .ref (o + 0)), (1, .int x1)]) : W p l e rm_10_playOut s m args below meth c H locs 0 0 (MQ below (hm_Qi G H0 o 74 shX Q) args s 0 0 (t_fr o (o + 74))) (F0 m 0 ls []) := by
  have hx := cx.1.1
  have hb := cx.1.2.1
  unfold wp_10_playOut at h
  refine lv_iload_n hx hb d_10_playOut_0 rfl (lv_at hl 1 rfl) ?_
  refine lv_iconst (v := 1) hx hb d_10_playOut_1 (by decide) ?_
  refine lv_icmp_lt (tgt := 11) hx hb d_10_playOut_2 (by decide) (fun hc => ?_) (fun hc => ?_)
  · replace h := hm_pos hc h
    refine lv_bipush (v := (-2)) hx hb d_10_playOut_11 (by decide) ?_
    exact W.iret hx hb hr (fun t ht _ => ⟨_, _, _, rfl, h, by rw [ht]; exact hw⟩) hL d_10_playOut_13
  · replace h := hm_neg hc h
    refine lv_iload_n hx hb d_10_playOut_5 rfl (lv_at hl 1 rfl) ?_
    refine lv_bipush (v := 40) hx hb d_10_playOut_6 (by decide) ?_
    refine lv_icmp_le (tgt := 14) hx hb d_10_playOut_8 (by decide) (fun hc => ?_) (fun hc => ?_)
    · replace h := hm_pos hc h
      refine lv_iconst (v := 0) hx hb d_10_playOut_14 (by decide) ?_
      refine lv_istore_n (lv' := [(2, .int 0), (0, .ref (o + 0)), (1, .int x1)]) hx hb d_10_playOut_15 rfl hl (by decide) rfl (fun ls hl => ?_)
      obtain ⟨f, h⟩ := h
      exact lp_10_playOut_16 cx hr hlk f _ _ _ _ _ _ _ h hw hL (lv_sub hl [1, 2, 0] rfl)
    · replace h := hm_neg hc h
      refine lv_bipush (v := (-2)) hx hb d_10_playOut_11 (by decide) ?_
      exact W.iret hx hb hr (fun t ht _ => ⟨_, _, _, rfl, h, by rw [ht]; exact hw⟩) hL d_10_playOut_13
set_option maxHeartbeats 4000000 in
set_option maxRecDepth 20000 in
theorem ct_10_playOut {x1 : Int32} {S : hm_S} {T : hm_T} {Q : Int32 → hm_S → hm_T → Prop} (h : wp_10_playOut x1 S T Q) : hm_M l G H0 o 74 shX y_10_playOut prog_1_method_26_code 4 (some .int) rm_10_playOut S T [.ref (o + 0), .int x1] (hm_Qi G H0 o 74 shX Q) := by
  refine Met.ofW (cc := prog_1_method_26_code) (maxL := 4) (ret := some .int) (by decide) rfl ?_
  intro p e s m args below meth c s₁ B hml hv
  obtain ⟨rfl, hK, hw⟩ := hv
  have cx : hm_cx G p s m _ c prog_1_method_26_code 4 "HeapGames" := ⟨⟨B.exec, B.bytes, hml, findClass_of_methodNamed B.named, fun w hq => atoms_spec (ws := hm_ws y_10_playOut prog_1_method_26_code 4 (some .int)) B.pre w (List.mem_cons_of_mem _ hq)⟩, hK⟩
  have hl := lv_entry ([.ref (o + 0), .int x1]) (n := 4) (Nat.le_of_ble_eq_true rfl)
  rw [lg_entry_eq]
  generalize (lg_sl ([.ref (o + 0), .int x1]) ++ List.replicate (4 - (lg_sl ([.ref (o + 0), .int x1])).length) Slot.unset).toArray = ls at hl ⊢
  have hl : lv_has ls 4 [(0, .ref (o + 0)), (1, .int x1)] := hl
  exact bk_10_playOut_0 cx B.returns B.notSynchronized h hw (hm_L0 _ _) hl
/-! ===== HeapGames.outcomeWith(Z)I ===== -/
theorem d_10_outcomeWith_0 : decode prog_1_method_27_code 0 = .ok (.aload_n 0, 1) := by decide +kernel
theorem d_10_outcomeWith_1 : decode prog_1_method_27_code 1 = .ok (.getfield 80, 3) := by decide +kernel
theorem d_10_outcomeWith_4 : decode prog_1_method_27_code 4 = .ok (.invokestatic 124, 3) := by decide +kernel
theorem d_10_outcomeWith_7 : decode prog_1_method_27_code 7 = .ok (.iload_n 1, 1) := by decide +kernel
theorem d_10_outcomeWith_8 : decode prog_1_method_27_code 8 = .ok (.ifCond .eq 7, 3) := by decide +kernel
theorem d_10_outcomeWith_11 : decode prog_1_method_27_code 11 = .ok (.iconst 1, 1) := by decide +kernel
theorem d_10_outcomeWith_12 : decode prog_1_method_27_code 12 = .ok (.goto 4, 3) := by decide +kernel
theorem d_10_outcomeWith_15 : decode prog_1_method_27_code 15 = .ok (.iconst 0, 1) := by decide +kernel
theorem d_10_outcomeWith_16 : decode prog_1_method_27_code 16 = .ok (.invokestatic 140, 3) := by decide +kernel
theorem d_10_outcomeWith_19 : decode prog_1_method_27_code 19 = .ok (.istore_n 2, 1) := by decide +kernel
theorem d_10_outcomeWith_20 : decode prog_1_method_27_code 20 = .ok (.aload_n 0, 1) := by decide +kernel
theorem d_10_outcomeWith_21 : decode prog_1_method_27_code 21 = .ok (.iload_n 2, 1) := by decide +kernel
theorem d_10_outcomeWith_22 : decode prog_1_method_27_code 22 = .ok (.invokevirtual 223, 3) := by decide +kernel
theorem d_10_outcomeWith_25 : decode prog_1_method_27_code 25 = .ok (.aload_n 0, 1) := by decide +kernel
theorem d_10_outcomeWith_26 : decode prog_1_method_27_code 26 = .ok (.getfield 37, 3) := by decide +kernel
theorem d_10_outcomeWith_29 : decode prog_1_method_27_code 29 = .ok (.iload_n 2, 1) := by decide +kernel
theorem d_10_outcomeWith_30 : decode prog_1_method_27_code 30 = .ok (.invokevirtual 217, 3) := by decide +kernel
theorem d_10_outcomeWith_33 : decode prog_1_method_27_code 33 = .ok (.ireturn, 1) := by decide +kernel
def wb_10_outcomeWith_16 (Q : Int32 → hm_S → hm_T → Prop) (z0 : Int32) (z1 : Int32) (S : hm_S) (T : hm_T) : Prop :=
  wp_10_positionOf z1 z0 S T (fun r2 S2 T2 => wp_10_learn r2 S2 T2 (fun S3 T3 => wp_8_outcomeOf r2 S3 T3 (fun r4 S4 T4 => Q r4 S4 T4)))
set_option maxHeartbeats 4000000 in
set_option maxRecDepth 20000 in
theorem bk_10_outcomeWith_16 {Q : Int32 → hm_S → hm_T → Prop} (cx : hm_cx G p s m args c prog_1_method_27_code 3 "HeapGames") (hr : meth.sig.returnType = some .int) (hlk : meth.locks = false) {z0 : Int32} {z1 : Int32} {S : hm_S} {T : hm_T} {H : Heap} {locs : List Loc} {ls : Array Slot} (h : wb_10_outcomeWith_16 Q z0 z1 S T) (hw : hm_w G H0 o 74 shX S T H) (hL : hm_L o 74 locs) (hl : lv_has ls 3 [(0, .ref (o + 0))]) : W p l e rm_10_outcomeWith s m args below meth c H locs 0 0 (MQ below (hm_Qi G H0 o 74 shX Q) args s 0 0 (t_fr o (o + 74))) (F0 m 16 ls [.int z0, .int z1]) := by
  have hx := cx.1.1
  have hb := cx.1.2.1
  unfold wb_10_outcomeWith_16 at h
  refine hm_calli (hm_rS (As := [.int z1, .int z0]) (rest := []) cx hw (ct_10_positionOf h) (mw_10_140 cx.1.2.2.2.2 ⟨Nat.le_of_ble_eq_true rfl, Nat.le_of_ble_eq_true rfl⟩) rfl hl.1 rfl (Nat.le_of_ble_eq_true rfl) d_10_outcomeWith_16 ⟨Nat.zero_le _, Nat.zero_le _⟩) hL (fun r2 S2 T2 H locs h hw hL => ?_)
  refine lv_istore_n (lv' := [(2, .int r2), (0, .ref (o + 0))]) hx hb d_10_outcomeWith_19 rfl hl (by decide) rfl (fun ls hl => ?_)
  refine lv_aload_n hx hb d_10_outcomeWith_20 rfl (lv_at hl 1 rfl) ?_
  refine lv_iload_n hx hb d_10_outcomeWith_21 rfl (lv_at hl 0 rfl) ?_
  refine hm_callv (hm_rV (i := 0) (As := [.int r2]) (rest := []) cx hw (ct_10_learn h) (mw_10_223 cx.1.2.2.2.2 ⟨Nat.le_of_ble_eq_true rfl, Nat.le_of_ble_eq_true rfl⟩) (by decide) sx_0 rfl rfl hl.1 rfl (Nat.le_of_ble_eq_true rfl) d_10_outcomeWith_22 ⟨Nat.zero_le _, Nat.zero_le _⟩) hL (fun S3 T3 H locs h hw hL => ?_)
  refine lv_aload_n hx hb d_10_outcomeWith_25 rfl (lv_at hl 1 rfl) ?_
  refine gf_10_37 cx hw (i := 0) (r := 36) (by decide) sx_0 rfl d_10_outcomeWith_26 ?_
  refine lv_iload_n hx hb d_10_outcomeWith_29 rfl (lv_at hl 0 rfl) ?_
  refine hm_calli (hm_rV (i := 36) (As := [.int r2]) (rest := []) cx hw (ct_8_outcomeOf h) (mw_10_217 cx.1.2.2.2.2 ⟨Nat.le_of_ble_eq_true rfl, Nat.le_of_ble_eq_true rfl⟩) (by decide) sx_36 rfl rfl hl.1 rfl (Nat.le_of_ble_eq_true rfl) d_10_outcomeWith_30 ⟨Nat.zero_le _, Nat.zero_le _⟩) hL (fun r4 S4 T4 H locs h hw hL => ?_)
  exact W.iret hx hb hr (fun t ht _ => ⟨_, _, _, rfl, h, by rw [ht]; exact hw⟩) hL d_10_outcomeWith_33
def wp_10_outcomeWith (x1 : Int32) (S : hm_S) (T : hm_T) (Q : Int32 → hm_S → hm_T → Prop) : Prop :=
  wp_10_layoutOf (S 0 9) S T (fun r1 S1 T1 => (if x1 = 0 then wb_10_outcomeWith_16 Q 0 r1 S1 T1 else wb_10_outcomeWith_16 Q 1 r1 S1 T1))
set_option maxHeartbeats 4000000 in
set_option maxRecDepth 20000 in
theorem bk_10_outcomeWith_0 {Q : Int32 → hm_S → hm_T → Prop} (cx : hm_cx G p s m args c prog_1_method_27_code 3 "HeapGames") (hr : meth.sig.returnType = some .int) (hlk : meth.locks = false) {x1 : Int32} {S : hm_S} {T : hm_T} {H : Heap} {locs : List Loc} {ls : Array Slot} (h : wp_10_outcomeWith x1 S T Q) (hw : hm_w G H0 o 74 shX S T H) (hL : hm_L o 74 locs) (hl : lv_has ls 3 [(0, .ref (o + 0)), (1, .int x1)]) : W p l e rm_10_outcomeWith s m args below meth c H locs 0 0 (MQ below (hm_Qi G H0 o 74 shX Q) args s 0 0 (t_fr o (o + 74))) (F0 m 0 ls []) := by
  have hx := cx.1.1
  have hb := cx.1.2.1
  unfold wp_10_outcomeWith at h
  refine lv_aload_n hx hb d_10_outcomeWith_0 rfl (lv_at hl 0 rfl) ?_
  refine gf_10_80 cx hw (i := 0) (by decide) sx_0 rfl d_10_outcomeWith_1 ?_
  refine hm_calli (hm_rS (As := [.int (S 0 9)]) (rest := []) cx hw (ct_10_layoutOf h) (mw_10_124 cx.1.2.2.2.2 ⟨Nat.le_of_ble_eq_true rfl, Nat.le_of_ble_eq_true rfl⟩) rfl hl.1 rfl (Nat.le_of_ble_eq_true rfl) d_10_outcomeWith_4 ⟨Nat.zero_le _, Nat.zero_le _⟩) hL (fun r1 S1 T1 H locs h hw hL => ?_)
  refine lv_iload_n hx hb d_10_outcomeWith_7 rfl (lv_at hl 1 rfl) ?_
  refine lv_if_eq (tgt := 15) hx hb d_10_outcomeWith_8 (by decide) (fun hc => ?_) (fun hc => ?_)
  · replace h := hm_pos hc h
    refine lv_iconst (v := 0) hx hb d_10_outcomeWith_15 (by decide) ?_
    exact bk_10_outcomeWith_16 cx hr hlk h hw hL (lv_sub hl [0] rfl)
  · replace h := hm_neg hc h
    refine lv_iconst (v := 1) hx hb d_10_outcomeWith_11 (by decide) ?_
    refine lv_goto (tgt := 16) hx hb d_10_outcomeWith_12 (by decide) ?_
    exact bk_10_outcomeWith_16 cx hr hlk h hw hL (lv_sub hl [0] rfl)
set_option maxHeartbeats 4000000 in
set_option maxRecDepth 20000 in
theorem ct_10_outcomeWith {x1 : Int32} {S : hm_S} {T : hm_T} {Q : Int32 → hm_S → hm_T → Prop} (h : wp_10_outcomeWith x1 S T Q) : hm_M l G H0 o 74 shX y_10_outcomeWith prog_1_method_27_code 3 (some .int) rm_10_outcomeWith S T [.ref (o + 0), .int x1] (hm_Qi G H0 o 74 shX Q) := by
  refine Met.ofW (cc := prog_1_method_27_code) (maxL := 3) (ret := some .int) (by decide) rfl ?_
  intro p e s m args below meth c s₁ B hml hv
  obtain ⟨rfl, hK, hw⟩ := hv
  have cx : hm_cx G p s m _ c prog_1_method_27_code 3 "HeapGames" := ⟨⟨B.exec, B.bytes, hml, findClass_of_methodNamed B.named, fun w hq => atoms_spec (ws := hm_ws y_10_outcomeWith prog_1_method_27_code 3 (some .int)) B.pre w (List.mem_cons_of_mem _ hq)⟩, hK⟩
  have hl := lv_entry ([.ref (o + 0), .int x1]) (n := 3) (Nat.le_of_ble_eq_true rfl)
  rw [lg_entry_eq]
  generalize (lg_sl ([.ref (o + 0), .int x1]) ++ List.replicate (3 - (lg_sl ([.ref (o + 0), .int x1])).length) Slot.unset).toArray = ls at hl ⊢
  have hl : lv_has ls 3 [(0, .ref (o + 0)), (1, .int x1)] := hl
  exact bk_10_outcomeWith_0 cx B.returns B.notSynchronized h hw (hm_L0 _ _) hl
/-! ===== HeapGames.census(IZI)I ===== -/
theorem d_10_census_0 : decode prog_1_method_28_code 0 = .ok (.iload_n 1, 1) := by decide +kernel
theorem d_10_census_1 : decode prog_1_method_28_code 1 = .ok (.ifCond .lt 18, 3) := by decide +kernel
theorem d_10_census_4 : decode prog_1_method_28_code 4 = .ok (.iload_n 1, 1) := by decide +kernel
theorem d_10_census_5 : decode prog_1_method_28_code 5 = .ok (.bipush 10, 2) := by decide +kernel
theorem d_10_census_7 : decode prog_1_method_28_code 7 = .ok (.if_icmp .gt 12, 3) := by decide +kernel
theorem d_10_census_10 : decode prog_1_method_28_code 10 = .ok (.iload_n 3, 1) := by decide +kernel
theorem d_10_census_11 : decode prog_1_method_28_code 11 = .ok (.ifCond .lt 8, 3) := by decide +kernel
theorem d_10_census_14 : decode prog_1_method_28_code 14 = .ok (.iload_n 3, 1) := by decide +kernel
theorem d_10_census_15 : decode prog_1_method_28_code 15 = .ok (.iconst 2, 1) := by decide +kernel
theorem d_10_census_16 : decode prog_1_method_28_code 16 = .ok (.if_icmp .le 6, 3) := by decide +kernel
theorem d_10_census_19 : decode prog_1_method_28_code 19 = .ok (.bipush (-2), 2) := by decide +kernel
theorem d_10_census_21 : decode prog_1_method_28_code 21 = .ok (.ireturn, 1) := by decide +kernel
theorem d_10_census_22 : decode prog_1_method_28_code 22 = .ok (.iload_n 2, 1) := by decide +kernel
theorem d_10_census_23 : decode prog_1_method_28_code 23 = .ok (.ifCond .eq 7, 3) := by decide +kernel
theorem d_10_census_26 : decode prog_1_method_28_code 26 = .ok (.iconst 1, 1) := by decide +kernel
theorem d_10_census_27 : decode prog_1_method_28_code 27 = .ok (.goto 4, 3) := by decide +kernel
theorem d_10_census_30 : decode prog_1_method_28_code 30 = .ok (.iconst 0, 1) := by decide +kernel
theorem d_10_census_31 : decode prog_1_method_28_code 31 = .ok (.istore 4, 2) := by decide +kernel
theorem d_10_census_33 : decode prog_1_method_28_code 33 = .ok (.iconst 0, 1) := by decide +kernel
theorem d_10_census_34 : decode prog_1_method_28_code 34 = .ok (.istore 5, 2) := by decide +kernel
theorem d_10_census_36 : decode prog_1_method_28_code 36 = .ok (.iload 5, 2) := by decide +kernel
theorem d_10_census_38 : decode prog_1_method_28_code 38 = .ok (.sipush 1215, 3) := by decide +kernel
theorem d_10_census_41 : decode prog_1_method_28_code 41 = .ok (.if_icmp .ge 36, 3) := by decide +kernel
theorem d_10_census_44 : decode prog_1_method_28_code 44 = .ok (.aload_n 0, 1) := by decide +kernel
theorem d_10_census_45 : decode prog_1_method_28_code 45 = .ok (.getfield 24, 3) := by decide +kernel
theorem d_10_census_48 : decode prog_1_method_28_code 48 = .ok (.iload 5, 2) := by decide +kernel
theorem d_10_census_50 : decode prog_1_method_28_code 50 = .ok (.iload_n 1, 1) := by decide +kernel
theorem d_10_census_51 : decode prog_1_method_28_code 51 = .ok (.invokevirtual 232, 3) := by decide +kernel
theorem d_10_census_54 : decode prog_1_method_28_code 54 = .ok (.ifCond .eq 17, 3) := by decide +kernel
theorem d_10_census_57 : decode prog_1_method_28_code 57 = .ok (.aload_n 0, 1) := by decide +kernel
theorem d_10_census_58 : decode prog_1_method_28_code 58 = .ok (.getfield 37, 3) := by decide +kernel
theorem d_10_census_61 : decode prog_1_method_28_code 61 = .ok (.iload 5, 2) := by decide +kernel
theorem d_10_census_63 : decode prog_1_method_28_code 63 = .ok (.iload 4, 2) := by decide +kernel
theorem d_10_census_65 : decode prog_1_method_28_code 65 = .ok (.invokestatic 140, 3) := by decide +kernel
theorem d_10_census_68 : decode prog_1_method_28_code 68 = .ok (.invokevirtual 236, 3) := by decide +kernel
theorem d_10_census_71 : decode prog_1_method_28_code 71 = .ok (.iinc 5 1, 3) := by decide +kernel
theorem d_10_census_74 : decode prog_1_method_28_code 74 = .ok (.goto (-38), 3) := by decide +kernel
theorem d_10_census_77 : decode prog_1_method_28_code 77 = .ok (.aload_n 0, 1) := by decide +kernel
theorem d_10_census_78 : decode prog_1_method_28_code 78 = .ok (.getfield 37, 3) := by decide +kernel
theorem d_10_census_81 : decode prog_1_method_28_code 81 = .ok (.invokevirtual 239, 3) := by decide +kernel
theorem d_10_census_84 : decode prog_1_method_28_code 84 = .ok (.iconst 0, 1) := by decide +kernel
theorem d_10_census_85 : decode prog_1_method_28_code 85 = .ok (.istore 5, 2) := by decide +kernel
theorem d_10_census_87 : decode prog_1_method_28_code 87 = .ok (.iconst 0, 1) := by decide +kernel
theorem d_10_census_88 : decode prog_1_method_28_code 88 = .ok (.istore 6, 2) := by decide +kernel
theorem d_10_census_90 : decode prog_1_method_28_code 90 = .ok (.iload 6, 2) := by decide +kernel
theorem d_10_census_92 : decode prog_1_method_28_code 92 = .ok (.sipush 1215, 3) := by decide +kernel
theorem d_10_census_95 : decode prog_1_method_28_code 95 = .ok (.if_icmp .ge 43, 3) := by decide +kernel
theorem d_10_census_98 : decode prog_1_method_28_code 98 = .ok (.aload_n 0, 1) := by decide +kernel
theorem d_10_census_99 : decode prog_1_method_28_code 99 = .ok (.getfield 24, 3) := by decide +kernel
theorem d_10_census_102 : decode prog_1_method_28_code 102 = .ok (.iload 6, 2) := by decide +kernel
theorem d_10_census_104 : decode prog_1_method_28_code 104 = .ok (.iload_n 1, 1) := by decide +kernel
theorem d_10_census_105 : decode prog_1_method_28_code 105 = .ok (.invokevirtual 232, 3) := by decide +kernel
theorem d_10_census_108 : decode prog_1_method_28_code 108 = .ok (.ifCond .eq 24, 3) := by decide +kernel
theorem d_10_census_111 : decode prog_1_method_28_code 111 = .ok (.aload_n 0, 1) := by decide +kernel
theorem d_10_census_112 : decode prog_1_method_28_code 112 = .ok (.getfield 37, 3) := by decide +kernel
theorem d_10_census_115 : decode prog_1_method_28_code 115 = .ok (.iload 6, 2) := by decide +kernel
theorem d_10_census_117 : decode prog_1_method_28_code 117 = .ok (.iload 4, 2) := by decide +kernel
theorem d_10_census_119 : decode prog_1_method_28_code 119 = .ok (.invokestatic 140, 3) := by decide +kernel
theorem d_10_census_122 : decode prog_1_method_28_code 122 = .ok (.invokevirtual 217, 3) := by decide +kernel
theorem d_10_census_125 : decode prog_1_method_28_code 125 = .ok (.iload_n 3, 1) := by decide +kernel
theorem d_10_census_126 : decode prog_1_method_28_code 126 = .ok (.if_icmp .ne 6, 3) := by decide +kernel
theorem d_10_census_129 : decode prog_1_method_28_code 129 = .ok (.iinc 5 1, 3) := by decide +kernel
theorem d_10_census_132 : decode prog_1_method_28_code 132 = .ok (.iinc 6 1, 3) := by decide +kernel
theorem d_10_census_135 : decode prog_1_method_28_code 135 = .ok (.goto (-45), 3) := by decide +kernel
theorem d_10_census_138 : decode prog_1_method_28_code 138 = .ok (.iload 5, 2) := by decide +kernel
theorem d_10_census_140 : decode prog_1_method_28_code 140 = .ok (.ireturn, 1) := by decide +kernel
def wb_10_census_132 (Q : Int32 → hm_S → hm_T → Prop) (K90 : Int32 → Int32 → Int32 → Int32 → Int32 → hm_S → hm_T → Prop) (x1 : Int32) (x3 : Int32) (x4 : Int32) (x5 : Int32) (x6 : Int32) (S : hm_S) (T : hm_T) : Prop :=
  K90 x1 x3 x4 x5 (x6 + 1) S T
set_option maxHeartbeats 4000000 in
set_option maxRecDepth 20000 in
theorem bk_10_census_132 {Q : Int32 → hm_S → hm_T → Prop} {K90 : Int32 → Int32 → Int32 → Int32 → Int32 → hm_S → hm_T → Prop} (cx : hm_cx G p s m args c prog_1_method_28_code 7 "HeapGames") (hr : meth.sig.returnType = some .int) (hlk : meth.locks = false) (k90 : ∀ (x1 : Int32) (x3 : Int32) (x4 : Int32) (x5 : Int32) (x6 : Int32) (S : hm_S) (T : hm_T) (H : Heap) (locs : List Loc) (ls : Array Slot), K90 x1 x3 x4 x5 x6 S T → hm_w G H0 o 74 shX S T H → hm_L o 74 locs → lv_has ls 7 [(0, .ref (o + 0)), (1, .int x1), (3, .int x3), (4, .int x4), (5, .int x5), (6, .int x6)] → W p l e rm_10_census s m args below meth c H locs 0 0 (MQ below (hm_Qi G H0 o 74 shX Q) args s 0 0 (t_fr o (o + 74))) (F0 m 90 ls [])) {x1 : Int32} {x3 : Int32} {x4 : Int32} {x5 : Int32} {x6 : Int32} {S : hm_S} {T : hm_T} {H : Heap} {locs : List Loc} {ls : Array Slot} (h : wb_10_census_132 Q K90 x1 x3 x4 x5 x6 S T) (hw : hm_w G H0 o 74 shX S T H) (hL : hm_L o 74 locs) (hl : lv_has ls 7 [(0, .ref (o + 0)), (1, .int x1), (3, .int x3), (4, .int x4), (5, .int x5), (6, .int x6)]) : W p l e rm_10_census s m args below meth c H locs 0 0 (MQ below (hm_Qi G H0 o 74 shX Q) args s 0 0 (t_fr o (o + 74))) (F0 m 132 ls []) := by
  have hx := cx.1.1
  have hb := cx.1.2.1
  unfold wb_10_census_132 at h
  refine lv_iinc (v := (x6 + 1)) (lv' := [(6, .int (x6 + 1)), (0, .ref (o + 0)), (1, .int x1), (3, .int x3), (4, .int x4), (5, .int x5)]) hx hb d_10_census_132 hl (k := 5) rfl rfl (by decide) rfl (fun ls hl => ?_)
  refine lv_goto (tgt := 90) hx hb d_10_census_135 (by decide) ?_
  exact k90 _ _ _ _ _ _ _ _ _ _ h hw hL (lv_sub hl [1, 2, 3, 4, 5, 0] rfl)
def wb_10_census_90 (Q : Int32 → hm_S → hm_T → Prop) (K90 : Int32 → Int32 → Int32 → Int32 → Int32 → hm_S → hm_T → Prop) (x1 : Int32) (x3 : Int32) (x4 : Int32) (x5 : Int32) (x6 : Int32) (S : hm_S) (T : hm_T) : Prop :=
  (if 1215 ≤ x6 then Q x5 S T else wp_2_isFreeWith x6 x1 S T (fun r2 S2 T2 => (if r2 = 0 then wb_10_census_132 Q K90 x1 x3 x4 x5 x6 S2 T2 else wp_10_positionOf x6 x4 S2 T2 (fun r3 S3 T3 => wp_8_outcomeOf r3 S3 T3 (fun r4 S4 T4 => (if r4 = x3 then wb_10_census_132 Q K90 x1 x3 x4 (x5 + 1) x6 S4 T4 else wb_10_census_132 Q K90 x1 x3 x4 x5 x6 S4 T4))))))
set_option maxHeartbeats 4000000 in
set_option maxRecDepth 20000 in
theorem bk_10_census_90 {Q : Int32 → hm_S → hm_T → Prop} {K90 : Int32 → Int32 → Int32 → Int32 → Int32 → hm_S → hm_T → Prop} (cx : hm_cx G p s m args c prog_1_method_28_code 7 "HeapGames") (hr : meth.sig.returnType = some .int) (hlk : meth.locks = false) (k90 : ∀ (x1 : Int32) (x3 : Int32) (x4 : Int32) (x5 : Int32) (x6 : Int32) (S : hm_S) (T : hm_T) (H : Heap) (locs : List Loc) (ls : Array Slot), K90 x1 x3 x4 x5 x6 S T → hm_w G H0 o 74 shX S T H → hm_L o 74 locs → lv_has ls 7 [(0, .ref (o + 0)), (1, .int x1), (3, .int x3), (4, .int x4), (5, .int x5), (6, .int x6)] → W p l e rm_10_census s m args below meth c H locs 0 0 (MQ below (hm_Qi G H0 o 74 shX Q) args s 0 0 (t_fr o (o + 74))) (F0 m 90 ls [])) {x1 : Int32} {x3 : Int32} {x4 : Int32} {x5 : Int32} {x6 : Int32} {S : hm_S} {T : hm_T} {H : Heap} {locs : List Loc} {ls : Array Slot} (h : wb_10_census_90 Q K90 x1 x3 x4 x5 x6 S T) (hw : hm_w G H0 o 74 shX S T H) (hL : hm_L o 74 locs) (hl : lv_has ls 7 [(0, .ref (o + 0)), (1, .int x1), (3, .int x3), (4, .int x4), (5, .int x5), (6, .int x6)]) : W p l e rm_10_census s m args below meth c H locs 0 0 (MQ below (hm_Qi G H0 o 74 shX Q) args s 0 0 (t_fr o (o + 74))) (F0 m 90 ls []) := by
  have hx := cx.1.1
  have hb := cx.1.2.1
  unfold wb_10_census_90 at h
  refine lv_iload hx hb d_10_census_90 (lv_at hl 5 rfl) ?_
  refine lv_sipush (v := 1215) hx hb d_10_census_92 (by decide) ?_
  refine lv_icmp_ge (tgt := 138) hx hb d_10_census_95 (by decide) (fun hc => ?_) (fun hc => ?_)
  · replace h := hm_pos hc h
    refine lv_iload hx hb d_10_census_138 (lv_at hl 4 rfl) ?_
    exact W.iret hx hb hr (fun t ht _ => ⟨_, _, _, rfl, h, by rw [ht]; exact hw⟩) hL d_10_census_140
  · replace h := hm_neg hc h
    refine lv_aload_n hx hb d_10_census_98 rfl (lv_at hl 0 rfl) ?_
    refine gf_10_24 cx hw (i := 0) (r := 4) (by decide) sx_0 rfl d_10_census_99 ?_
    refine lv_iload hx hb d_10_census_102 (lv_at hl 5 rfl) ?_
    refine lv_iload_n hx hb d_10_census_104 rfl (lv_at hl 1 rfl) ?_
    refine hm_calli (hm_rV (i := 4) (As := [.int x6, .int x1]) (rest := []) cx hw (ct_2_isFreeWith (by decide) (fun _ _ _ => rfl) h) (mw_10_232 cx.1.2.2.2.2 ⟨Nat.le_of_ble_eq_true rfl, Nat.le_of_ble_eq_true rfl⟩) (by decide) sx_4 rfl rfl hl.1 rfl (Nat.le_of_ble_eq_true rfl) d_10_census_105 ⟨Nat.zero_le _, Nat.zero_le _⟩) hL (fun r2 S2 T2 H locs h hw hL => ?_)
    refine lv_if_eq (tgt := 132) hx hb d_10_census_108 (by decide) (fun hc => ?_) (fun hc => ?_)
    · replace h := hm_pos hc h
      exact bk_10_census_132 cx hr hlk k90 h hw hL (lv_sub hl [0, 1, 2, 3, 4, 5] rfl)
    · replace h := hm_neg hc h
      refine lv_aload_n hx hb d_10_census_111 rfl (lv_at hl 0 rfl) ?_
      refine gf_10_37 cx hw (i := 0) (r := 36) (by decide) sx_0 rfl d_10_census_112 ?_
      refine lv_iload hx hb d_10_census_115 (lv_at hl 5 rfl) ?_
      refine lv_iload hx hb d_10_census_117 (lv_at hl 3 rfl) ?_
      refine hm_calli (hm_rS (As := [.int x6, .int x4]) (rest := [.ref (o + 36)]) cx hw (ct_10_positionOf h) (mw_10_140 cx.1.2.2.2.2 ⟨Nat.le_of_ble_eq_true rfl, Nat.le_of_ble_eq_true rfl⟩) rfl hl.1 rfl (Nat.le_of_ble_eq_true rfl) d_10_census_119 ⟨Nat.zero_le _, Nat.zero_le _⟩) hL (fun r3 S3 T3 H locs h hw hL => ?_)
      refine hm_calli (hm_rV (i := 36) (As := [.int r3]) (rest := []) cx hw (ct_8_outcomeOf h) (mw_10_217 cx.1.2.2.2.2 ⟨Nat.le_of_ble_eq_true rfl, Nat.le_of_ble_eq_true rfl⟩) (by decide) sx_36 rfl rfl hl.1 rfl (Nat.le_of_ble_eq_true rfl) d_10_census_122 ⟨Nat.zero_le _, Nat.zero_le _⟩) hL (fun r4 S4 T4 H locs h hw hL => ?_)
      refine lv_iload_n hx hb d_10_census_125 rfl (lv_at hl 2 rfl) ?_
      refine lv_icmp_ne (tgt := 132) hx hb d_10_census_126 (by decide) (fun hc => ?_) (fun hc => ?_)
      · replace h := hm_neg hc h
        exact bk_10_census_132 cx hr hlk k90 h hw hL (lv_sub hl [0, 1, 2, 3, 4, 5] rfl)
      · replace h := hm_pos hc h
        refine lv_iinc (v := (x5 + 1)) (lv' := [(5, .int (x5 + 1)), (0, .ref (o + 0)), (1, .int x1), (3, .int x3), (4, .int x4), (6, .int x6)]) hx hb d_10_census_129 hl (k := 4) rfl rfl (by decide) rfl (fun ls hl => ?_)
        exact bk_10_census_132 cx hr hlk k90 h hw hL (lv_sub hl [1, 2, 3, 4, 0, 5] rfl)
def wl_10_census_90 (Q : Int32 → hm_S → hm_T → Prop) : Nat → Int32 → Int32 → Int32 → Int32 → Int32 → hm_S → hm_T → Prop
  | 0, _, _, _, _, _, _, _ => False
  | f + 1, x1, x3, x4, x5, x6, S, T => wb_10_census_90 Q (wl_10_census_90 Q f) x1 x3 x4 x5 x6 S T
theorem lp_10_census_90 {Q : Int32 → hm_S → hm_T → Prop} (cx : hm_cx G p s m args c prog_1_method_28_code 7 "HeapGames") (hr : meth.sig.returnType = some .int) (hlk : meth.locks = false) : ∀ (f : Nat) (x1 : Int32) (x3 : Int32) (x4 : Int32) (x5 : Int32) (x6 : Int32) (S : hm_S) (T : hm_T) (H : Heap) (locs : List Loc) (ls : Array Slot), wl_10_census_90 Q f x1 x3 x4 x5 x6 S T → hm_w G H0 o 74 shX S T H → hm_L o 74 locs → lv_has ls 7 [(0, .ref (o + 0)), (1, .int x1), (3, .int x3), (4, .int x4), (5, .int x5), (6, .int x6)] → W p l e rm_10_census s m args below meth c H locs 0 0 (MQ below (hm_Qi G H0 o 74 shX Q) args s 0 0 (t_fr o (o + 74))) (F0 m 90 ls []) := by
  intro f
  induction f with
  | zero => intro x1 x3 x4 x5 x6 S T H locs ls h; exact h.elim
  | succ f ih => intro x1 x3 x4 x5 x6 S T H locs ls h hw hL hl; exact bk_10_census_90 cx hr hlk ih h hw hL hl
def wb_10_census_77 (Q : Int32 → hm_S → hm_T → Prop) (x1 : Int32) (x3 : Int32) (x4 : Int32) (S : hm_S) (T : hm_T) : Prop :=
  wp_8_solve S T (fun S1 T1 => ∃ f, wl_10_census_90 Q f x1 x3 x4 0 0 S1 T1)
set_option maxHeartbeats 4000000 in
set_option maxRecDepth 20000 in
theorem bk_10_census_77 {Q : Int32 → hm_S → hm_T → Prop} (cx : hm_cx G p s m args c prog_1_method_28_code 7 "HeapGames") (hr : meth.sig.returnType = some .int) (hlk : meth.locks = false) {x1 : Int32} {x3 : Int32} {x4 : Int32} {S : hm_S} {T : hm_T} {H : Heap} {locs : List Loc} {ls : Array Slot} (h : wb_10_census_77 Q x1 x3 x4 S T) (hw : hm_w G H0 o 74 shX S T H) (hL : hm_L o 74 locs) (hl : lv_has ls 7 [(0, .ref (o + 0)), (1, .int x1), (3, .int x3), (4, .int x4)]) : W p l e rm_10_census s m args below meth c H locs 0 0 (MQ below (hm_Qi G H0 o 74 shX Q) args s 0 0 (t_fr o (o + 74))) (F0 m 77 ls []) := by
  have hx := cx.1.1
  have hb := cx.1.2.1
  unfold wb_10_census_77 at h
  refine lv_aload_n hx hb d_10_census_77 rfl (lv_at hl 0 rfl) ?_
  refine gf_10_37 cx hw (i := 0) (r := 36) (by decide) sx_0 rfl d_10_census_78 ?_
  refine hm_callv (hm_rV (i := 36) (As := []) (rest := []) cx hw (ct_8_solve h) (mw_10_239 cx.1.2.2.2.2 ⟨Nat.le_of_ble_eq_true rfl, Nat.le_of_ble_eq_true rfl⟩) (by decide) sx_36 rfl rfl hl.1 rfl (Nat.le_of_ble_eq_true rfl) d_10_census_81 ⟨Nat.zero_le _, Nat.zero_le _⟩) hL (fun S1 T1 H locs h hw hL => ?_)
  refine lv_iconst (v := 0) hx hb d_10_census_84 (by decide) ?_
  refine lv_istore (lv' := [(5, .int 0), (0, .ref (o + 0)), (1, .int x1), (3, .int x3), (4, .int x4)]) hx hb d_10_census_85 hl (by decide) rfl (fun ls hl => ?_)
  refine lv_iconst (v := 0) hx hb d_10_census_87 (by decide) ?_
  refine lv_istore (lv' := [(6, .int 0), (5, .int 0), (0, .ref (o + 0)), (1, .int x1), (3, .int x3), (4, .int x4)]) hx hb d_10_census_88 hl (by decide) rfl (fun ls hl => ?_)
  obtain ⟨f, h⟩ := h
  exact lp_10_census_90 cx hr hlk f _ _ _ _ _ _ _ _ _ _ h hw hL (lv_sub hl [2, 3, 4, 5, 1, 0] rfl)
def wb_10_census_71 (Q : Int32 → hm_S → hm_T → Prop) (K36 : Int32 → Int32 → Int32 → Int32 → hm_S → hm_T → Prop) (x1 : Int32) (x3 : Int32) (x4 : Int32) (x5 : Int32) (S : hm_S) (T : hm_T) : Prop :=
  K36 x1 x3 x4 (x5 + 1) S T
set_option maxHeartbeats 4000000 in
set_option maxRecDepth 20000 in
theorem bk_10_census_71 {Q : Int32 → hm_S → hm_T → Prop} {K36 : Int32 → Int32 → Int32 → Int32 → hm_S → hm_T → Prop} (cx : hm_cx G p s m args c prog_1_method_28_code 7 "HeapGames") (hr : meth.sig.returnType = some .int) (hlk : meth.locks = false) (k36 : ∀ (x1 : Int32) (x3 : Int32) (x4 : Int32) (x5 : Int32) (S : hm_S) (T : hm_T) (H : Heap) (locs : List Loc) (ls : Array Slot), K36 x1 x3 x4 x5 S T → hm_w G H0 o 74 shX S T H → hm_L o 74 locs → lv_has ls 7 [(0, .ref (o + 0)), (1, .int x1), (3, .int x3), (4, .int x4), (5, .int x5)] → W p l e rm_10_census s m args below meth c H locs 0 0 (MQ below (hm_Qi G H0 o 74 shX Q) args s 0 0 (t_fr o (o + 74))) (F0 m 36 ls [])) {x1 : Int32} {x3 : Int32} {x4 : Int32} {x5 : Int32} {S : hm_S} {T : hm_T} {H : Heap} {locs : List Loc} {ls : Array Slot} (h : wb_10_census_71 Q K36 x1 x3 x4 x5 S T) (hw : hm_w G H0 o 74 shX S T H) (hL : hm_L o 74 locs) (hl : lv_has ls 7 [(0, .ref (o + 0)), (1, .int x1), (3, .int x3), (4, .int x4), (5, .int x5)]) : W p l e rm_10_census s m args below meth c H locs 0 0 (MQ below (hm_Qi G H0 o 74 shX Q) args s 0 0 (t_fr o (o + 74))) (F0 m 71 ls []) := by
  have hx := cx.1.1
  have hb := cx.1.2.1
  unfold wb_10_census_71 at h
  refine lv_iinc (v := (x5 + 1)) (lv' := [(5, .int (x5 + 1)), (0, .ref (o + 0)), (1, .int x1), (3, .int x3), (4, .int x4)]) hx hb d_10_census_71 hl (k := 4) rfl rfl (by decide) rfl (fun ls hl => ?_)
  refine lv_goto (tgt := 36) hx hb d_10_census_74 (by decide) ?_
  exact k36 _ _ _ _ _ _ _ _ _ h hw hL (lv_sub hl [1, 2, 3, 4, 0] rfl)
def wb_10_census_36 (Q : Int32 → hm_S → hm_T → Prop) (K36 : Int32 → Int32 → Int32 → Int32 → hm_S → hm_T → Prop) (x1 : Int32) (x3 : Int32) (x4 : Int32) (x5 : Int32) (S : hm_S) (T : hm_T) : Prop :=
  (if 1215 ≤ x5 then wb_10_census_77 Q x1 x3 x4 S T else wp_2_isFreeWith x5 x1 S T (fun r5 S5 T5 => (if r5 = 0 then wb_10_census_71 Q K36 x1 x3 x4 x5 S5 T5 else wp_10_positionOf x5 x4 S5 T5 (fun r6 S6 T6 => wp_8_explore r6 S6 T6 (fun S7 T7 => wb_10_census_71 Q K36 x1 x3 x4 x5 S7 T7)))))
set_option maxHeartbeats 4000000 in
set_option maxRecDepth 20000 in
theorem bk_10_census_36 {Q : Int32 → hm_S → hm_T → Prop} {K36 : Int32 → Int32 → Int32 → Int32 → hm_S → hm_T → Prop} (cx : hm_cx G p s m args c prog_1_method_28_code 7 "HeapGames") (hr : meth.sig.returnType = some .int) (hlk : meth.locks = false) (k36 : ∀ (x1 : Int32) (x3 : Int32) (x4 : Int32) (x5 : Int32) (S : hm_S) (T : hm_T) (H : Heap) (locs : List Loc) (ls : Array Slot), K36 x1 x3 x4 x5 S T → hm_w G H0 o 74 shX S T H → hm_L o 74 locs → lv_has ls 7 [(0, .ref (o + 0)), (1, .int x1), (3, .int x3), (4, .int x4), (5, .int x5)] → W p l e rm_10_census s m args below meth c H locs 0 0 (MQ below (hm_Qi G H0 o 74 shX Q) args s 0 0 (t_fr o (o + 74))) (F0 m 36 ls [])) {x1 : Int32} {x3 : Int32} {x4 : Int32} {x5 : Int32} {S : hm_S} {T : hm_T} {H : Heap} {locs : List Loc} {ls : Array Slot} (h : wb_10_census_36 Q K36 x1 x3 x4 x5 S T) (hw : hm_w G H0 o 74 shX S T H) (hL : hm_L o 74 locs) (hl : lv_has ls 7 [(0, .ref (o + 0)), (1, .int x1), (3, .int x3), (4, .int x4), (5, .int x5)]) : W p l e rm_10_census s m args below meth c H locs 0 0 (MQ below (hm_Qi G H0 o 74 shX Q) args s 0 0 (t_fr o (o + 74))) (F0 m 36 ls []) := by
  have hx := cx.1.1
  have hb := cx.1.2.1
  unfold wb_10_census_36 at h
  refine lv_iload hx hb d_10_census_36 (lv_at hl 4 rfl) ?_
  refine lv_sipush (v := 1215) hx hb d_10_census_38 (by decide) ?_
  refine lv_icmp_ge (tgt := 77) hx hb d_10_census_41 (by decide) (fun hc => ?_) (fun hc => ?_)
  · replace h := hm_pos hc h
    exact bk_10_census_77 cx hr hlk h hw hL (lv_sub hl [0, 1, 2, 3] rfl)
  · replace h := hm_neg hc h
    refine lv_aload_n hx hb d_10_census_44 rfl (lv_at hl 0 rfl) ?_
    refine gf_10_24 cx hw (i := 0) (r := 4) (by decide) sx_0 rfl d_10_census_45 ?_
    refine lv_iload hx hb d_10_census_48 (lv_at hl 4 rfl) ?_
    refine lv_iload_n hx hb d_10_census_50 rfl (lv_at hl 1 rfl) ?_
    refine hm_calli (hm_rV (i := 4) (As := [.int x5, .int x1]) (rest := []) cx hw (ct_2_isFreeWith (by decide) (fun _ _ _ => rfl) h) (mw_10_232 cx.1.2.2.2.2 ⟨Nat.le_of_ble_eq_true rfl, Nat.le_of_ble_eq_true rfl⟩) (by decide) sx_4 rfl rfl hl.1 rfl (Nat.le_of_ble_eq_true rfl) d_10_census_51 ⟨Nat.zero_le _, Nat.zero_le _⟩) hL (fun r5 S5 T5 H locs h hw hL => ?_)
    refine lv_if_eq (tgt := 71) hx hb d_10_census_54 (by decide) (fun hc => ?_) (fun hc => ?_)
    · replace h := hm_pos hc h
      exact bk_10_census_71 cx hr hlk k36 h hw hL (lv_sub hl [0, 1, 2, 3, 4] rfl)
    · replace h := hm_neg hc h
      refine lv_aload_n hx hb d_10_census_57 rfl (lv_at hl 0 rfl) ?_
      refine gf_10_37 cx hw (i := 0) (r := 36) (by decide) sx_0 rfl d_10_census_58 ?_
      refine lv_iload hx hb d_10_census_61 (lv_at hl 4 rfl) ?_
      refine lv_iload hx hb d_10_census_63 (lv_at hl 3 rfl) ?_
      refine hm_calli (hm_rS (As := [.int x5, .int x4]) (rest := [.ref (o + 36)]) cx hw (ct_10_positionOf h) (mw_10_140 cx.1.2.2.2.2 ⟨Nat.le_of_ble_eq_true rfl, Nat.le_of_ble_eq_true rfl⟩) rfl hl.1 rfl (Nat.le_of_ble_eq_true rfl) d_10_census_65 ⟨Nat.zero_le _, Nat.zero_le _⟩) hL (fun r6 S6 T6 H locs h hw hL => ?_)
      refine hm_callv (hm_rV (i := 36) (As := [.int r6]) (rest := []) cx hw (ct_8_explore h) (mw_10_236 cx.1.2.2.2.2 ⟨Nat.le_of_ble_eq_true rfl, Nat.le_of_ble_eq_true rfl⟩) (by decide) sx_36 rfl rfl hl.1 rfl (Nat.le_of_ble_eq_true rfl) d_10_census_68 ⟨Nat.zero_le _, Nat.zero_le _⟩) hL (fun S7 T7 H locs h hw hL => ?_)
      exact bk_10_census_71 cx hr hlk k36 h hw hL (lv_sub hl [0, 1, 2, 3, 4] rfl)
def wl_10_census_36 (Q : Int32 → hm_S → hm_T → Prop) : Nat → Int32 → Int32 → Int32 → Int32 → hm_S → hm_T → Prop
  | 0, _, _, _, _, _, _ => False
  | f + 1, x1, x3, x4, x5, S, T => wb_10_census_36 Q (wl_10_census_36 Q f) x1 x3 x4 x5 S T
theorem lp_10_census_36 {Q : Int32 → hm_S → hm_T → Prop} (cx : hm_cx G p s m args c prog_1_method_28_code 7 "HeapGames") (hr : meth.sig.returnType = some .int) (hlk : meth.locks = false) : ∀ (f : Nat) (x1 : Int32) (x3 : Int32) (x4 : Int32) (x5 : Int32) (S : hm_S) (T : hm_T) (H : Heap) (locs : List Loc) (ls : Array Slot), wl_10_census_36 Q f x1 x3 x4 x5 S T → hm_w G H0 o 74 shX S T H → hm_L o 74 locs → lv_has ls 7 [(0, .ref (o + 0)), (1, .int x1), (3, .int x3), (4, .int x4), (5, .int x5)] → W p l e rm_10_census s m args below meth c H locs 0 0 (MQ below (hm_Qi G H0 o 74 shX Q) args s 0 0 (t_fr o (o + 74))) (F0 m 36 ls []) := by
  intro f
  induction f with
  | zero => intro x1 x3 x4 x5 S T H locs ls h; exact h.elim
  | succ f ih => intro x1 x3 x4 x5 S T H locs ls h hw hL hl; exact bk_10_census_36 cx hr hlk ih h hw hL hl
def wb_10_census_31 (Q : Int32 → hm_S → hm_T → Prop) (x1 : Int32) (x3 : Int32) (z0 : Int32) (S : hm_S) (T : hm_T) : Prop :=
  ∃ f, wl_10_census_36 Q f x1 x3 z0 0 S T
set_option maxHeartbeats 4000000 in
set_option maxRecDepth 20000 in
theorem bk_10_census_31 {Q : Int32 → hm_S → hm_T → Prop} (cx : hm_cx G p s m args c prog_1_method_28_code 7 "HeapGames") (hr : meth.sig.returnType = some .int) (hlk : meth.locks = false) {x1 : Int32} {x3 : Int32} {z0 : Int32} {S : hm_S} {T : hm_T} {H : Heap} {locs : List Loc} {ls : Array Slot} (h : wb_10_census_31 Q x1 x3 z0 S T) (hw : hm_w G H0 o 74 shX S T H) (hL : hm_L o 74 locs) (hl : lv_has ls 7 [(0, .ref (o + 0)), (1, .int x1), (3, .int x3)]) : W p l e rm_10_census s m args below meth c H locs 0 0 (MQ below (hm_Qi G H0 o 74 shX Q) args s 0 0 (t_fr o (o + 74))) (F0 m 31 ls [.int z0]) := by
  have hx := cx.1.1
  have hb := cx.1.2.1
  unfold wb_10_census_31 at h
  refine lv_istore (lv' := [(4, .int z0), (0, .ref (o + 0)), (1, .int x1), (3, .int x3)]) hx hb d_10_census_31 hl (by decide) rfl (fun ls hl => ?_)
  refine lv_iconst (v := 0) hx hb d_10_census_33 (by decide) ?_
  refine lv_istore (lv' := [(5, .int 0), (4, .int z0), (0, .ref (o + 0)), (1, .int x1), (3, .int x3)]) hx hb d_10_census_34 hl (by decide) rfl (fun ls hl => ?_)
  obtain ⟨f, h⟩ := h
  exact lp_10_census_36 cx hr hlk f _ _ _ _ _ _ _ _ _ h hw hL (lv_sub hl [2, 3, 4, 1, 0] rfl)
def wp_10_census (x1 : Int32) (x2 : Int32) (x3 : Int32) (S : hm_S) (T : hm_T) (Q : Int32 → hm_S → hm_T → Prop) : Prop :=
  (if x1 < 0 then Q (-2) S T else (if 10 < x1 then Q (-2) S T else (if x3 < 0 then Q (-2) S T else (if x3 ≤ 2 then (if x2 = 0 then wb_10_census_31 Q x1 x3 0 S T else wb_10_census_31 Q x1 x3 1 S T) else Q (-2) S T))))
set_option maxHeartbeats 4000000 in
set_option maxRecDepth 20000 in
theorem bk_10_census_0 {Q : Int32 → hm_S → hm_T → Prop} (cx : hm_cx G p s m args c prog_1_method_28_code 7 "HeapGames") (hr : meth.sig.returnType = some .int) (hlk : meth.locks = false) {x1 : Int32} {x2 : Int32} {x3 : Int32} {S : hm_S} {T : hm_T} {H : Heap} {locs : List Loc} {ls : Array Slot} (h : wp_10_census x1 x2 x3 S T Q) (hw : hm_w G H0 o 74 shX S T H) (hL : hm_L o 74 locs) (hl : lv_has ls 7 [(0, .ref (o + 0)), (1, .int x1), (2, .int x2), (3, .int x3)]) : W p l e rm_10_census s m args below meth c H locs 0 0 (MQ below (hm_Qi G H0 o 74 shX Q) args s 0 0 (t_fr o (o + 74))) (F0 m 0 ls []) := by
  have hx := cx.1.1
  have hb := cx.1.2.1
  unfold wp_10_census at h
  refine lv_iload_n hx hb d_10_census_0 rfl (lv_at hl 1 rfl) ?_
  refine lv_if_lt (tgt := 19) hx hb d_10_census_1 (by decide) (fun hc => ?_) (fun hc => ?_)
  · replace h := hm_pos hc h
    refine lv_bipush (v := (-2)) hx hb d_10_census_19 (by decide) ?_
    exact W.iret hx hb hr (fun t ht _ => ⟨_, _, _, rfl, h, by rw [ht]; exact hw⟩) hL d_10_census_21
  · replace h := hm_neg hc h
    refine lv_iload_n hx hb d_10_census_4 rfl (lv_at hl 1 rfl) ?_
    refine lv_bipush (v := 10) hx hb d_10_census_5 (by decide) ?_
    refine lv_icmp_gt (tgt := 19) hx hb d_10_census_7 (by decide) (fun hc => ?_) (fun hc => ?_)
    · replace h := hm_pos hc h
      refine lv_bipush (v := (-2)) hx hb d_10_census_19 (by decide) ?_
      exact W.iret hx hb hr (fun t ht _ => ⟨_, _, _, rfl, h, by rw [ht]; exact hw⟩) hL d_10_census_21
    · replace h := hm_neg hc h
      refine lv_iload_n hx hb d_10_census_10 rfl (lv_at hl 3 rfl) ?_
      refine lv_if_lt (tgt := 19) hx hb d_10_census_11 (by decide) (fun hc => ?_) (fun hc => ?_)
      · replace h := hm_pos hc h
        refine lv_bipush (v := (-2)) hx hb d_10_census_19 (by decide) ?_
        exact W.iret hx hb hr (fun t ht _ => ⟨_, _, _, rfl, h, by rw [ht]; exact hw⟩) hL d_10_census_21
      · replace h := hm_neg hc h
        refine lv_iload_n hx hb d_10_census_14 rfl (lv_at hl 3 rfl) ?_
        refine lv_iconst (v := 2) hx hb d_10_census_15 (by decide) ?_
        refine lv_icmp_le (tgt := 22) hx hb d_10_census_16 (by decide) (fun hc => ?_) (fun hc => ?_)
        · replace h := hm_pos hc h
          refine lv_iload_n hx hb d_10_census_22 rfl (lv_at hl 2 rfl) ?_
          refine lv_if_eq (tgt := 30) hx hb d_10_census_23 (by decide) (fun hc => ?_) (fun hc => ?_)
          · replace h := hm_pos hc h
            refine lv_iconst (v := 0) hx hb d_10_census_30 (by decide) ?_
            exact bk_10_census_31 cx hr hlk h hw hL (lv_sub hl [0, 1, 3] rfl)
          · replace h := hm_neg hc h
            refine lv_iconst (v := 1) hx hb d_10_census_26 (by decide) ?_
            refine lv_goto (tgt := 31) hx hb d_10_census_27 (by decide) ?_
            exact bk_10_census_31 cx hr hlk h hw hL (lv_sub hl [0, 1, 3] rfl)
        · replace h := hm_neg hc h
          refine lv_bipush (v := (-2)) hx hb d_10_census_19 (by decide) ?_
          exact W.iret hx hb hr (fun t ht _ => ⟨_, _, _, rfl, h, by rw [ht]; exact hw⟩) hL d_10_census_21
set_option maxHeartbeats 4000000 in
set_option maxRecDepth 20000 in
theorem ct_10_census {x1 : Int32} {x2 : Int32} {x3 : Int32} {S : hm_S} {T : hm_T} {Q : Int32 → hm_S → hm_T → Prop} (h : wp_10_census x1 x2 x3 S T Q) : hm_M l G H0 o 74 shX y_10_census prog_1_method_28_code 7 (some .int) rm_10_census S T [.ref (o + 0), .int x1, .int x2, .int x3] (hm_Qi G H0 o 74 shX Q) := by
  refine Met.ofW (cc := prog_1_method_28_code) (maxL := 7) (ret := some .int) (by decide) rfl ?_
  intro p e s m args below meth c s₁ B hml hv
  obtain ⟨rfl, hK, hw⟩ := hv
  have cx : hm_cx G p s m _ c prog_1_method_28_code 7 "HeapGames" := ⟨⟨B.exec, B.bytes, hml, findClass_of_methodNamed B.named, fun w hq => atoms_spec (ws := hm_ws y_10_census prog_1_method_28_code 7 (some .int)) B.pre w (List.mem_cons_of_mem _ hq)⟩, hK⟩
  have hl := lv_entry ([.ref (o + 0), .int x1, .int x2, .int x3]) (n := 7) (Nat.le_of_ble_eq_true rfl)
  rw [lg_entry_eq]
  generalize (lg_sl ([.ref (o + 0), .int x1, .int x2, .int x3]) ++ List.replicate (7 - (lg_sl ([.ref (o + 0), .int x1, .int x2, .int x3])).length) Slot.unset).toArray = ls at hl ⊢
  have hl : lv_has ls 7 [(0, .ref (o + 0)), (1, .int x1), (2, .int x2), (3, .int x3)] := hl
  exact bk_10_census_0 cx B.returns B.notSynchronized h hw (hm_L0 _ _) hl
/-! ===== HeapGames.grundy(I)I ===== -/
theorem d_10_grundy_0 : decode prog_1_method_34_code 0 = .ok (.iload_n 1, 1) := by decide +kernel
theorem d_10_grundy_1 : decode prog_1_method_34_code 1 = .ok (.ifCond .lt 9, 3) := by decide +kernel
theorem d_10_grundy_4 : decode prog_1_method_34_code 4 = .ok (.iload_n 1, 1) := by decide +kernel
theorem d_10_grundy_5 : decode prog_1_method_34_code 5 = .ok (.bipush 60, 2) := by decide +kernel
theorem d_10_grundy_7 : decode prog_1_method_34_code 7 = .ok (.if_icmp .le 6, 3) := by decide +kernel
theorem d_10_grundy_10 : decode prog_1_method_34_code 10 = .ok (.bipush (-2), 2) := by decide +kernel
theorem d_10_grundy_12 : decode prog_1_method_34_code 12 = .ok (.ireturn, 1) := by decide +kernel
theorem d_10_grundy_13 : decode prog_1_method_34_code 13 = .ok (.aload_n 0, 1) := by decide +kernel
theorem d_10_grundy_14 : decode prog_1_method_34_code 14 = .ok (.getfield 46, 3) := by decide +kernel
theorem d_10_grundy_17 : decode prog_1_method_34_code 17 = .ok (.iload_n 1, 1) := by decide +kernel
theorem d_10_grundy_18 : decode prog_1_method_34_code 18 = .ok (.invokevirtual 178, 3) := by decide +kernel
theorem d_10_grundy_21 : decode prog_1_method_34_code 21 = .ok (.ireturn, 1) := by decide +kernel
def wp_10_grundy (x1 : Int32) (S : hm_S) (T : hm_T) (Q : Int32 → hm_S → hm_T → Prop) : Prop :=
  (if x1 < 0 then Q (-2) S T else (if x1 ≤ 60 then wp_0_valueOf x1 S T (fun r1 S1 T1 => Q r1 S1 T1) else Q (-2) S T))
set_option maxHeartbeats 4000000 in
set_option maxRecDepth 20000 in
theorem bk_10_grundy_0 {Q : Int32 → hm_S → hm_T → Prop} (cx : hm_cx G p s m args c prog_1_method_34_code 2 "HeapGames") (hr : meth.sig.returnType = some .int) (hlk : meth.locks = false) {x1 : Int32} {S : hm_S} {T : hm_T} {H : Heap} {locs : List Loc} {ls : Array Slot} (h : wp_10_grundy x1 S T Q) (hw : hm_w G H0 o 74 shX S T H) (hL : hm_L o 74 locs) (hl : lv_has ls 2 [(0, .ref (o + 0)), (1, .int x1)]) : W p l e rm_10_grundy s m args below meth c H locs 0 0 (MQ below (hm_Qi G H0 o 74 shX Q) args s 0 0 (t_fr o (o + 74))) (F0 m 0 ls []) := by
  have hx := cx.1.1
  have hb := cx.1.2.1
  unfold wp_10_grundy at h
  refine lv_iload_n hx hb d_10_grundy_0 rfl (lv_at hl 1 rfl) ?_
  refine lv_if_lt (tgt := 10) hx hb d_10_grundy_1 (by decide) (fun hc => ?_) (fun hc => ?_)
  · replace h := hm_pos hc h
    refine lv_bipush (v := (-2)) hx hb d_10_grundy_10 (by decide) ?_
    exact W.iret hx hb hr (fun t ht _ => ⟨_, _, _, rfl, h, by rw [ht]; exact hw⟩) hL d_10_grundy_12
  · replace h := hm_neg hc h
    refine lv_iload_n hx hb d_10_grundy_4 rfl (lv_at hl 1 rfl) ?_
    refine lv_bipush (v := 60) hx hb d_10_grundy_5 (by decide) ?_
    refine lv_icmp_le (tgt := 13) hx hb d_10_grundy_7 (by decide) (fun hc => ?_) (fun hc => ?_)
    · replace h := hm_pos hc h
      refine lv_aload_n hx hb d_10_grundy_13 rfl (lv_at hl 0 rfl) ?_
      refine gf_10_46 cx hw (i := 0) (r := 59) (by decide) sx_0 rfl d_10_grundy_14 ?_
      refine lv_iload_n hx hb d_10_grundy_17 rfl (lv_at hl 1 rfl) ?_
      refine hm_calli (hm_rV (i := 59) (As := [.int x1]) (rest := []) cx hw (ct_0_valueOf h) (mw_10_178 cx.1.2.2.2.2 ⟨Nat.le_of_ble_eq_true rfl, Nat.le_of_ble_eq_true rfl⟩) (by decide) sx_59 rfl rfl hl.1 rfl (Nat.le_of_ble_eq_true rfl) d_10_grundy_18 ⟨Nat.zero_le _, Nat.zero_le _⟩) hL (fun r1 S1 T1 H locs h hw hL => ?_)
      exact W.iret hx hb hr (fun t ht _ => ⟨_, _, _, rfl, h, by rw [ht]; exact hw⟩) hL d_10_grundy_21
    · replace h := hm_neg hc h
      refine lv_bipush (v := (-2)) hx hb d_10_grundy_10 (by decide) ?_
      exact W.iret hx hb hr (fun t ht _ => ⟨_, _, _, rfl, h, by rw [ht]; exact hw⟩) hL d_10_grundy_12
set_option maxHeartbeats 4000000 in
set_option maxRecDepth 20000 in
theorem ct_10_grundy {x1 : Int32} {S : hm_S} {T : hm_T} {Q : Int32 → hm_S → hm_T → Prop} (h : wp_10_grundy x1 S T Q) : hm_M l G H0 o 74 shX y_10_grundy prog_1_method_34_code 2 (some .int) rm_10_grundy S T [.ref (o + 0), .int x1] (hm_Qi G H0 o 74 shX Q) := by
  refine Met.ofW (cc := prog_1_method_34_code) (maxL := 2) (ret := some .int) (by decide) rfl ?_
  intro p e s m args below meth c s₁ B hml hv
  obtain ⟨rfl, hK, hw⟩ := hv
  have cx : hm_cx G p s m _ c prog_1_method_34_code 2 "HeapGames" := ⟨⟨B.exec, B.bytes, hml, findClass_of_methodNamed B.named, fun w hq => atoms_spec (ws := hm_ws y_10_grundy prog_1_method_34_code 2 (some .int)) B.pre w (List.mem_cons_of_mem _ hq)⟩, hK⟩
  have hl := lv_entry ([.ref (o + 0), .int x1]) (n := 2) (Nat.le_of_ble_eq_true rfl)
  rw [lg_entry_eq]
  generalize (lg_sl ([.ref (o + 0), .int x1]) ++ List.replicate (2 - (lg_sl ([.ref (o + 0), .int x1])).length) Slot.unset).toArray = ls at hl ⊢
  have hl : lv_has ls 2 [(0, .ref (o + 0)), (1, .int x1)] := hl
  exact bk_10_grundy_0 cx B.returns B.notSynchronized h hw (hm_L0 _ _) hl
/-! ===== HeapGames.nimSum()I ===== -/
theorem d_10_nimSum_0 : decode prog_1_method_35_code 0 = .ok (.aload_n 0, 1) := by decide +kernel
theorem d_10_nimSum_1 : decode prog_1_method_35_code 1 = .ok (.getfield 80, 3) := by decide +kernel
theorem d_10_nimSum_4 : decode prog_1_method_35_code 4 = .ok (.invokestatic 124, 3) := by decide +kernel
theorem d_10_nimSum_7 : decode prog_1_method_35_code 7 = .ok (.istore_n 1, 1) := by decide +kernel
theorem d_10_nimSum_8 : decode prog_1_method_35_code 8 = .ok (.iconst 0, 1) := by decide +kernel
theorem d_10_nimSum_9 : decode prog_1_method_35_code 9 = .ok (.istore_n 2, 1) := by decide +kernel
theorem d_10_nimSum_10 : decode prog_1_method_35_code 10 = .ok (.iconst 0, 1) := by decide +kernel
theorem d_10_nimSum_11 : decode prog_1_method_35_code 11 = .ok (.istore_n 3, 1) := by decide +kernel
theorem d_10_nimSum_12 : decode prog_1_method_35_code 12 = .ok (.iload_n 3, 1) := by decide +kernel
theorem d_10_nimSum_13 : decode prog_1_method_35_code 13 = .ok (.aload_n 0, 1) := by decide +kernel
theorem d_10_nimSum_14 : decode prog_1_method_35_code 14 = .ok (.getfield 24, 3) := by decide +kernel
theorem d_10_nimSum_17 : decode prog_1_method_35_code 17 = .ok (.iload_n 1, 1) := by decide +kernel
theorem d_10_nimSum_18 : decode prog_1_method_35_code 18 = .ok (.invokevirtual 146, 3) := by decide +kernel
theorem d_10_nimSum_21 : decode prog_1_method_35_code 21 = .ok (.if_icmp .ge 18, 3) := by decide +kernel
theorem d_10_nimSum_24 : decode prog_1_method_35_code 24 = .ok (.iload_n 2, 1) := by decide +kernel
theorem d_10_nimSum_25 : decode prog_1_method_35_code 25 = .ok (.aload_n 0, 1) := by decide +kernel
theorem d_10_nimSum_26 : decode prog_1_method_35_code 26 = .ok (.iload_n 3, 1) := by decide +kernel
theorem d_10_nimSum_27 : decode prog_1_method_35_code 27 = .ok (.iconst 2, 1) := by decide +kernel
theorem d_10_nimSum_28 : decode prog_1_method_35_code 28 = .ok (.invokevirtual 163, 3) := by decide +kernel
theorem d_10_nimSum_31 : decode prog_1_method_35_code 31 = .ok (.ixor, 1) := by decide +kernel
theorem d_10_nimSum_32 : decode prog_1_method_35_code 32 = .ok (.istore_n 2, 1) := by decide +kernel
theorem d_10_nimSum_33 : decode prog_1_method_35_code 33 = .ok (.iinc 3 1, 3) := by decide +kernel
theorem d_10_nimSum_36 : decode prog_1_method_35_code 36 = .ok (.goto (-24), 3) := by decide +kernel
theorem d_10_nimSum_39 : decode prog_1_method_35_code 39 = .ok (.iload_n 2, 1) := by decide +kernel
theorem d_10_nimSum_40 : decode prog_1_method_35_code 40 = .ok (.ireturn, 1) := by decide +kernel
def wb_10_nimSum_12 (Q : Int32 → hm_S → hm_T → Prop) (K12 : Int32 → Int32 → Int32 → hm_S → hm_T → Prop) (x1 : Int32) (x2 : Int32) (x3 : Int32) (S : hm_S) (T : hm_T) : Prop :=
  wp_2_heapsOf x1 S T (fun r2 S2 T2 => (if r2 ≤ x3 then Q x2 S2 T2 else wp_10_propertyOfHeap x3 2 S2 T2 (fun r3 S3 T3 => K12 x1 (x2 ^^^ r3) (x3 + 1) S3 T3)))
set_option maxHeartbeats 4000000 in
set_option maxRecDepth 20000 in
theorem bk_10_nimSum_12 {Q : Int32 → hm_S → hm_T → Prop} {K12 : Int32 → Int32 → Int32 → hm_S → hm_T → Prop} (cx : hm_cx G p s m args c prog_1_method_35_code 4 "HeapGames") (hr : meth.sig.returnType = some .int) (hlk : meth.locks = false) (k12 : ∀ (x1 : Int32) (x2 : Int32) (x3 : Int32) (S : hm_S) (T : hm_T) (H : Heap) (locs : List Loc) (ls : Array Slot), K12 x1 x2 x3 S T → hm_w G H0 o 74 shX S T H → hm_L o 74 locs → lv_has ls 4 [(0, .ref (o + 0)), (1, .int x1), (2, .int x2), (3, .int x3)] → W p l e rm_10_nimSum s m args below meth c H locs 0 0 (MQ below (hm_Qi G H0 o 74 shX Q) args s 0 0 (t_fr o (o + 74))) (F0 m 12 ls [])) {x1 : Int32} {x2 : Int32} {x3 : Int32} {S : hm_S} {T : hm_T} {H : Heap} {locs : List Loc} {ls : Array Slot} (h : wb_10_nimSum_12 Q K12 x1 x2 x3 S T) (hw : hm_w G H0 o 74 shX S T H) (hL : hm_L o 74 locs) (hl : lv_has ls 4 [(0, .ref (o + 0)), (1, .int x1), (2, .int x2), (3, .int x3)]) : W p l e rm_10_nimSum s m args below meth c H locs 0 0 (MQ below (hm_Qi G H0 o 74 shX Q) args s 0 0 (t_fr o (o + 74))) (F0 m 12 ls []) := by
  have hx := cx.1.1
  have hb := cx.1.2.1
  unfold wb_10_nimSum_12 at h
  refine lv_iload_n hx hb d_10_nimSum_12 rfl (lv_at hl 3 rfl) ?_
  refine lv_aload_n hx hb d_10_nimSum_13 rfl (lv_at hl 0 rfl) ?_
  refine gf_10_24 cx hw (i := 0) (r := 4) (by decide) sx_0 rfl d_10_nimSum_14 ?_
  refine lv_iload_n hx hb d_10_nimSum_17 rfl (lv_at hl 1 rfl) ?_
  refine hm_calli (hm_rV (i := 4) (As := [.int x1]) (rest := [.int x3]) cx hw (ct_2_heapsOf (by decide) (fun _ _ _ => rfl) h) (mw_10_146 cx.1.2.2.2.2 ⟨Nat.le_of_ble_eq_true rfl, Nat.le_of_ble_eq_true rfl⟩) (by decide) sx_4 rfl rfl hl.1 rfl (Nat.le_of_ble_eq_true rfl) d_10_nimSum_18 ⟨Nat.zero_le _, Nat.zero_le _⟩) hL (fun r2 S2 T2 H locs h hw hL => ?_)
  refine lv_icmp_ge (tgt := 39) hx hb d_10_nimSum_21 (by decide) (fun hc => ?_) (fun hc => ?_)
  · replace h := hm_pos hc h
    refine lv_iload_n hx hb d_10_nimSum_39 rfl (lv_at hl 2 rfl) ?_
    exact W.iret hx hb hr (fun t ht _ => ⟨_, _, _, rfl, h, by rw [ht]; exact hw⟩) hL d_10_nimSum_40
  · replace h := hm_neg hc h
    refine lv_iload_n hx hb d_10_nimSum_24 rfl (lv_at hl 2 rfl) ?_
    refine lv_aload_n hx hb d_10_nimSum_25 rfl (lv_at hl 0 rfl) ?_
    refine lv_iload_n hx hb d_10_nimSum_26 rfl (lv_at hl 3 rfl) ?_
    refine lv_iconst (v := 2) hx hb d_10_nimSum_27 (by decide) ?_
    refine hm_calli (hm_rV (i := 0) (As := [.int x3, .int 2]) (rest := [.int x2]) cx hw (ct_10_propertyOfHeap h) (mw_10_163 cx.1.2.2.2.2 ⟨Nat.le_of_ble_eq_true rfl, Nat.le_of_ble_eq_true rfl⟩) (by decide) sx_0 rfl rfl hl.1 rfl (Nat.le_of_ble_eq_true rfl) d_10_nimSum_28 ⟨Nat.zero_le _, Nat.zero_le _⟩) hL (fun r3 S3 T3 H locs h hw hL => ?_)
    refine lv_ixor hx hb d_10_nimSum_31 ?_
    refine lv_istore_n (lv' := [(2, .int (x2 ^^^ r3)), (0, .ref (o + 0)), (1, .int x1), (3, .int x3)]) hx hb d_10_nimSum_32 rfl hl (by decide) rfl (fun ls hl => ?_)
    refine lv_iinc (v := (x3 + 1)) (lv' := [(3, .int (x3 + 1)), (2, .int (x2 ^^^ r3)), (0, .ref (o + 0)), (1, .int x1)]) hx hb d_10_nimSum_33 hl (k := 3) rfl rfl (by decide) rfl (fun ls hl => ?_)
    refine lv_goto (tgt := 12) hx hb d_10_nimSum_36 (by decide) ?_
    exact k12 _ _ _ _ _ _ _ _ h hw hL (lv_sub hl [2, 3, 1, 0] rfl)
def wl_10_nimSum_12 (Q : Int32 → hm_S → hm_T → Prop) : Nat → Int32 → Int32 → Int32 → hm_S → hm_T → Prop
  | 0, _, _, _, _, _ => False
  | f + 1, x1, x2, x3, S, T => wb_10_nimSum_12 Q (wl_10_nimSum_12 Q f) x1 x2 x3 S T
theorem lp_10_nimSum_12 {Q : Int32 → hm_S → hm_T → Prop} (cx : hm_cx G p s m args c prog_1_method_35_code 4 "HeapGames") (hr : meth.sig.returnType = some .int) (hlk : meth.locks = false) : ∀ (f : Nat) (x1 : Int32) (x2 : Int32) (x3 : Int32) (S : hm_S) (T : hm_T) (H : Heap) (locs : List Loc) (ls : Array Slot), wl_10_nimSum_12 Q f x1 x2 x3 S T → hm_w G H0 o 74 shX S T H → hm_L o 74 locs → lv_has ls 4 [(0, .ref (o + 0)), (1, .int x1), (2, .int x2), (3, .int x3)] → W p l e rm_10_nimSum s m args below meth c H locs 0 0 (MQ below (hm_Qi G H0 o 74 shX Q) args s 0 0 (t_fr o (o + 74))) (F0 m 12 ls []) := by
  intro f
  induction f with
  | zero => intro x1 x2 x3 S T H locs ls h; exact h.elim
  | succ f ih => intro x1 x2 x3 S T H locs ls h hw hL hl; exact bk_10_nimSum_12 cx hr hlk ih h hw hL hl
def wp_10_nimSum (S : hm_S) (T : hm_T) (Q : Int32 → hm_S → hm_T → Prop) : Prop :=
  wp_10_layoutOf (S 0 9) S T (fun r1 S1 T1 => ∃ f, wl_10_nimSum_12 Q f r1 0 0 S1 T1)
set_option maxHeartbeats 4000000 in
set_option maxRecDepth 20000 in
theorem bk_10_nimSum_0 {Q : Int32 → hm_S → hm_T → Prop} (cx : hm_cx G p s m args c prog_1_method_35_code 4 "HeapGames") (hr : meth.sig.returnType = some .int) (hlk : meth.locks = false) {S : hm_S} {T : hm_T} {H : Heap} {locs : List Loc} {ls : Array Slot} (h : wp_10_nimSum S T Q) (hw : hm_w G H0 o 74 shX S T H) (hL : hm_L o 74 locs) (hl : lv_has ls 4 [(0, .ref (o + 0))]) : W p l e rm_10_nimSum s m args below meth c H locs 0 0 (MQ below (hm_Qi G H0 o 74 shX Q) args s 0 0 (t_fr o (o + 74))) (F0 m 0 ls []) := by
  have hx := cx.1.1
  have hb := cx.1.2.1
  unfold wp_10_nimSum at h
  refine lv_aload_n hx hb d_10_nimSum_0 rfl (lv_at hl 0 rfl) ?_
  refine gf_10_80 cx hw (i := 0) (by decide) sx_0 rfl d_10_nimSum_1 ?_
  refine hm_calli (hm_rS (As := [.int (S 0 9)]) (rest := []) cx hw (ct_10_layoutOf h) (mw_10_124 cx.1.2.2.2.2 ⟨Nat.le_of_ble_eq_true rfl, Nat.le_of_ble_eq_true rfl⟩) rfl hl.1 rfl (Nat.le_of_ble_eq_true rfl) d_10_nimSum_4 ⟨Nat.zero_le _, Nat.zero_le _⟩) hL (fun r1 S1 T1 H locs h hw hL => ?_)
  refine lv_istore_n (lv' := [(1, .int r1), (0, .ref (o + 0))]) hx hb d_10_nimSum_7 rfl hl (by decide) rfl (fun ls hl => ?_)
  refine lv_iconst (v := 0) hx hb d_10_nimSum_8 (by decide) ?_
  refine lv_istore_n (lv' := [(2, .int 0), (1, .int r1), (0, .ref (o + 0))]) hx hb d_10_nimSum_9 rfl hl (by decide) rfl (fun ls hl => ?_)
  refine lv_iconst (v := 0) hx hb d_10_nimSum_10 (by decide) ?_
  refine lv_istore_n (lv' := [(3, .int 0), (2, .int 0), (1, .int r1), (0, .ref (o + 0))]) hx hb d_10_nimSum_11 rfl hl (by decide) rfl (fun ls hl => ?_)
  obtain ⟨f, h⟩ := h
  exact lp_10_nimSum_12 cx hr hlk f _ _ _ _ _ _ _ _ h hw hL (lv_sub hl [3, 2, 1, 0] rfl)
set_option maxHeartbeats 4000000 in
set_option maxRecDepth 20000 in
theorem ct_10_nimSum {S : hm_S} {T : hm_T} {Q : Int32 → hm_S → hm_T → Prop} (h : wp_10_nimSum S T Q) : hm_M l G H0 o 74 shX y_10_nimSum prog_1_method_35_code 4 (some .int) rm_10_nimSum S T [.ref (o + 0)] (hm_Qi G H0 o 74 shX Q) := by
  refine Met.ofW (cc := prog_1_method_35_code) (maxL := 4) (ret := some .int) (by decide) rfl ?_
  intro p e s m args below meth c s₁ B hml hv
  obtain ⟨rfl, hK, hw⟩ := hv
  have cx : hm_cx G p s m _ c prog_1_method_35_code 4 "HeapGames" := ⟨⟨B.exec, B.bytes, hml, findClass_of_methodNamed B.named, fun w hq => atoms_spec (ws := hm_ws y_10_nimSum prog_1_method_35_code 4 (some .int)) B.pre w (List.mem_cons_of_mem _ hq)⟩, hK⟩
  have hl := lv_entry ([.ref (o + 0)]) (n := 4) (Nat.le_of_ble_eq_true rfl)
  rw [lg_entry_eq]
  generalize (lg_sl ([.ref (o + 0)]) ++ List.replicate (4 - (lg_sl ([.ref (o + 0)])).length) Slot.unset).toArray = ls at hl ⊢
  have hl : lv_has ls 4 [(0, .ref (o + 0))] := hl
  exact bk_10_nimSum_0 cx B.returns B.notSynchronized h hw (hm_L0 _ _) hl
/-! ===== HeapGames.period(I)I ===== -/
theorem d_10_period_0 : decode prog_1_method_36_code 0 = .ok (.iload_n 1, 1) := by decide +kernel
theorem d_10_period_1 : decode prog_1_method_36_code 1 = .ok (.ifCond .lt 8, 3) := by decide +kernel
theorem d_10_period_4 : decode prog_1_method_36_code 4 = .ok (.iload_n 1, 1) := by decide +kernel
theorem d_10_period_5 : decode prog_1_method_36_code 5 = .ok (.iconst 1, 1) := by decide +kernel
theorem d_10_period_6 : decode prog_1_method_36_code 6 = .ok (.if_icmp .le 6, 3) := by decide +kernel
theorem d_10_period_9 : decode prog_1_method_36_code 9 = .ok (.bipush (-2), 2) := by decide +kernel
theorem d_10_period_11 : decode prog_1_method_36_code 11 = .ok (.ireturn, 1) := by decide +kernel
theorem d_10_period_12 : decode prog_1_method_36_code 12 = .ok (.iload_n 1, 1) := by decide +kernel
theorem d_10_period_13 : decode prog_1_method_36_code 13 = .ok (.ifCond .ne 13, 3) := by decide +kernel
theorem d_10_period_16 : decode prog_1_method_36_code 16 = .ok (.aload_n 0, 1) := by decide +kernel
theorem d_10_period_17 : decode prog_1_method_36_code 17 = .ok (.getfield 46, 3) := by decide +kernel
theorem d_10_period_20 : decode prog_1_method_36_code 20 = .ok (.invokevirtual 245, 3) := by decide +kernel
theorem d_10_period_23 : decode prog_1_method_36_code 23 = .ok (.goto 10, 3) := by decide +kernel
theorem d_10_period_26 : decode prog_1_method_36_code 26 = .ok (.aload_n 0, 1) := by decide +kernel
theorem d_10_period_27 : decode prog_1_method_36_code 27 = .ok (.getfield 46, 3) := by decide +kernel
theorem d_10_period_30 : decode prog_1_method_36_code 30 = .ok (.invokevirtual 248, 3) := by decide +kernel
theorem d_10_period_33 : decode prog_1_method_36_code 33 = .ok (.ireturn, 1) := by decide +kernel
def wp_10_period (x1 : Int32) (S : hm_S) (T : hm_T) (Q : Int32 → hm_S → hm_T → Prop) : Prop :=
  (if x1 < 0 then Q (-2) S T else (if x1 ≤ 1 then (if x1 = 0 then wp_0_periodLength S T (fun r2 S2 T2 => Q r2 S2 T2) else wp_0_periodStart S T (fun r1 S1 T1 => Q r1 S1 T1)) else Q (-2) S T))
set_option maxHeartbeats 4000000 in
set_option maxRecDepth 20000 in
theorem bk_10_period_0 {Q : Int32 → hm_S → hm_T → Prop} (cx : hm_cx G p s m args c prog_1_method_36_code 2 "HeapGames") (hr : meth.sig.returnType = some .int) (hlk : meth.locks = false) {x1 : Int32} {S : hm_S} {T : hm_T} {H : Heap} {locs : List Loc} {ls : Array Slot} (h : wp_10_period x1 S T Q) (hw : hm_w G H0 o 74 shX S T H) (hL : hm_L o 74 locs) (hl : lv_has ls 2 [(0, .ref (o + 0)), (1, .int x1)]) : W p l e rm_10_period s m args below meth c H locs 0 0 (MQ below (hm_Qi G H0 o 74 shX Q) args s 0 0 (t_fr o (o + 74))) (F0 m 0 ls []) := by
  have hx := cx.1.1
  have hb := cx.1.2.1
  unfold wp_10_period at h
  refine lv_iload_n hx hb d_10_period_0 rfl (lv_at hl 1 rfl) ?_
  refine lv_if_lt (tgt := 9) hx hb d_10_period_1 (by decide) (fun hc => ?_) (fun hc => ?_)
  · replace h := hm_pos hc h
    refine lv_bipush (v := (-2)) hx hb d_10_period_9 (by decide) ?_
    exact W.iret hx hb hr (fun t ht _ => ⟨_, _, _, rfl, h, by rw [ht]; exact hw⟩) hL d_10_period_11
  · replace h := hm_neg hc h
    refine lv_iload_n hx hb d_10_period_4 rfl (lv_at hl 1 rfl) ?_
    refine lv_iconst (v := 1) hx hb d_10_period_5 (by decide) ?_
    refine lv_icmp_le (tgt := 12) hx hb d_10_period_6 (by decide) (fun hc => ?_) (fun hc => ?_)
    · replace h := hm_pos hc h
      refine lv_iload_n hx hb d_10_period_12 rfl (lv_at hl 1 rfl) ?_
      refine lv_if_ne (tgt := 26) hx hb d_10_period_13 (by decide) (fun hc => ?_) (fun hc => ?_)
      · replace h := hm_neg hc h
        refine lv_aload_n hx hb d_10_period_26 rfl (lv_at hl 0 rfl) ?_
        refine gf_10_46 cx hw (i := 0) (r := 59) (by decide) sx_0 rfl d_10_period_27 ?_
        refine hm_calli (hm_rV (i := 59) (As := []) (rest := []) cx hw (ct_0_periodStart h) (mw_10_248 cx.1.2.2.2.2 ⟨Nat.le_of_ble_eq_true rfl, Nat.le_of_ble_eq_true rfl⟩) (by decide) sx_59 rfl rfl hl.1 rfl (Nat.le_of_ble_eq_true rfl) d_10_period_30 ⟨Nat.zero_le _, Nat.zero_le _⟩) hL (fun r1 S1 T1 H locs h hw hL => ?_)
        exact W.iret hx hb hr (fun t ht _ => ⟨_, _, _, rfl, h, by rw [ht]; exact hw⟩) hL d_10_period_33
      · replace h := hm_pos hc h
        refine lv_aload_n hx hb d_10_period_16 rfl (lv_at hl 0 rfl) ?_
        refine gf_10_46 cx hw (i := 0) (r := 59) (by decide) sx_0 rfl d_10_period_17 ?_
        refine hm_calli (hm_rV (i := 59) (As := []) (rest := []) cx hw (ct_0_periodLength h) (mw_10_245 cx.1.2.2.2.2 ⟨Nat.le_of_ble_eq_true rfl, Nat.le_of_ble_eq_true rfl⟩) (by decide) sx_59 rfl rfl hl.1 rfl (Nat.le_of_ble_eq_true rfl) d_10_period_20 ⟨Nat.zero_le _, Nat.zero_le _⟩) hL (fun r2 S2 T2 H locs h hw hL => ?_)
        refine lv_goto (tgt := 33) hx hb d_10_period_23 (by decide) ?_
        exact W.iret hx hb hr (fun t ht _ => ⟨_, _, _, rfl, h, by rw [ht]; exact hw⟩) hL d_10_period_33
    · replace h := hm_neg hc h
      refine lv_bipush (v := (-2)) hx hb d_10_period_9 (by decide) ?_
      exact W.iret hx hb hr (fun t ht _ => ⟨_, _, _, rfl, h, by rw [ht]; exact hw⟩) hL d_10_period_11
set_option maxHeartbeats 4000000 in
set_option maxRecDepth 20000 in
theorem ct_10_period {x1 : Int32} {S : hm_S} {T : hm_T} {Q : Int32 → hm_S → hm_T → Prop} (h : wp_10_period x1 S T Q) : hm_M l G H0 o 74 shX y_10_period prog_1_method_36_code 2 (some .int) rm_10_period S T [.ref (o + 0), .int x1] (hm_Qi G H0 o 74 shX Q) := by
  refine Met.ofW (cc := prog_1_method_36_code) (maxL := 2) (ret := some .int) (by decide) rfl ?_
  intro p e s m args below meth c s₁ B hml hv
  obtain ⟨rfl, hK, hw⟩ := hv
  have cx : hm_cx G p s m _ c prog_1_method_36_code 2 "HeapGames" := ⟨⟨B.exec, B.bytes, hml, findClass_of_methodNamed B.named, fun w hq => atoms_spec (ws := hm_ws y_10_period prog_1_method_36_code 2 (some .int)) B.pre w (List.mem_cons_of_mem _ hq)⟩, hK⟩
  have hl := lv_entry ([.ref (o + 0), .int x1]) (n := 2) (Nat.le_of_ble_eq_true rfl)
  rw [lg_entry_eq]
  generalize (lg_sl ([.ref (o + 0), .int x1]) ++ List.replicate (2 - (lg_sl ([.ref (o + 0), .int x1])).length) Slot.unset).toArray = ls at hl ⊢
  have hl : lv_has ls 2 [(0, .ref (o + 0)), (1, .int x1)] := hl
  exact bk_10_period_0 cx B.returns B.notSynchronized h hw (hm_L0 _ _) hl
/-! ===== HeapGames.numberOf(I)I ===== -/
theorem d_10_numberOf_0 : decode prog_1_method_39_code 0 = .ok (.iload_n 1, 1) := by decide +kernel
theorem d_10_numberOf_1 : decode prog_1_method_39_code 1 = .ok (.tableswitch 120 0 6 #[43, 58, 73, 81, 96, 104, 112], 43) := by decide +kernel
theorem d_10_numberOf_44 : decode prog_1_method_39_code 44 = .ok (.aload_n 0, 1) := by decide +kernel
theorem d_10_numberOf_45 : decode prog_1_method_39_code 45 = .ok (.getfield 24, 3) := by decide +kernel
theorem d_10_numberOf_48 : decode prog_1_method_39_code 48 = .ok (.aload_n 0, 1) := by decide +kernel
theorem d_10_numberOf_49 : decode prog_1_method_39_code 49 = .ok (.getfield 80, 3) := by decide +kernel
theorem d_10_numberOf_52 : decode prog_1_method_39_code 52 = .ok (.invokestatic 124, 3) := by decide +kernel
theorem d_10_numberOf_55 : decode prog_1_method_39_code 55 = .ok (.invokevirtual 146, 3) := by decide +kernel
theorem d_10_numberOf_58 : decode prog_1_method_39_code 58 = .ok (.ireturn, 1) := by decide +kernel
theorem d_10_numberOf_59 : decode prog_1_method_39_code 59 = .ok (.aload_n 0, 1) := by decide +kernel
theorem d_10_numberOf_60 : decode prog_1_method_39_code 60 = .ok (.getfield 24, 3) := by decide +kernel
theorem d_10_numberOf_63 : decode prog_1_method_39_code 63 = .ok (.aload_n 0, 1) := by decide +kernel
theorem d_10_numberOf_64 : decode prog_1_method_39_code 64 = .ok (.getfield 80, 3) := by decide +kernel
theorem d_10_numberOf_67 : decode prog_1_method_39_code 67 = .ok (.invokestatic 124, 3) := by decide +kernel
theorem d_10_numberOf_70 : decode prog_1_method_39_code 70 = .ok (.invokevirtual 127, 3) := by decide +kernel
theorem d_10_numberOf_73 : decode prog_1_method_39_code 73 = .ok (.ireturn, 1) := by decide +kernel
theorem d_10_numberOf_74 : decode prog_1_method_39_code 74 = .ok (.aload_n 0, 1) := by decide +kernel
theorem d_10_numberOf_75 : decode prog_1_method_39_code 75 = .ok (.getfield 80, 3) := by decide +kernel
theorem d_10_numberOf_78 : decode prog_1_method_39_code 78 = .ok (.invokestatic 137, 3) := by decide +kernel
theorem d_10_numberOf_81 : decode prog_1_method_39_code 81 = .ok (.ireturn, 1) := by decide +kernel
theorem d_10_numberOf_82 : decode prog_1_method_39_code 82 = .ok (.aload_n 0, 1) := by decide +kernel
theorem d_10_numberOf_83 : decode prog_1_method_39_code 83 = .ok (.getfield 24, 3) := by decide +kernel
theorem d_10_numberOf_86 : decode prog_1_method_39_code 86 = .ok (.aload_n 0, 1) := by decide +kernel
theorem d_10_numberOf_87 : decode prog_1_method_39_code 87 = .ok (.getfield 80, 3) := by decide +kernel
theorem d_10_numberOf_90 : decode prog_1_method_39_code 90 = .ok (.invokestatic 124, 3) := by decide +kernel
theorem d_10_numberOf_93 : decode prog_1_method_39_code 93 = .ok (.invokevirtual 270, 3) := by decide +kernel
theorem d_10_numberOf_96 : decode prog_1_method_39_code 96 = .ok (.ireturn, 1) := by decide +kernel
theorem d_10_numberOf_97 : decode prog_1_method_39_code 97 = .ok (.aload_n 0, 1) := by decide +kernel
theorem d_10_numberOf_98 : decode prog_1_method_39_code 98 = .ok (.getfield 28, 3) := by decide +kernel
theorem d_10_numberOf_101 : decode prog_1_method_39_code 101 = .ok (.getfield 184, 3) := by decide +kernel
theorem d_10_numberOf_104 : decode prog_1_method_39_code 104 = .ok (.ireturn, 1) := by decide +kernel
theorem d_10_numberOf_105 : decode prog_1_method_39_code 105 = .ok (.aload_n 0, 1) := by decide +kernel
theorem d_10_numberOf_106 : decode prog_1_method_39_code 106 = .ok (.getfield 76, 3) := by decide +kernel
theorem d_10_numberOf_109 : decode prog_1_method_39_code 109 = .ok (.getfield 166, 3) := by decide +kernel
theorem d_10_numberOf_112 : decode prog_1_method_39_code 112 = .ok (.ireturn, 1) := by decide +kernel
theorem d_10_numberOf_113 : decode prog_1_method_39_code 113 = .ok (.aload_n 0, 1) := by decide +kernel
theorem d_10_numberOf_114 : decode prog_1_method_39_code 114 = .ok (.getfield 53, 3) := by decide +kernel
theorem d_10_numberOf_117 : decode prog_1_method_39_code 117 = .ok (.getfield 104, 3) := by decide +kernel
theorem d_10_numberOf_120 : decode prog_1_method_39_code 120 = .ok (.ireturn, 1) := by decide +kernel
theorem d_10_numberOf_121 : decode prog_1_method_39_code 121 = .ok (.aload_n 0, 1) := by decide +kernel
theorem d_10_numberOf_122 : decode prog_1_method_39_code 122 = .ok (.getfield 37, 3) := by decide +kernel
theorem d_10_numberOf_125 : decode prog_1_method_39_code 125 = .ok (.aload_n 0, 1) := by decide +kernel
theorem d_10_numberOf_126 : decode prog_1_method_39_code 126 = .ok (.getfield 80, 3) := by decide +kernel
theorem d_10_numberOf_129 : decode prog_1_method_39_code 129 = .ok (.invokevirtual 273, 3) := by decide +kernel
theorem d_10_numberOf_132 : decode prog_1_method_39_code 132 = .ok (.ireturn, 1) := by decide +kernel
def wp_10_numberOf (x1 : Int32) (S : hm_S) (T : hm_T) (Q : Int32 → hm_S → hm_T → Prop) : Prop :=
  (if x1 = 0 then wp_10_layoutOf (S 0 9) S T (fun r1 S1 T1 => wp_2_heapsOf r1 S1 T1 (fun r2 S2 T2 => Q r2 S2 T2)) else (if x1 = 1 then wp_10_layoutOf (S 0 9) S T (fun r3 S3 T3 => wp_2_countersOf r3 S3 T3 (fun r4 S4 T4 => Q r4 S4 T4)) else (if x1 = 2 then wp_10_passOf (S 0 9) S T (fun r5 S5 T5 => Q r5 S5 T5) else (if x1 = 3 then wp_10_layoutOf (S 0 9) S T (fun r6 S6 T6 => wp_2_boundHeapsOf r6 S6 T6 (fun r7 S7 T7 => Q r7 S7 T7)) else (if x1 = 4 then Q (S 19 11) S T else (if x1 = 5 then Q (S 71 2) S T else (if x1 = 6 then Q (S 64 1) S T else wp_8_reachableFrom (S 0 9) S T (fun r8 S8 T8 => Q r8 S8 T8))))))))
set_option maxHeartbeats 4000000 in
set_option maxRecDepth 20000 in
theorem bk_10_numberOf_0 {Q : Int32 → hm_S → hm_T → Prop} (cx : hm_cx G p s m args c prog_1_method_39_code 2 "HeapGames") (hr : meth.sig.returnType = some .int) (hlk : meth.locks = false) {x1 : Int32} {S : hm_S} {T : hm_T} {H : Heap} {locs : List Loc} {ls : Array Slot} (h : wp_10_numberOf x1 S T Q) (hw : hm_w G H0 o 74 shX S T H) (hL : hm_L o 74 locs) (hl : lv_has ls 2 [(0, .ref (o + 0)), (1, .int x1)]) : W p l e rm_10_numberOf s m args below meth c H locs 0 0 (MQ below (hm_Qi G H0 o 74 shX Q) args s 0 0 (t_fr o (o + 74))) (F0 m 0 ls []) := by
  have hx := cx.1.1
  have hb := cx.1.2.1
  unfold wp_10_numberOf at h
  refine lv_iload_n hx hb d_10_numberOf_0 rfl (lv_at hl 1 rfl) ?_
  refine hm_cs (x := x1) (v := 0) (fun hc => ?_) (fun hc0 => ?_)
  · replace h := hm_pos hc h
    refine lv_tableIn (tgt := 44) (off := 43) hx hb d_10_numberOf_1 (by rw [hc]; decide) (by rw [hc]; decide) (by rw [hc]; rfl) (by decide) ?_
    refine lv_aload_n hx hb d_10_numberOf_44 rfl (lv_at hl 0 rfl) ?_
    refine gf_10_24 cx hw (i := 0) (r := 4) (by decide) sx_0 rfl d_10_numberOf_45 ?_
    refine lv_aload_n hx hb d_10_numberOf_48 rfl (lv_at hl 0 rfl) ?_
    refine gf_10_80 cx hw (i := 0) (by decide) sx_0 rfl d_10_numberOf_49 ?_
    refine hm_calli (hm_rS (As := [.int (S 0 9)]) (rest := [.ref (o + 4)]) cx hw (ct_10_layoutOf h) (mw_10_124 cx.1.2.2.2.2 ⟨Nat.le_of_ble_eq_true rfl, Nat.le_of_ble_eq_true rfl⟩) rfl hl.1 rfl (Nat.le_of_ble_eq_true rfl) d_10_numberOf_52 ⟨Nat.zero_le _, Nat.zero_le _⟩) hL (fun r1 S1 T1 H locs h hw hL => ?_)
    refine hm_calli (hm_rV (i := 4) (As := [.int r1]) (rest := []) cx hw (ct_2_heapsOf (by decide) (fun _ _ _ => rfl) h) (mw_10_146 cx.1.2.2.2.2 ⟨Nat.le_of_ble_eq_true rfl, Nat.le_of_ble_eq_true rfl⟩) (by decide) sx_4 rfl rfl hl.1 rfl (Nat.le_of_ble_eq_true rfl) d_10_numberOf_55 ⟨Nat.zero_le _, Nat.zero_le _⟩) hL (fun r2 S2 T2 H locs h hw hL => ?_)
    exact W.iret hx hb hr (fun t ht _ => ⟨_, _, _, rfl, h, by rw [ht]; exact hw⟩) hL d_10_numberOf_58
  replace h := hm_neg hc0 h
  refine hm_cs (x := x1) (v := 1) (fun hc => ?_) (fun hc1 => ?_)
  · replace h := hm_pos hc h
    refine lv_tableIn (tgt := 59) (off := 58) hx hb d_10_numberOf_1 (by rw [hc]; decide) (by rw [hc]; decide) (by rw [hc]; rfl) (by decide) ?_
    refine lv_aload_n hx hb d_10_numberOf_59 rfl (lv_at hl 0 rfl) ?_
    refine gf_10_24 cx hw (i := 0) (r := 4) (by decide) sx_0 rfl d_10_numberOf_60 ?_
    refine lv_aload_n hx hb d_10_numberOf_63 rfl (lv_at hl 0 rfl) ?_
    refine gf_10_80 cx hw (i := 0) (by decide) sx_0 rfl d_10_numberOf_64 ?_
    refine hm_calli (hm_rS (As := [.int (S 0 9)]) (rest := [.ref (o + 4)]) cx hw (ct_10_layoutOf h) (mw_10_124 cx.1.2.2.2.2 ⟨Nat.le_of_ble_eq_true rfl, Nat.le_of_ble_eq_true rfl⟩) rfl hl.1 rfl (Nat.le_of_ble_eq_true rfl) d_10_numberOf_67 ⟨Nat.zero_le _, Nat.zero_le _⟩) hL (fun r3 S3 T3 H locs h hw hL => ?_)
    refine hm_calli (hm_rV (i := 4) (As := [.int r3]) (rest := []) cx hw (ct_2_countersOf (by decide) (fun _ _ _ => rfl) h) (mw_10_127 cx.1.2.2.2.2 ⟨Nat.le_of_ble_eq_true rfl, Nat.le_of_ble_eq_true rfl⟩) (by decide) sx_4 rfl rfl hl.1 rfl (Nat.le_of_ble_eq_true rfl) d_10_numberOf_70 ⟨Nat.zero_le _, Nat.zero_le _⟩) hL (fun r4 S4 T4 H locs h hw hL => ?_)
    exact W.iret hx hb hr (fun t ht _ => ⟨_, _, _, rfl, h, by rw [ht]; exact hw⟩) hL d_10_numberOf_73
  replace h := hm_neg hc1 h
  refine hm_cs (x := x1) (v := 2) (fun hc => ?_) (fun hc2 => ?_)
  · replace h := hm_pos hc h
    refine lv_tableIn (tgt := 74) (off := 73) hx hb d_10_numberOf_1 (by rw [hc]; decide) (by rw [hc]; decide) (by rw [hc]; rfl) (by decide) ?_
    refine lv_aload_n hx hb d_10_numberOf_74 rfl (lv_at hl 0 rfl) ?_
    refine gf_10_80 cx hw (i := 0) (by decide) sx_0 rfl d_10_numberOf_75 ?_
    refine hm_calli (hm_rS (As := [.int (S 0 9)]) (rest := []) cx hw (ct_10_passOf h) (mw_10_137 cx.1.2.2.2.2 ⟨Nat.le_of_ble_eq_true rfl, Nat.le_of_ble_eq_true rfl⟩) rfl hl.1 rfl (Nat.le_of_ble_eq_true rfl) d_10_numberOf_78 ⟨Nat.zero_le _, Nat.zero_le _⟩) hL (fun r5 S5 T5 H locs h hw hL => ?_)
    exact W.iret hx hb hr (fun t ht _ => ⟨_, _, _, rfl, h, by rw [ht]; exact hw⟩) hL d_10_numberOf_81
  replace h := hm_neg hc2 h
  refine hm_cs (x := x1) (v := 3) (fun hc => ?_) (fun hc3 => ?_)
  · replace h := hm_pos hc h
    refine lv_tableIn (tgt := 82) (off := 81) hx hb d_10_numberOf_1 (by rw [hc]; decide) (by rw [hc]; decide) (by rw [hc]; rfl) (by decide) ?_
    refine lv_aload_n hx hb d_10_numberOf_82 rfl (lv_at hl 0 rfl) ?_
    refine gf_10_24 cx hw (i := 0) (r := 4) (by decide) sx_0 rfl d_10_numberOf_83 ?_
    refine lv_aload_n hx hb d_10_numberOf_86 rfl (lv_at hl 0 rfl) ?_
    refine gf_10_80 cx hw (i := 0) (by decide) sx_0 rfl d_10_numberOf_87 ?_
    refine hm_calli (hm_rS (As := [.int (S 0 9)]) (rest := [.ref (o + 4)]) cx hw (ct_10_layoutOf h) (mw_10_124 cx.1.2.2.2.2 ⟨Nat.le_of_ble_eq_true rfl, Nat.le_of_ble_eq_true rfl⟩) rfl hl.1 rfl (Nat.le_of_ble_eq_true rfl) d_10_numberOf_90 ⟨Nat.zero_le _, Nat.zero_le _⟩) hL (fun r6 S6 T6 H locs h hw hL => ?_)
    refine hm_calli (hm_rV (i := 4) (As := [.int r6]) (rest := []) cx hw (ct_2_boundHeapsOf (by decide) (fun _ _ _ => rfl) h) (mw_10_270 cx.1.2.2.2.2 ⟨Nat.le_of_ble_eq_true rfl, Nat.le_of_ble_eq_true rfl⟩) (by decide) sx_4 rfl rfl hl.1 rfl (Nat.le_of_ble_eq_true rfl) d_10_numberOf_93 ⟨Nat.zero_le _, Nat.zero_le _⟩) hL (fun r7 S7 T7 H locs h hw hL => ?_)
    exact W.iret hx hb hr (fun t ht _ => ⟨_, _, _, rfl, h, by rw [ht]; exact hw⟩) hL d_10_numberOf_96
  replace h := hm_neg hc3 h
  refine hm_cs (x := x1) (v := 4) (fun hc => ?_) (fun hc4 => ?_)
  · replace h := hm_pos hc h
    refine lv_tableIn (tgt := 97) (off := 96) hx hb d_10_numberOf_1 (by rw [hc]; decide) (by rw [hc]; decide) (by rw [hc]; rfl) (by decide) ?_
    refine lv_aload_n hx hb d_10_numberOf_97 rfl (lv_at hl 0 rfl) ?_
    refine gf_10_28 cx hw (i := 0) (r := 19) (by decide) sx_0 rfl d_10_numberOf_98 ?_
    refine gf_10_184 cx hw (i := 19) (by decide) sx_19 rfl d_10_numberOf_101 ?_
    exact W.iret hx hb hr (fun t ht _ => ⟨_, _, _, rfl, h, by rw [ht]; exact hw⟩) hL d_10_numberOf_104
  replace h := hm_neg hc4 h
  refine hm_cs (x := x1) (v := 5) (fun hc => ?_) (fun hc5 => ?_)
  · replace h := hm_pos hc h
    refine lv_tableIn (tgt := 105) (off := 104) hx hb d_10_numberOf_1 (by rw [hc]; decide) (by rw [hc]; decide) (by rw [hc]; rfl) (by decide) ?_
    refine lv_aload_n hx hb d_10_numberOf_105 rfl (lv_at hl 0 rfl) ?_
    refine gf_10_76 cx hw (i := 0) (r := 71) (by decide) sx_0 rfl d_10_numberOf_106 ?_
    refine gf_10_166 cx hw (i := 71) (by decide) sx_71 rfl d_10_numberOf_109 ?_
    exact W.iret hx hb hr (fun t ht _ => ⟨_, _, _, rfl, h, by rw [ht]; exact hw⟩) hL d_10_numberOf_112
  replace h := hm_neg hc5 h
  refine hm_cs (x := x1) (v := 6) (fun hc => ?_) (fun hc6 => ?_)
  · replace h := hm_pos hc h
    refine lv_tableIn (tgt := 113) (off := 112) hx hb d_10_numberOf_1 (by rw [hc]; decide) (by rw [hc]; decide) (by rw [hc]; rfl) (by decide) ?_
    refine lv_aload_n hx hb d_10_numberOf_113 rfl (lv_at hl 0 rfl) ?_
    refine gf_10_53 cx hw (i := 0) (r := 64) (by decide) sx_0 rfl d_10_numberOf_114 ?_
    refine gf_10_104 cx hw (i := 64) (by decide) sx_64 rfl d_10_numberOf_117 ?_
    exact W.iret hx hb hr (fun t ht _ => ⟨_, _, _, rfl, h, by rw [ht]; exact hw⟩) hL d_10_numberOf_120
  replace h := hm_neg hc6 h
  refine lv_tableOut (tgt := 121) hx hb d_10_numberOf_1 (hm_out0_6 hc0 hc1 hc2 hc3 hc4 hc5 hc6) (by decide) ?_
  refine lv_aload_n hx hb d_10_numberOf_121 rfl (lv_at hl 0 rfl) ?_
  refine gf_10_37 cx hw (i := 0) (r := 36) (by decide) sx_0 rfl d_10_numberOf_122 ?_
  refine lv_aload_n hx hb d_10_numberOf_125 rfl (lv_at hl 0 rfl) ?_
  refine gf_10_80 cx hw (i := 0) (by decide) sx_0 rfl d_10_numberOf_126 ?_
  refine hm_calli (hm_rV (i := 36) (As := [.int (S 0 9)]) (rest := []) cx hw (ct_8_reachableFrom h) (mw_10_273 cx.1.2.2.2.2 ⟨Nat.le_of_ble_eq_true rfl, Nat.le_of_ble_eq_true rfl⟩) (by decide) sx_36 rfl rfl hl.1 rfl (Nat.le_of_ble_eq_true rfl) d_10_numberOf_129 ⟨Nat.zero_le _, Nat.zero_le _⟩) hL (fun r8 S8 T8 H locs h hw hL => ?_)
  exact W.iret hx hb hr (fun t ht _ => ⟨_, _, _, rfl, h, by rw [ht]; exact hw⟩) hL d_10_numberOf_132
set_option maxHeartbeats 4000000 in
set_option maxRecDepth 20000 in
theorem ct_10_numberOf {x1 : Int32} {S : hm_S} {T : hm_T} {Q : Int32 → hm_S → hm_T → Prop} (h : wp_10_numberOf x1 S T Q) : hm_M l G H0 o 74 shX y_10_numberOf prog_1_method_39_code 2 (some .int) rm_10_numberOf S T [.ref (o + 0), .int x1] (hm_Qi G H0 o 74 shX Q) := by
  refine Met.ofW (cc := prog_1_method_39_code) (maxL := 2) (ret := some .int) (by decide) rfl ?_
  intro p e s m args below meth c s₁ B hml hv
  obtain ⟨rfl, hK, hw⟩ := hv
  have cx : hm_cx G p s m _ c prog_1_method_39_code 2 "HeapGames" := ⟨⟨B.exec, B.bytes, hml, findClass_of_methodNamed B.named, fun w hq => atoms_spec (ws := hm_ws y_10_numberOf prog_1_method_39_code 2 (some .int)) B.pre w (List.mem_cons_of_mem _ hq)⟩, hK⟩
  have hl := lv_entry ([.ref (o + 0), .int x1]) (n := 2) (Nat.le_of_ble_eq_true rfl)
  rw [lg_entry_eq]
  generalize (lg_sl ([.ref (o + 0), .int x1]) ++ List.replicate (2 - (lg_sl ([.ref (o + 0), .int x1])).length) Slot.unset).toArray = ls at hl ⊢
  have hl : lv_has ls 2 [(0, .ref (o + 0)), (1, .int x1)] := hl
  exact bk_10_numberOf_0 cx B.returns B.notSynchronized h hw (hm_L0 _ _) hl
/-! ===== HeapGames.count(I)I ===== -/
theorem d_10_count_0 : decode prog_1_method_37_code 0 = .ok (.iload_n 1, 1) := by decide +kernel
theorem d_10_count_1 : decode prog_1_method_37_code 1 = .ok (.ifCond .lt 9, 3) := by decide +kernel
theorem d_10_count_4 : decode prog_1_method_37_code 4 = .ok (.iload_n 1, 1) := by decide +kernel
theorem d_10_count_5 : decode prog_1_method_37_code 5 = .ok (.bipush 7, 2) := by decide +kernel
theorem d_10_count_7 : decode prog_1_method_37_code 7 = .ok (.if_icmp .le 6, 3) := by decide +kernel
theorem d_10_count_10 : decode prog_1_method_37_code 10 = .ok (.bipush (-2), 2) := by decide +kernel
theorem d_10_count_12 : decode prog_1_method_37_code 12 = .ok (.ireturn, 1) := by decide +kernel
theorem d_10_count_13 : decode prog_1_method_37_code 13 = .ok (.iload_n 1, 1) := by decide +kernel
theorem d_10_count_14 : decode prog_1_method_37_code 14 = .ok (.iconst 4, 1) := by decide +kernel
theorem d_10_count_15 : decode prog_1_method_37_code 15 = .ok (.if_icmp .ne 17, 3) := by decide +kernel
theorem d_10_count_18 : decode prog_1_method_37_code 18 = .ok (.aload_n 0, 1) := by decide +kernel
theorem d_10_count_19 : decode prog_1_method_37_code 19 = .ok (.getfield 28, 3) := by decide +kernel
theorem d_10_count_22 : decode prog_1_method_37_code 22 = .ok (.aload_n 0, 1) := by decide +kernel
theorem d_10_count_23 : decode prog_1_method_37_code 23 = .ok (.getfield 80, 3) := by decide +kernel
theorem d_10_count_26 : decode prog_1_method_37_code 26 = .ok (.invokevirtual 181, 3) := by decide +kernel
theorem d_10_count_29 : decode prog_1_method_37_code 29 = .ok (.goto 20, 3) := by decide +kernel
theorem d_10_count_32 : decode prog_1_method_37_code 32 = .ok (.iload_n 1, 1) := by decide +kernel
theorem d_10_count_33 : decode prog_1_method_37_code 33 = .ok (.bipush 7, 2) := by decide +kernel
theorem d_10_count_35 : decode prog_1_method_37_code 35 = .ok (.if_icmp .ne 14, 3) := by decide +kernel
theorem d_10_count_38 : decode prog_1_method_37_code 38 = .ok (.aload_n 0, 1) := by decide +kernel
theorem d_10_count_39 : decode prog_1_method_37_code 39 = .ok (.getfield 37, 3) := by decide +kernel
theorem d_10_count_42 : decode prog_1_method_37_code 42 = .ok (.aload_n 0, 1) := by decide +kernel
theorem d_10_count_43 : decode prog_1_method_37_code 43 = .ok (.getfield 80, 3) := by decide +kernel
theorem d_10_count_46 : decode prog_1_method_37_code 46 = .ok (.invokevirtual 236, 3) := by decide +kernel
theorem d_10_count_49 : decode prog_1_method_37_code 49 = .ok (.aload_n 0, 1) := by decide +kernel
theorem d_10_count_50 : decode prog_1_method_37_code 50 = .ok (.iload_n 1, 1) := by decide +kernel
theorem d_10_count_51 : decode prog_1_method_37_code 51 = .ok (.invokevirtual 251, 3) := by decide +kernel
theorem d_10_count_54 : decode prog_1_method_37_code 54 = .ok (.ireturn, 1) := by decide +kernel
def wb_10_count_49 (Q : Int32 → hm_S → hm_T → Prop) (x1 : Int32) (S : hm_S) (T : hm_T) : Prop :=
  wp_10_numberOf x1 S T (fun r1 S1 T1 => Q r1 S1 T1)
set_option maxHeartbeats 4000000 in
set_option maxRecDepth 20000 in
theorem bk_10_count_49 {Q : Int32 → hm_S → hm_T → Prop} (cx : hm_cx G p s m args c prog_1_method_37_code 2 "HeapGames") (hr : meth.sig.returnType = some .int) (hlk : meth.locks = false) {x1 : Int32} {S : hm_S} {T : hm_T} {H : Heap} {locs : List Loc} {ls : Array Slot} (h : wb_10_count_49 Q x1 S T) (hw : hm_w G H0 o 74 shX S T H) (hL : hm_L o 74 locs) (hl : lv_has ls 2 [(0, .ref (o + 0)), (1, .int x1)]) : W p l e rm_10_count s m args below meth c H locs 0 0 (MQ below (hm_Qi G H0 o 74 shX Q) args s 0 0 (t_fr o (o + 74))) (F0 m 49 ls []) := by
  have hx := cx.1.1
  have hb := cx.1.2.1
  unfold wb_10_count_49 at h
  refine lv_aload_n hx hb d_10_count_49 rfl (lv_at hl 0 rfl) ?_
  refine lv_iload_n hx hb d_10_count_50 rfl (lv_at hl 1 rfl) ?_
  refine hm_calli (hm_rV (i := 0) (As := [.int x1]) (rest := []) cx hw (ct_10_numberOf h) (mw_10_251 cx.1.2.2.2.2 ⟨Nat.le_of_ble_eq_true rfl, Nat.le_of_ble_eq_true rfl⟩) (by decide) sx_0 rfl rfl hl.1 rfl (Nat.le_of_ble_eq_true rfl) d_10_count_51 ⟨Nat.zero_le _, Nat.zero_le _⟩) hL (fun r1 S1 T1 H locs h hw hL => ?_)
  exact W.iret hx hb hr (fun t ht _ => ⟨_, _, _, rfl, h, by rw [ht]; exact hw⟩) hL d_10_count_54
def wp_10_count (x1 : Int32) (S : hm_S) (T : hm_T) (Q : Int32 → hm_S → hm_T → Prop) : Prop :=
  (if x1 < 0 then Q (-2) S T else (if x1 ≤ 7 then (if x1 = 4 then wp_3_list (S 0 9) S T (fun S3 T3 => wb_10_count_49 Q x1 S3 T3) else (if x1 = 7 then wp_8_explore (S 0 9) S T (fun S2 T2 => wb_10_count_49 Q x1 S2 T2) else wb_10_count_49 Q x1 S T)) else Q (-2) S T))
set_option maxHeartbeats 4000000 in
set_option maxRecDepth 20000 in
theorem bk_10_count_0 {Q : Int32 → hm_S → hm_T → Prop} (cx : hm_cx G p s m args c prog_1_method_37_code 2 "HeapGames") (hr : meth.sig.returnType = some .int) (hlk : meth.locks = false) {x1 : Int32} {S : hm_S} {T : hm_T} {H : Heap} {locs : List Loc} {ls : Array Slot} (h : wp_10_count x1 S T Q) (hw : hm_w G H0 o 74 shX S T H) (hL : hm_L o 74 locs) (hl : lv_has ls 2 [(0, .ref (o + 0)), (1, .int x1)]) : W p l e rm_10_count s m args below meth c H locs 0 0 (MQ below (hm_Qi G H0 o 74 shX Q) args s 0 0 (t_fr o (o + 74))) (F0 m 0 ls []) := by
  have hx := cx.1.1
  have hb := cx.1.2.1
  unfold wp_10_count at h
  refine lv_iload_n hx hb d_10_count_0 rfl (lv_at hl 1 rfl) ?_
  refine lv_if_lt (tgt := 10) hx hb d_10_count_1 (by decide) (fun hc => ?_) (fun hc => ?_)
  · replace h := hm_pos hc h
    refine lv_bipush (v := (-2)) hx hb d_10_count_10 (by decide) ?_
    exact W.iret hx hb hr (fun t ht _ => ⟨_, _, _, rfl, h, by rw [ht]; exact hw⟩) hL d_10_count_12
  · replace h := hm_neg hc h
    refine lv_iload_n hx hb d_10_count_4 rfl (lv_at hl 1 rfl) ?_
    refine lv_bipush (v := 7) hx hb d_10_count_5 (by decide) ?_
    refine lv_icmp_le (tgt := 13) hx hb d_10_count_7 (by decide) (fun hc => ?_) (fun hc => ?_)
    · replace h := hm_pos hc h
      refine lv_iload_n hx hb d_10_count_13 rfl (lv_at hl 1 rfl) ?_
      refine lv_iconst (v := 4) hx hb d_10_count_14 (by decide) ?_
      refine lv_icmp_ne (tgt := 32) hx hb d_10_count_15 (by decide) (fun hc => ?_) (fun hc => ?_)
      · replace h := hm_neg hc h
        refine lv_iload_n hx hb d_10_count_32 rfl (lv_at hl 1 rfl) ?_
        refine lv_bipush (v := 7) hx hb d_10_count_33 (by decide) ?_
        refine lv_icmp_ne (tgt := 49) hx hb d_10_count_35 (by decide) (fun hc => ?_) (fun hc => ?_)
        · replace h := hm_neg hc h
          exact bk_10_count_49 cx hr hlk h hw hL (lv_sub hl [0, 1] rfl)
        · replace h := hm_pos hc h
          refine lv_aload_n hx hb d_10_count_38 rfl (lv_at hl 0 rfl) ?_
          refine gf_10_37 cx hw (i := 0) (r := 36) (by decide) sx_0 rfl d_10_count_39 ?_
          refine lv_aload_n hx hb d_10_count_42 rfl (lv_at hl 0 rfl) ?_
          refine gf_10_80 cx hw (i := 0) (by decide) sx_0 rfl d_10_count_43 ?_
          refine hm_callv (hm_rV (i := 36) (As := [.int (S 0 9)]) (rest := []) cx hw (ct_8_explore h) (mw_10_236 cx.1.2.2.2.2 ⟨Nat.le_of_ble_eq_true rfl, Nat.le_of_ble_eq_true rfl⟩) (by decide) sx_36 rfl rfl hl.1 rfl (Nat.le_of_ble_eq_true rfl) d_10_count_46 ⟨Nat.zero_le _, Nat.zero_le _⟩) hL (fun S2 T2 H locs h hw hL => ?_)
          exact bk_10_count_49 cx hr hlk h hw hL (lv_sub hl [0, 1] rfl)
      · replace h := hm_pos hc h
        refine lv_aload_n hx hb d_10_count_18 rfl (lv_at hl 0 rfl) ?_
        refine gf_10_28 cx hw (i := 0) (r := 19) (by decide) sx_0 rfl d_10_count_19 ?_
        refine lv_aload_n hx hb d_10_count_22 rfl (lv_at hl 0 rfl) ?_
        refine gf_10_80 cx hw (i := 0) (by decide) sx_0 rfl d_10_count_23 ?_
        refine hm_callv (hm_rV (i := 19) (As := [.int (S 0 9)]) (rest := []) cx hw (ct_3_list h) (mw_10_181 cx.1.2.2.2.2 ⟨Nat.le_of_ble_eq_true rfl, Nat.le_of_ble_eq_true rfl⟩) (by decide) sx_19 rfl rfl hl.1 rfl (Nat.le_of_ble_eq_true rfl) d_10_count_26 ⟨Nat.zero_le _, Nat.zero_le _⟩) hL (fun S3 T3 H locs h hw hL => ?_)
        refine lv_goto (tgt := 49) hx hb d_10_count_29 (by decide) ?_
        exact bk_10_count_49 cx hr hlk h hw hL (lv_sub hl [0, 1] rfl)
    · replace h := hm_neg hc h
      refine lv_bipush (v := (-2)) hx hb d_10_count_10 (by decide) ?_
      exact W.iret hx hb hr (fun t ht _ => ⟨_, _, _, rfl, h, by rw [ht]; exact hw⟩) hL d_10_count_12
set_option maxHeartbeats 4000000 in
set_option maxRecDepth 20000 in
theorem ct_10_count {x1 : Int32} {S : hm_S} {T : hm_T} {Q : Int32 → hm_S → hm_T → Prop} (h : wp_10_count x1 S T Q) : hm_M l G H0 o 74 shX y_10_count prog_1_method_37_code 2 (some .int) rm_10_count S T [.ref (o + 0), .int x1] (hm_Qi G H0 o 74 shX Q) := by
  refine Met.ofW (cc := prog_1_method_37_code) (maxL := 2) (ret := some .int) (by decide) rfl ?_
  intro p e s m args below meth c s₁ B hml hv
  obtain ⟨rfl, hK, hw⟩ := hv
  have cx : hm_cx G p s m _ c prog_1_method_37_code 2 "HeapGames" := ⟨⟨B.exec, B.bytes, hml, findClass_of_methodNamed B.named, fun w hq => atoms_spec (ws := hm_ws y_10_count prog_1_method_37_code 2 (some .int)) B.pre w (List.mem_cons_of_mem _ hq)⟩, hK⟩
  have hl := lv_entry ([.ref (o + 0), .int x1]) (n := 2) (Nat.le_of_ble_eq_true rfl)
  rw [lg_entry_eq]
  generalize (lg_sl ([.ref (o + 0), .int x1]) ++ List.replicate (2 - (lg_sl ([.ref (o + 0), .int x1])).length) Slot.unset).toArray = ls at hl ⊢
  have hl : lv_has ls 2 [(0, .ref (o + 0)), (1, .int x1)] := hl
  exact bk_10_count_0 cx B.returns B.notSynchronized h hw (hm_L0 _ _) hl
/-! ===== HeapGames.mixHeapsAndMoves(J)J ===== -/
theorem d_10_mixHeapsAndMoves_0 : decode prog_1_method_40_code 0 = .ok (.lload_n 1, 1) := by decide +kernel
theorem d_10_mixHeapsAndMoves_1 : decode prog_1_method_40_code 1 = .ok (.lstore_n 3, 1) := by decide +kernel
theorem d_10_mixHeapsAndMoves_2 : decode prog_1_method_40_code 2 = .ok (.iconst 0, 1) := by decide +kernel
theorem d_10_mixHeapsAndMoves_3 : decode prog_1_method_40_code 3 = .ok (.istore 5, 2) := by decide +kernel
theorem d_10_mixHeapsAndMoves_5 : decode prog_1_method_40_code 5 = .ok (.iload 5, 2) := by decide +kernel
theorem d_10_mixHeapsAndMoves_7 : decode prog_1_method_40_code 7 = .ok (.aload_n 0, 1) := by decide +kernel
theorem d_10_mixHeapsAndMoves_8 : decode prog_1_method_40_code 8 = .ok (.getfield 24, 3) := by decide +kernel
theorem d_10_mixHeapsAndMoves_11 : decode prog_1_method_40_code 11 = .ok (.aload_n 0, 1) := by decide +kernel
theorem d_10_mixHeapsAndMoves_12 : decode prog_1_method_40_code 12 = .ok (.getfield 80, 3) := by decide +kernel
theorem d_10_mixHeapsAndMoves_15 : decode prog_1_method_40_code 15 = .ok (.invokestatic 124, 3) := by decide +kernel
theorem d_10_mixHeapsAndMoves_18 : decode prog_1_method_40_code 18 = .ok (.invokevirtual 146, 3) := by decide +kernel
theorem d_10_mixHeapsAndMoves_21 : decode prog_1_method_40_code 21 = .ok (.if_icmp .ge 37, 3) := by decide +kernel
theorem d_10_mixHeapsAndMoves_24 : decode prog_1_method_40_code 24 = .ok (.iconst 0, 1) := by decide +kernel
theorem d_10_mixHeapsAndMoves_25 : decode prog_1_method_40_code 25 = .ok (.istore 6, 2) := by decide +kernel
theorem d_10_mixHeapsAndMoves_27 : decode prog_1_method_40_code 27 = .ok (.iload 6, 2) := by decide +kernel
theorem d_10_mixHeapsAndMoves_29 : decode prog_1_method_40_code 29 = .ok (.iconst 2, 1) := by decide +kernel
theorem d_10_mixHeapsAndMoves_30 : decode prog_1_method_40_code 30 = .ok (.if_icmp .gt 22, 3) := by decide +kernel
theorem d_10_mixHeapsAndMoves_33 : decode prog_1_method_40_code 33 = .ok (.lload_n 3, 1) := by decide +kernel
theorem d_10_mixHeapsAndMoves_34 : decode prog_1_method_40_code 34 = .ok (.aload_n 0, 1) := by decide +kernel
theorem d_10_mixHeapsAndMoves_35 : decode prog_1_method_40_code 35 = .ok (.iload 5, 2) := by decide +kernel
theorem d_10_mixHeapsAndMoves_37 : decode prog_1_method_40_code 37 = .ok (.iload 6, 2) := by decide +kernel
theorem d_10_mixHeapsAndMoves_39 : decode prog_1_method_40_code 39 = .ok (.invokevirtual 163, 3) := by decide +kernel
theorem d_10_mixHeapsAndMoves_42 : decode prog_1_method_40_code 42 = .ok (.invokestatic 259, 3) := by decide +kernel
theorem d_10_mixHeapsAndMoves_45 : decode prog_1_method_40_code 45 = .ok (.lstore_n 3, 1) := by decide +kernel
theorem d_10_mixHeapsAndMoves_46 : decode prog_1_method_40_code 46 = .ok (.iinc 6 1, 3) := by decide +kernel
theorem d_10_mixHeapsAndMoves_49 : decode prog_1_method_40_code 49 = .ok (.goto (-22), 3) := by decide +kernel
theorem d_10_mixHeapsAndMoves_52 : decode prog_1_method_40_code 52 = .ok (.iinc 5 1, 3) := by decide +kernel
theorem d_10_mixHeapsAndMoves_55 : decode prog_1_method_40_code 55 = .ok (.goto (-50), 3) := by decide +kernel
theorem d_10_mixHeapsAndMoves_58 : decode prog_1_method_40_code 58 = .ok (.iconst 0, 1) := by decide +kernel
theorem d_10_mixHeapsAndMoves_59 : decode prog_1_method_40_code 59 = .ok (.istore 5, 2) := by decide +kernel
theorem d_10_mixHeapsAndMoves_61 : decode prog_1_method_40_code 61 = .ok (.iload 5, 2) := by decide +kernel
theorem d_10_mixHeapsAndMoves_63 : decode prog_1_method_40_code 63 = .ok (.aload_n 0, 1) := by decide +kernel
theorem d_10_mixHeapsAndMoves_64 : decode prog_1_method_40_code 64 = .ok (.getfield 28, 3) := by decide +kernel
theorem d_10_mixHeapsAndMoves_67 : decode prog_1_method_40_code 67 = .ok (.getfield 184, 3) := by decide +kernel
theorem d_10_mixHeapsAndMoves_70 : decode prog_1_method_40_code 70 = .ok (.if_icmp .ge 38, 3) := by decide +kernel
theorem d_10_mixHeapsAndMoves_73 : decode prog_1_method_40_code 73 = .ok (.iconst 0, 1) := by decide +kernel
theorem d_10_mixHeapsAndMoves_74 : decode prog_1_method_40_code 74 = .ok (.istore 6, 2) := by decide +kernel
theorem d_10_mixHeapsAndMoves_76 : decode prog_1_method_40_code 76 = .ok (.iload 6, 2) := by decide +kernel
theorem d_10_mixHeapsAndMoves_78 : decode prog_1_method_40_code 78 = .ok (.bipush 6, 2) := by decide +kernel
theorem d_10_mixHeapsAndMoves_80 : decode prog_1_method_40_code 80 = .ok (.if_icmp .gt 22, 3) := by decide +kernel
theorem d_10_mixHeapsAndMoves_83 : decode prog_1_method_40_code 83 = .ok (.lload_n 3, 1) := by decide +kernel
theorem d_10_mixHeapsAndMoves_84 : decode prog_1_method_40_code 84 = .ok (.aload_n 0, 1) := by decide +kernel
theorem d_10_mixHeapsAndMoves_85 : decode prog_1_method_40_code 85 = .ok (.iload 5, 2) := by decide +kernel
theorem d_10_mixHeapsAndMoves_87 : decode prog_1_method_40_code 87 = .ok (.iload 6, 2) := by decide +kernel
theorem d_10_mixHeapsAndMoves_89 : decode prog_1_method_40_code 89 = .ok (.invokevirtual 190, 3) := by decide +kernel
theorem d_10_mixHeapsAndMoves_92 : decode prog_1_method_40_code 92 = .ok (.invokestatic 259, 3) := by decide +kernel
theorem d_10_mixHeapsAndMoves_95 : decode prog_1_method_40_code 95 = .ok (.lstore_n 3, 1) := by decide +kernel
theorem d_10_mixHeapsAndMoves_96 : decode prog_1_method_40_code 96 = .ok (.iinc 6 1, 3) := by decide +kernel
theorem d_10_mixHeapsAndMoves_99 : decode prog_1_method_40_code 99 = .ok (.goto (-23), 3) := by decide +kernel
theorem d_10_mixHeapsAndMoves_102 : decode prog_1_method_40_code 102 = .ok (.iinc 5 1, 3) := by decide +kernel
theorem d_10_mixHeapsAndMoves_105 : decode prog_1_method_40_code 105 = .ok (.goto (-44), 3) := by decide +kernel
theorem d_10_mixHeapsAndMoves_108 : decode prog_1_method_40_code 108 = .ok (.lload_n 3, 1) := by decide +kernel
theorem d_10_mixHeapsAndMoves_109 : decode prog_1_method_40_code 109 = .ok (.lreturn, 1) := by decide +kernel
def wb_10_mixHeapsAndMoves_102 (Q : Int64 → hm_S → hm_T → Prop) (K61 : Int64 → Int32 → hm_S → hm_T → Prop) (y3 : Int64) (x5 : Int32) (S : hm_S) (T : hm_T) : Prop :=
  K61 y3 (x5 + 1) S T
set_option maxHeartbeats 4000000 in
set_option maxRecDepth 20000 in
theorem bk_10_mixHeapsAndMoves_102 {Q : Int64 → hm_S → hm_T → Prop} {K61 : Int64 → Int32 → hm_S → hm_T → Prop} (cx : hm_cx G p s m args c prog_1_method_40_code 7 "HeapGames") (hr : meth.sig.returnType = some .long) (hlk : meth.locks = false) (k61 : ∀ (y3 : Int64) (x5 : Int32) (S : hm_S) (T : hm_T) (H : Heap) (locs : List Loc) (ls : Array Slot), K61 y3 x5 S T → hm_w G H0 o 74 shX S T H → hm_L o 74 locs → lv_has ls 7 [(0, .ref (o + 0)), (3, .long y3), (5, .int x5)] → W p l e rm_10_mixHeapsAndMoves s m args below meth c H locs 0 0 (MQ below (hm_Ql G H0 o 74 shX Q) args s 0 0 (t_fr o (o + 74))) (F0 m 61 ls [])) {y3 : Int64} {x5 : Int32} {S : hm_S} {T : hm_T} {H : Heap} {locs : List Loc} {ls : Array Slot} (h : wb_10_mixHeapsAndMoves_102 Q K61 y3 x5 S T) (hw : hm_w G H0 o 74 shX S T H) (hL : hm_L o 74 locs) (hl : lv_has ls 7 [(0, .ref (o + 0)), (3, .long y3), (5, .int x5)]) : W p l e rm_10_mixHeapsAndMoves s m args below meth c H locs 0 0 (MQ below (hm_Ql G H0 o 74 shX Q) args s 0 0 (t_fr o (o + 74))) (F0 m 102 ls []) := by
  have hx := cx.1.1
  have hb := cx.1.2.1
  unfold wb_10_mixHeapsAndMoves_102 at h
  refine lv_iinc (v := (x5 + 1)) (lv' := [(5, .int (x5 + 1)), (0, .ref (o + 0)), (3, .long y3)]) hx hb d_10_mixHeapsAndMoves_102 hl (k := 2) rfl rfl (by decide) rfl (fun ls hl => ?_)
  refine lv_goto (tgt := 61) hx hb d_10_mixHeapsAndMoves_105 (by decide) ?_
  exact k61 _ _ _ _ _ _ _ h hw hL (lv_sub hl [1, 2, 0] rfl)
def wb_10_mixHeapsAndMoves_76 (Q : Int64 → hm_S → hm_T → Prop) (K61 : Int64 → Int32 → hm_S → hm_T → Prop) (K76 : Int64 → Int32 → Int32 → hm_S → hm_T → Prop) (y3 : Int64) (x5 : Int32) (x6 : Int32) (S : hm_S) (T : hm_T) : Prop :=
  (if 6 < x6 then wb_10_mixHeapsAndMoves_102 Q K61 y3 x5 S T else wp_10_propertyOfMove x5 x6 S T (fun r3 S3 T3 => wp_10_mix y3 r3 S3 T3 (fun r4 S4 T4 => K76 r4 x5 (x6 + 1) S4 T4)))
set_option maxHeartbeats 4000000 in
set_option maxRecDepth 20000 in
theorem bk_10_mixHeapsAndMoves_76 {Q : Int64 → hm_S → hm_T → Prop} {K61 : Int64 → Int32 → hm_S → hm_T → Prop} {K76 : Int64 → Int32 → Int32 → hm_S → hm_T → Prop} (cx : hm_cx G p s m args c prog_1_method_40_code 7 "HeapGames") (hr : meth.sig.returnType = some .long) (hlk : meth.locks = false) (k61 : ∀ (y3 : Int64) (x5 : Int32) (S : hm_S) (T : hm_T) (H : Heap) (locs : List Loc) (ls : Array Slot), K61 y3 x5 S T → hm_w G H0 o 74 shX S T H → hm_L o 74 locs → lv_has ls 7 [(0, .ref (o + 0)), (3, .long y3), (5, .int x5)] → W p l e rm_10_mixHeapsAndMoves s m args below meth c H locs 0 0 (MQ below (hm_Ql G H0 o 74 shX Q) args s 0 0 (t_fr o (o + 74))) (F0 m 61 ls [])) (k76 : ∀ (y3 : Int64) (x5 : Int32) (x6 : Int32) (S : hm_S) (T : hm_T) (H : Heap) (locs : List Loc) (ls : Array Slot), K76 y3 x5 x6 S T → hm_w G H0 o 74 shX S T H → hm_L o 74 locs → lv_has ls 7 [(0, .ref (o + 0)), (3, .long y3), (5, .int x5), (6, .int x6)] → W p l e rm_10_mixHeapsAndMoves s m args below meth c H locs 0 0 (MQ below (hm_Ql G H0 o 74 shX Q) args s 0 0 (t_fr o (o + 74))) (F0 m 76 ls [])) {y3 : Int64} {x5 : Int32} {x6 : Int32} {S : hm_S} {T : hm_T} {H : Heap} {locs : List Loc} {ls : Array Slot} (h : wb_10_mixHeapsAndMoves_76 Q K61 K76 y3 x5 x6 S T) (hw : hm_w G H0 o 74 shX S T H) (hL : hm_L o 74 locs) (hl : lv_has ls 7 [(0, .ref (o + 0)), (3, .long y3), (5, .int x5), (6, .int x6)]) : W p l e rm_10_mixHeapsAndMoves s m args below meth c H locs 0 0 (MQ below (hm_Ql G H0 o 74 shX Q) args s 0 0 (t_fr o (o + 74))) (F0 m 76 ls []) := by
  have hx := cx.1.1
  have hb := cx.1.2.1
  unfold wb_10_mixHeapsAndMoves_76 at h
  refine lv_iload hx hb d_10_mixHeapsAndMoves_76 (lv_at hl 3 rfl) ?_
  refine lv_bipush (v := 6) hx hb d_10_mixHeapsAndMoves_78 (by decide) ?_
  refine lv_icmp_gt (tgt := 102) hx hb d_10_mixHeapsAndMoves_80 (by decide) (fun hc => ?_) (fun hc => ?_)
  · replace h := hm_pos hc h
    exact bk_10_mixHeapsAndMoves_102 cx hr hlk k61 h hw hL (lv_sub hl [0, 1, 2] rfl)
  · replace h := hm_neg hc h
    refine lv_lload_n hx hb d_10_mixHeapsAndMoves_83 rfl (lv_at hl 1 rfl) ?_
    refine lv_aload_n hx hb d_10_mixHeapsAndMoves_84 rfl (lv_at hl 0 rfl) ?_
    refine lv_iload hx hb d_10_mixHeapsAndMoves_85 (lv_at hl 2 rfl) ?_
    refine lv_iload hx hb d_10_mixHeapsAndMoves_87 (lv_at hl 3 rfl) ?_
    refine hm_calli (hm_rV (i := 0) (As := [.int x5, .int x6]) (rest := [.long y3]) cx hw (ct_10_propertyOfMove h) (mw_10_190 cx.1.2.2.2.2 ⟨Nat.le_of_ble_eq_true rfl, Nat.le_of_ble_eq_true rfl⟩) (by decide) sx_0 rfl rfl hl.1 rfl (Nat.le_of_ble_eq_true rfl) d_10_mixHeapsAndMoves_89 ⟨Nat.zero_le _, Nat.zero_le _⟩) hL (fun r3 S3 T3 H locs h hw hL => ?_)
    refine hm_calll (hm_rS (As := [.long y3, .int r3]) (rest := []) cx hw (ct_10_mix h) (mw_10_259 cx.1.2.2.2.2 ⟨Nat.le_of_ble_eq_true rfl, Nat.le_of_ble_eq_true rfl⟩) rfl hl.1 rfl (Nat.le_of_ble_eq_true rfl) d_10_mixHeapsAndMoves_92 ⟨Nat.zero_le _, Nat.zero_le _⟩) hL (fun r4 S4 T4 H locs h hw hL => ?_)
    refine lv_lstore_n (lv' := [(3, .long r4), (0, .ref (o + 0)), (5, .int x5), (6, .int x6)]) hx hb d_10_mixHeapsAndMoves_95 rfl hl (by decide) rfl (fun ls hl => ?_)
    refine lv_iinc (v := (x6 + 1)) (lv' := [(6, .int (x6 + 1)), (3, .long r4), (0, .ref (o + 0)), (5, .int x5)]) hx hb d_10_mixHeapsAndMoves_96 hl (k := 3) rfl rfl (by decide) rfl (fun ls hl => ?_)
    refine lv_goto (tgt := 76) hx hb d_10_mixHeapsAndMoves_99 (by decide) ?_
    exact k76 _ _ _ _ _ _ _ _ h hw hL (lv_sub hl [2, 1, 3, 0] rfl)
def wl_10_mixHeapsAndMoves_76 (Q : Int64 → hm_S → hm_T → Prop) (K61 : Int64 → Int32 → hm_S → hm_T → Prop) : Nat → Int64 → Int32 → Int32 → hm_S → hm_T → Prop
  | 0, _, _, _, _, _ => False
  | f + 1, y3, x5, x6, S, T => wb_10_mixHeapsAndMoves_76 Q K61 (wl_10_mixHeapsAndMoves_76 Q K61 f) y3 x5 x6 S T
theorem lp_10_mixHeapsAndMoves_76 {Q : Int64 → hm_S → hm_T → Prop} {K61 : Int64 → Int32 → hm_S → hm_T → Prop} (cx : hm_cx G p s m args c prog_1_method_40_code 7 "HeapGames") (hr : meth.sig.returnType = some .long) (hlk : meth.locks = false) (k61 : ∀ (y3 : Int64) (x5 : Int32) (S : hm_S) (T : hm_T) (H : Heap) (locs : List Loc) (ls : Array Slot), K61 y3 x5 S T → hm_w G H0 o 74 shX S T H → hm_L o 74 locs → lv_has ls 7 [(0, .ref (o + 0)), (3, .long y3), (5, .int x5)] → W p l e rm_10_mixHeapsAndMoves s m args below meth c H locs 0 0 (MQ below (hm_Ql G H0 o 74 shX Q) args s 0 0 (t_fr o (o + 74))) (F0 m 61 ls [])) : ∀ (f : Nat) (y3 : Int64) (x5 : Int32) (x6 : Int32) (S : hm_S) (T : hm_T) (H : Heap) (locs : List Loc) (ls : Array Slot), wl_10_mixHeapsAndMoves_76 Q K61 f y3 x5 x6 S T → hm_w G H0 o 74 shX S T H → hm_L o 74 locs → lv_has ls 7 [(0, .ref (o + 0)), (3, .long y3), (5, .int x5), (6, .int x6)] → W p l e rm_10_mixHeapsAndMoves s m args below meth c H locs 0 0 (MQ below (hm_Ql G H0 o 74 shX Q) args s 0 0 (t_fr o (o + 74))) (F0 m 76 ls []) := by
  intro f
  induction f with
  | zero => intro y3 x5 x6 S T H locs ls h; exact h.elim
  | succ f ih => intro y3 x5 x6 S T H locs ls h hw hL hl; exact bk_10_mixHeapsAndMoves_76 cx hr hlk k61 ih h hw hL hl
def wb_10_mixHeapsAndMoves_61 (Q : Int64 → hm_S → hm_T → Prop) (K61 : Int64 → Int32 → hm_S → hm_T → Prop) (y3 : Int64) (x5 : Int32) (S : hm_S) (T : hm_T) : Prop :=
  (if (S 19 11) ≤ x5 then Q y3 S T else ∃ f, wl_10_mixHeapsAndMoves_76 Q K61 f y3 x5 0 S T)
set_option maxHeartbeats 4000000 in
set_option maxRecDepth 20000 in
theorem bk_10_mixHeapsAndMoves_61 {Q : Int64 → hm_S → hm_T → Prop} {K61 : Int64 → Int32 → hm_S → hm_T → Prop} (cx : hm_cx G p s m args c prog_1_method_40_code 7 "HeapGames") (hr : meth.sig.returnType = some .long) (hlk : meth.locks = false) (k61 : ∀ (y3 : Int64) (x5 : Int32) (S : hm_S) (T : hm_T) (H : Heap) (locs : List Loc) (ls : Array Slot), K61 y3 x5 S T → hm_w G H0 o 74 shX S T H → hm_L o 74 locs → lv_has ls 7 [(0, .ref (o + 0)), (3, .long y3), (5, .int x5)] → W p l e rm_10_mixHeapsAndMoves s m args below meth c H locs 0 0 (MQ below (hm_Ql G H0 o 74 shX Q) args s 0 0 (t_fr o (o + 74))) (F0 m 61 ls [])) {y3 : Int64} {x5 : Int32} {S : hm_S} {T : hm_T} {H : Heap} {locs : List Loc} {ls : Array Slot} (h : wb_10_mixHeapsAndMoves_61 Q K61 y3 x5 S T) (hw : hm_w G H0 o 74 shX S T H) (hL : hm_L o 74 locs) (hl : lv_has ls 7 [(0, .ref (o + 0)), (3, .long y3), (5, .int x5)]) : W p l e rm_10_mixHeapsAndMoves s m args below meth c H locs 0 0 (MQ below (hm_Ql G H0 o 74 shX Q) args s 0 0 (t_fr o (o + 74))) (F0 m 61 ls []) := by
  have hx := cx.1.1
  have hb := cx.1.2.1
  unfold wb_10_mixHeapsAndMoves_61 at h
  refine lv_iload hx hb d_10_mixHeapsAndMoves_61 (lv_at hl 2 rfl) ?_
  refine lv_aload_n hx hb d_10_mixHeapsAndMoves_63 rfl (lv_at hl 0 rfl) ?_
  refine gf_10_28 cx hw (i := 0) (r := 19) (by decide) sx_0 rfl d_10_mixHeapsAndMoves_64 ?_
  refine gf_10_184 cx hw (i := 19) (by decide) sx_19 rfl d_10_mixHeapsAndMoves_67 ?_
  refine lv_icmp_ge (tgt := 108) hx hb d_10_mixHeapsAndMoves_70 (by decide) (fun hc => ?_) (fun hc => ?_)
  · replace h := hm_pos hc h
    refine lv_lload_n hx hb d_10_mixHeapsAndMoves_108 rfl (lv_at hl 1 rfl) ?_
    exact W.lret hx hb hr (fun t ht _ => ⟨_, _, _, rfl, h, by rw [ht]; exact hw⟩) hL d_10_mixHeapsAndMoves_109
  · replace h := hm_neg hc h
    refine lv_iconst (v := 0) hx hb d_10_mixHeapsAndMoves_73 (by decide) ?_
    refine lv_istore (lv' := [(6, .int 0), (0, .ref (o + 0)), (3, .long y3), (5, .int x5)]) hx hb d_10_mixHeapsAndMoves_74 hl (by decide) rfl (fun ls hl => ?_)
    obtain ⟨f, h⟩ := h
    exact lp_10_mixHeapsAndMoves_76 cx hr hlk k61 f _ _ _ _ _ _ _ _ h hw hL (lv_sub hl [1, 2, 3, 0] rfl)
def wl_10_mixHeapsAndMoves_61 (Q : Int64 → hm_S → hm_T → Prop) : Nat → Int64 → Int32 → hm_S → hm_T → Prop
  | 0, _, _, _, _ => False
  | f + 1, y3, x5, S, T => wb_10_mixHeapsAndMoves_61 Q (wl_10_mixHeapsAndMoves_61 Q f) y3 x5 S T
theorem lp_10_mixHeapsAndMoves_61 {Q : Int64 → hm_S → hm_T → Prop} (cx : hm_cx G p s m args c prog_1_method_40_code 7 "HeapGames") (hr : meth.sig.returnType = some .long) (hlk : meth.locks = false) : ∀ (f : Nat) (y3 : Int64) (x5 : Int32) (S : hm_S) (T : hm_T) (H : Heap) (locs : List Loc) (ls : Array Slot), wl_10_mixHeapsAndMoves_61 Q f y3 x5 S T → hm_w G H0 o 74 shX S T H → hm_L o 74 locs → lv_has ls 7 [(0, .ref (o + 0)), (3, .long y3), (5, .int x5)] → W p l e rm_10_mixHeapsAndMoves s m args below meth c H locs 0 0 (MQ below (hm_Ql G H0 o 74 shX Q) args s 0 0 (t_fr o (o + 74))) (F0 m 61 ls []) := by
  intro f
  induction f with
  | zero => intro y3 x5 S T H locs ls h; exact h.elim
  | succ f ih => intro y3 x5 S T H locs ls h hw hL hl; exact bk_10_mixHeapsAndMoves_61 cx hr hlk ih h hw hL hl
def wb_10_mixHeapsAndMoves_58 (Q : Int64 → hm_S → hm_T → Prop) (y3 : Int64) (S : hm_S) (T : hm_T) : Prop :=
  ∃ f, wl_10_mixHeapsAndMoves_61 Q f y3 0 S T
set_option maxHeartbeats 4000000 in
set_option maxRecDepth 20000 in
theorem bk_10_mixHeapsAndMoves_58 {Q : Int64 → hm_S → hm_T → Prop} (cx : hm_cx G p s m args c prog_1_method_40_code 7 "HeapGames") (hr : meth.sig.returnType = some .long) (hlk : meth.locks = false) {y3 : Int64} {S : hm_S} {T : hm_T} {H : Heap} {locs : List Loc} {ls : Array Slot} (h : wb_10_mixHeapsAndMoves_58 Q y3 S T) (hw : hm_w G H0 o 74 shX S T H) (hL : hm_L o 74 locs) (hl : lv_has ls 7 [(0, .ref (o + 0)), (3, .long y3)]) : W p l e rm_10_mixHeapsAndMoves s m args below meth c H locs 0 0 (MQ below (hm_Ql G H0 o 74 shX Q) args s 0 0 (t_fr o (o + 74))) (F0 m 58 ls []) := by
  have hx := cx.1.1
  have hb := cx.1.2.1
  unfold wb_10_mixHeapsAndMoves_58 at h
  refine lv_iconst (v := 0) hx hb d_10_mixHeapsAndMoves_58 (by decide) ?_
  refine lv_istore (lv' := [(5, .int 0), (0, .ref (o + 0)), (3, .long y3)]) hx hb d_10_mixHeapsAndMoves_59 hl (by decide) rfl (fun ls hl => ?_)
  obtain ⟨f, h⟩ := h
  exact lp_10_mixHeapsAndMoves_61 cx hr hlk f _ _ _ _ _ _ _ h hw hL (lv_sub hl [1, 2, 0] rfl)
def wb_10_mixHeapsAndMoves_52 (Q : Int64 → hm_S → hm_T → Prop) (K5 : Int64 → Int32 → hm_S → hm_T → Prop) (y3 : Int64) (x5 : Int32) (S : hm_S) (T : hm_T) : Prop :=
  K5 y3 (x5 + 1) S T
set_option maxHeartbeats 4000000 in
set_option maxRecDepth 20000 in
theorem bk_10_mixHeapsAndMoves_52 {Q : Int64 → hm_S → hm_T → Prop} {K5 : Int64 → Int32 → hm_S → hm_T → Prop} (cx : hm_cx G p s m args c prog_1_method_40_code 7 "HeapGames") (hr : meth.sig.returnType = some .long) (hlk : meth.locks = false) (k5 : ∀ (y3 : Int64) (x5 : Int32) (S : hm_S) (T : hm_T) (H : Heap) (locs : List Loc) (ls : Array Slot), K5 y3 x5 S T → hm_w G H0 o 74 shX S T H → hm_L o 74 locs → lv_has ls 7 [(0, .ref (o + 0)), (3, .long y3), (5, .int x5)] → W p l e rm_10_mixHeapsAndMoves s m args below meth c H locs 0 0 (MQ below (hm_Ql G H0 o 74 shX Q) args s 0 0 (t_fr o (o + 74))) (F0 m 5 ls [])) {y3 : Int64} {x5 : Int32} {S : hm_S} {T : hm_T} {H : Heap} {locs : List Loc} {ls : Array Slot} (h : wb_10_mixHeapsAndMoves_52 Q K5 y3 x5 S T) (hw : hm_w G H0 o 74 shX S T H) (hL : hm_L o 74 locs) (hl : lv_has ls 7 [(0, .ref (o + 0)), (3, .long y3), (5, .int x5)]) : W p l e rm_10_mixHeapsAndMoves s m args below meth c H locs 0 0 (MQ below (hm_Ql G H0 o 74 shX Q) args s 0 0 (t_fr o (o + 74))) (F0 m 52 ls []) := by
  have hx := cx.1.1
  have hb := cx.1.2.1
  unfold wb_10_mixHeapsAndMoves_52 at h
  refine lv_iinc (v := (x5 + 1)) (lv' := [(5, .int (x5 + 1)), (0, .ref (o + 0)), (3, .long y3)]) hx hb d_10_mixHeapsAndMoves_52 hl (k := 2) rfl rfl (by decide) rfl (fun ls hl => ?_)
  refine lv_goto (tgt := 5) hx hb d_10_mixHeapsAndMoves_55 (by decide) ?_
  exact k5 _ _ _ _ _ _ _ h hw hL (lv_sub hl [1, 2, 0] rfl)
def wb_10_mixHeapsAndMoves_27 (Q : Int64 → hm_S → hm_T → Prop) (K5 : Int64 → Int32 → hm_S → hm_T → Prop) (K27 : Int64 → Int32 → Int32 → hm_S → hm_T → Prop) (y3 : Int64) (x5 : Int32) (x6 : Int32) (S : hm_S) (T : hm_T) : Prop :=
  (if 2 < x6 then wb_10_mixHeapsAndMoves_52 Q K5 y3 x5 S T else wp_10_propertyOfHeap x5 x6 S T (fun r5 S5 T5 => wp_10_mix y3 r5 S5 T5 (fun r6 S6 T6 => K27 r6 x5 (x6 + 1) S6 T6)))
set_option maxHeartbeats 4000000 in
set_option maxRecDepth 20000 in
theorem bk_10_mixHeapsAndMoves_27 {Q : Int64 → hm_S → hm_T → Prop} {K5 : Int64 → Int32 → hm_S → hm_T → Prop} {K27 : Int64 → Int32 → Int32 → hm_S → hm_T → Prop} (cx : hm_cx G p s m args c prog_1_method_40_code 7 "HeapGames") (hr : meth.sig.returnType = some .long) (hlk : meth.locks = false) (k5 : ∀ (y3 : Int64) (x5 : Int32) (S : hm_S) (T : hm_T) (H : Heap) (locs : List Loc) (ls : Array Slot), K5 y3 x5 S T → hm_w G H0 o 74 shX S T H → hm_L o 74 locs → lv_has ls 7 [(0, .ref (o + 0)), (3, .long y3), (5, .int x5)] → W p l e rm_10_mixHeapsAndMoves s m args below meth c H locs 0 0 (MQ below (hm_Ql G H0 o 74 shX Q) args s 0 0 (t_fr o (o + 74))) (F0 m 5 ls [])) (k27 : ∀ (y3 : Int64) (x5 : Int32) (x6 : Int32) (S : hm_S) (T : hm_T) (H : Heap) (locs : List Loc) (ls : Array Slot), K27 y3 x5 x6 S T → hm_w G H0 o 74 shX S T H → hm_L o 74 locs → lv_has ls 7 [(0, .ref (o + 0)), (3, .long y3), (5, .int x5), (6, .int x6)] → W p l e rm_10_mixHeapsAndMoves s m args below meth c H locs 0 0 (MQ below (hm_Ql G H0 o 74 shX Q) args s 0 0 (t_fr o (o + 74))) (F0 m 27 ls [])) {y3 : Int64} {x5 : Int32} {x6 : Int32} {S : hm_S} {T : hm_T} {H : Heap} {locs : List Loc} {ls : Array Slot} (h : wb_10_mixHeapsAndMoves_27 Q K5 K27 y3 x5 x6 S T) (hw : hm_w G H0 o 74 shX S T H) (hL : hm_L o 74 locs) (hl : lv_has ls 7 [(0, .ref (o + 0)), (3, .long y3), (5, .int x5), (6, .int x6)]) : W p l e rm_10_mixHeapsAndMoves s m args below meth c H locs 0 0 (MQ below (hm_Ql G H0 o 74 shX Q) args s 0 0 (t_fr o (o + 74))) (F0 m 27 ls []) := by
  have hx := cx.1.1
  have hb := cx.1.2.1
  unfold wb_10_mixHeapsAndMoves_27 at h
  refine lv_iload hx hb d_10_mixHeapsAndMoves_27 (lv_at hl 3 rfl) ?_
  refine lv_iconst (v := 2) hx hb d_10_mixHeapsAndMoves_29 (by decide) ?_
  refine lv_icmp_gt (tgt := 52) hx hb d_10_mixHeapsAndMoves_30 (by decide) (fun hc => ?_) (fun hc => ?_)
  · replace h := hm_pos hc h
    exact bk_10_mixHeapsAndMoves_52 cx hr hlk k5 h hw hL (lv_sub hl [0, 1, 2] rfl)
  · replace h := hm_neg hc h
    refine lv_lload_n hx hb d_10_mixHeapsAndMoves_33 rfl (lv_at hl 1 rfl) ?_
    refine lv_aload_n hx hb d_10_mixHeapsAndMoves_34 rfl (lv_at hl 0 rfl) ?_
    refine lv_iload hx hb d_10_mixHeapsAndMoves_35 (lv_at hl 2 rfl) ?_
    refine lv_iload hx hb d_10_mixHeapsAndMoves_37 (lv_at hl 3 rfl) ?_
    refine hm_calli (hm_rV (i := 0) (As := [.int x5, .int x6]) (rest := [.long y3]) cx hw (ct_10_propertyOfHeap h) (mw_10_163 cx.1.2.2.2.2 ⟨Nat.le_of_ble_eq_true rfl, Nat.le_of_ble_eq_true rfl⟩) (by decide) sx_0 rfl rfl hl.1 rfl (Nat.le_of_ble_eq_true rfl) d_10_mixHeapsAndMoves_39 ⟨Nat.zero_le _, Nat.zero_le _⟩) hL (fun r5 S5 T5 H locs h hw hL => ?_)
    refine hm_calll (hm_rS (As := [.long y3, .int r5]) (rest := []) cx hw (ct_10_mix h) (mw_10_259 cx.1.2.2.2.2 ⟨Nat.le_of_ble_eq_true rfl, Nat.le_of_ble_eq_true rfl⟩) rfl hl.1 rfl (Nat.le_of_ble_eq_true rfl) d_10_mixHeapsAndMoves_42 ⟨Nat.zero_le _, Nat.zero_le _⟩) hL (fun r6 S6 T6 H locs h hw hL => ?_)
    refine lv_lstore_n (lv' := [(3, .long r6), (0, .ref (o + 0)), (5, .int x5), (6, .int x6)]) hx hb d_10_mixHeapsAndMoves_45 rfl hl (by decide) rfl (fun ls hl => ?_)
    refine lv_iinc (v := (x6 + 1)) (lv' := [(6, .int (x6 + 1)), (3, .long r6), (0, .ref (o + 0)), (5, .int x5)]) hx hb d_10_mixHeapsAndMoves_46 hl (k := 3) rfl rfl (by decide) rfl (fun ls hl => ?_)
    refine lv_goto (tgt := 27) hx hb d_10_mixHeapsAndMoves_49 (by decide) ?_
    exact k27 _ _ _ _ _ _ _ _ h hw hL (lv_sub hl [2, 1, 3, 0] rfl)
def wl_10_mixHeapsAndMoves_27 (Q : Int64 → hm_S → hm_T → Prop) (K5 : Int64 → Int32 → hm_S → hm_T → Prop) : Nat → Int64 → Int32 → Int32 → hm_S → hm_T → Prop
  | 0, _, _, _, _, _ => False
  | f + 1, y3, x5, x6, S, T => wb_10_mixHeapsAndMoves_27 Q K5 (wl_10_mixHeapsAndMoves_27 Q K5 f) y3 x5 x6 S T
theorem lp_10_mixHeapsAndMoves_27 {Q : Int64 → hm_S → hm_T → Prop} {K5 : Int64 → Int32 → hm_S → hm_T → Prop} (cx : hm_cx G p s m args c prog_1_method_40_code 7 "HeapGames") (hr : meth.sig.returnType = some .long) (hlk : meth.locks = false) (k5 : ∀ (y3 : Int64) (x5 : Int32) (S : hm_S) (T : hm_T) (H : Heap) (locs : List Loc) (ls : Array Slot), K5 y3 x5 S T → hm_w G H0 o 74 shX S T H → hm_L o 74 locs → lv_has ls 7 [(0, .ref (o + 0)), (3, .long y3), (5, .int x5)] → W p l e rm_10_mixHeapsAndMoves s m args below meth c H locs 0 0 (MQ below (hm_Ql G H0 o 74 shX Q) args s 0 0 (t_fr o (o + 74))) (F0 m 5 ls [])) : ∀ (f : Nat) (y3 : Int64) (x5 : Int32) (x6 : Int32) (S : hm_S) (T : hm_T) (H : Heap) (locs : List Loc) (ls : Array Slot), wl_10_mixHeapsAndMoves_27 Q K5 f y3 x5 x6 S T → hm_w G H0 o 74 shX S T H → hm_L o 74 locs → lv_has ls 7 [(0, .ref (o + 0)), (3, .long y3), (5, .int x5), (6, .int x6)] → W p l e rm_10_mixHeapsAndMoves s m args below meth c H locs 0 0 (MQ below (hm_Ql G H0 o 74 shX Q) args s 0 0 (t_fr o (o + 74))) (F0 m 27 ls []) := by
  intro f
  induction f with
  | zero => intro y3 x5 x6 S T H locs ls h; exact h.elim
  | succ f ih => intro y3 x5 x6 S T H locs ls h hw hL hl; exact bk_10_mixHeapsAndMoves_27 cx hr hlk k5 ih h hw hL hl
def wb_10_mixHeapsAndMoves_5 (Q : Int64 → hm_S → hm_T → Prop) (K5 : Int64 → Int32 → hm_S → hm_T → Prop) (y3 : Int64) (x5 : Int32) (S : hm_S) (T : hm_T) : Prop :=
  wp_10_layoutOf (S 0 9) S T (fun r1 S1 T1 => wp_2_heapsOf r1 S1 T1 (fun r2 S2 T2 => (if r2 ≤ x5 then wb_10_mixHeapsAndMoves_58 Q y3 S2 T2 else ∃ f, wl_10_mixHeapsAndMoves_27 Q K5 f y3 x5 0 S2 T2)))
set_option maxHeartbeats 4000000 in
set_option maxRecDepth 20000 in
theorem bk_10_mixHeapsAndMoves_5 {Q : Int64 → hm_S → hm_T → Prop} {K5 : Int64 → Int32 → hm_S → hm_T → Prop} (cx : hm_cx G p s m args c prog_1_method_40_code 7 "HeapGames") (hr : meth.sig.returnType = some .long) (hlk : meth.locks = false) (k5 : ∀ (y3 : Int64) (x5 : Int32) (S : hm_S) (T : hm_T) (H : Heap) (locs : List Loc) (ls : Array Slot), K5 y3 x5 S T → hm_w G H0 o 74 shX S T H → hm_L o 74 locs → lv_has ls 7 [(0, .ref (o + 0)), (3, .long y3), (5, .int x5)] → W p l e rm_10_mixHeapsAndMoves s m args below meth c H locs 0 0 (MQ below (hm_Ql G H0 o 74 shX Q) args s 0 0 (t_fr o (o + 74))) (F0 m 5 ls [])) {y3 : Int64} {x5 : Int32} {S : hm_S} {T : hm_T} {H : Heap} {locs : List Loc} {ls : Array Slot} (h : wb_10_mixHeapsAndMoves_5 Q K5 y3 x5 S T) (hw : hm_w G H0 o 74 shX S T H) (hL : hm_L o 74 locs) (hl : lv_has ls 7 [(0, .ref (o + 0)), (3, .long y3), (5, .int x5)]) : W p l e rm_10_mixHeapsAndMoves s m args below meth c H locs 0 0 (MQ below (hm_Ql G H0 o 74 shX Q) args s 0 0 (t_fr o (o + 74))) (F0 m 5 ls []) := by
  have hx := cx.1.1
  have hb := cx.1.2.1
  unfold wb_10_mixHeapsAndMoves_5 at h
  refine lv_iload hx hb d_10_mixHeapsAndMoves_5 (lv_at hl 2 rfl) ?_
  refine lv_aload_n hx hb d_10_mixHeapsAndMoves_7 rfl (lv_at hl 0 rfl) ?_
  refine gf_10_24 cx hw (i := 0) (r := 4) (by decide) sx_0 rfl d_10_mixHeapsAndMoves_8 ?_
  refine lv_aload_n hx hb d_10_mixHeapsAndMoves_11 rfl (lv_at hl 0 rfl) ?_
  refine gf_10_80 cx hw (i := 0) (by decide) sx_0 rfl d_10_mixHeapsAndMoves_12 ?_
  refine hm_calli (hm_rS (As := [.int (S 0 9)]) (rest := [.ref (o + 4), .int x5]) cx hw (ct_10_layoutOf h) (mw_10_124 cx.1.2.2.2.2 ⟨Nat.le_of_ble_eq_true rfl, Nat.le_of_ble_eq_true rfl⟩) rfl hl.1 rfl (Nat.le_of_ble_eq_true rfl) d_10_mixHeapsAndMoves_15 ⟨Nat.zero_le _, Nat.zero_le _⟩) hL (fun r1 S1 T1 H locs h hw hL => ?_)
  refine hm_calli (hm_rV (i := 4) (As := [.int r1]) (rest := [.int x5]) cx hw (ct_2_heapsOf (by decide) (fun _ _ _ => rfl) h) (mw_10_146 cx.1.2.2.2.2 ⟨Nat.le_of_ble_eq_true rfl, Nat.le_of_ble_eq_true rfl⟩) (by decide) sx_4 rfl rfl hl.1 rfl (Nat.le_of_ble_eq_true rfl) d_10_mixHeapsAndMoves_18 ⟨Nat.zero_le _, Nat.zero_le _⟩) hL (fun r2 S2 T2 H locs h hw hL => ?_)
  refine lv_icmp_ge (tgt := 58) hx hb d_10_mixHeapsAndMoves_21 (by decide) (fun hc => ?_) (fun hc => ?_)
  · replace h := hm_pos hc h
    exact bk_10_mixHeapsAndMoves_58 cx hr hlk h hw hL (lv_sub hl [0, 1] rfl)
  · replace h := hm_neg hc h
    refine lv_iconst (v := 0) hx hb d_10_mixHeapsAndMoves_24 (by decide) ?_
    refine lv_istore (lv' := [(6, .int 0), (0, .ref (o + 0)), (3, .long y3), (5, .int x5)]) hx hb d_10_mixHeapsAndMoves_25 hl (by decide) rfl (fun ls hl => ?_)
    obtain ⟨f, h⟩ := h
    exact lp_10_mixHeapsAndMoves_27 cx hr hlk k5 f _ _ _ _ _ _ _ _ h hw hL (lv_sub hl [1, 2, 3, 0] rfl)
def wl_10_mixHeapsAndMoves_5 (Q : Int64 → hm_S → hm_T → Prop) : Nat → Int64 → Int32 → hm_S → hm_T → Prop
  | 0, _, _, _, _ => False
  | f + 1, y3, x5, S, T => wb_10_mixHeapsAndMoves_5 Q (wl_10_mixHeapsAndMoves_5 Q f) y3 x5 S T
theorem lp_10_mixHeapsAndMoves_5 {Q : Int64 → hm_S → hm_T → Prop} (cx : hm_cx G p s m args c prog_1_method_40_code 7 "HeapGames") (hr : meth.sig.returnType = some .long) (hlk : meth.locks = false) : ∀ (f : Nat) (y3 : Int64) (x5 : Int32) (S : hm_S) (T : hm_T) (H : Heap) (locs : List Loc) (ls : Array Slot), wl_10_mixHeapsAndMoves_5 Q f y3 x5 S T → hm_w G H0 o 74 shX S T H → hm_L o 74 locs → lv_has ls 7 [(0, .ref (o + 0)), (3, .long y3), (5, .int x5)] → W p l e rm_10_mixHeapsAndMoves s m args below meth c H locs 0 0 (MQ below (hm_Ql G H0 o 74 shX Q) args s 0 0 (t_fr o (o + 74))) (F0 m 5 ls []) := by
  intro f
  induction f with
  | zero => intro y3 x5 S T H locs ls h; exact h.elim
  | succ f ih => intro y3 x5 S T H locs ls h hw hL hl; exact bk_10_mixHeapsAndMoves_5 cx hr hlk ih h hw hL hl
def wp_10_mixHeapsAndMoves (y1 : Int64) (S : hm_S) (T : hm_T) (Q : Int64 → hm_S → hm_T → Prop) : Prop :=
  ∃ f, wl_10_mixHeapsAndMoves_5 Q f y1 0 S T
set_option maxHeartbeats 4000000 in
set_option maxRecDepth 20000 in
theorem bk_10_mixHeapsAndMoves_0 {Q : Int64 → hm_S → hm_T → Prop} (cx : hm_cx G p s m args c prog_1_method_40_code 7 "HeapGames") (hr : meth.sig.returnType = some .long) (hlk : meth.locks = false) {y1 : Int64} {S : hm_S} {T : hm_T} {H : Heap} {locs : List Loc} {ls : Array Slot} (h : wp_10_mixHeapsAndMoves y1 S T Q) (hw : hm_w G H0 o 74 shX S T H) (hL : hm_L o 74 locs) (hl : lv_has ls 7 [(0, .ref (o + 0)), (1, .long y1)]) : W p l e rm_10_mixHeapsAndMoves s m args below meth c H locs 0 0 (MQ below (hm_Ql G H0 o 74 shX Q) args s 0 0 (t_fr o (o + 74))) (F0 m 0 ls []) := by
  have hx := cx.1.1
  have hb := cx.1.2.1
  unfold wp_10_mixHeapsAndMoves at h
  refine lv_lload_n hx hb d_10_mixHeapsAndMoves_0 rfl (lv_at hl 1 rfl) ?_
  refine lv_lstore_n (lv' := [(3, .long y1), (0, .ref (o + 0)), (1, .long y1)]) hx hb d_10_mixHeapsAndMoves_1 rfl hl (by decide) rfl (fun ls hl => ?_)
  refine lv_iconst (v := 0) hx hb d_10_mixHeapsAndMoves_2 (by decide) ?_
  refine lv_istore (lv' := [(5, .int 0), (3, .long y1), (0, .ref (o + 0)), (1, .long y1)]) hx hb d_10_mixHeapsAndMoves_3 hl (by decide) rfl (fun ls hl => ?_)
  obtain ⟨f, h⟩ := h
  exact lp_10_mixHeapsAndMoves_5 cx hr hlk f _ _ _ _ _ _ _ h hw hL (lv_sub hl [2, 1, 0] rfl)
set_option maxHeartbeats 4000000 in
set_option maxRecDepth 20000 in
theorem ct_10_mixHeapsAndMoves {y1 : Int64} {S : hm_S} {T : hm_T} {Q : Int64 → hm_S → hm_T → Prop} (h : wp_10_mixHeapsAndMoves y1 S T Q) : hm_M l G H0 o 74 shX y_10_mixHeapsAndMoves prog_1_method_40_code 7 (some .long) rm_10_mixHeapsAndMoves S T [.ref (o + 0), .long y1] (hm_Ql G H0 o 74 shX Q) := by
  refine Met.ofW (cc := prog_1_method_40_code) (maxL := 7) (ret := some .long) (by decide) rfl ?_
  intro p e s m args below meth c s₁ B hml hv
  obtain ⟨rfl, hK, hw⟩ := hv
  have cx : hm_cx G p s m _ c prog_1_method_40_code 7 "HeapGames" := ⟨⟨B.exec, B.bytes, hml, findClass_of_methodNamed B.named, fun w hq => atoms_spec (ws := hm_ws y_10_mixHeapsAndMoves prog_1_method_40_code 7 (some .long)) B.pre w (List.mem_cons_of_mem _ hq)⟩, hK⟩
  have hl := lv_entry ([.ref (o + 0), .long y1]) (n := 7) (Nat.le_of_ble_eq_true rfl)
  rw [lg_entry_eq]
  generalize (lg_sl ([.ref (o + 0), .long y1]) ++ List.replicate (7 - (lg_sl ([.ref (o + 0), .long y1])).length) Slot.unset).toArray = ls at hl ⊢
  have hl : lv_has ls 7 [(0, .ref (o + 0)), (1, .long y1)] := hl
  exact bk_10_mixHeapsAndMoves_0 cx B.returns B.notSynchronized h hw (hm_L0 _ _) hl
/-! ===== HeapGames.digest()J ===== -/
theorem d_10_digest_0 : decode prog_1_method_38_code 0 = .ok (.aload_n 0, 1) := by decide +kernel
theorem d_10_digest_1 : decode prog_1_method_38_code 1 = .ok (.invokevirtual 187, 3) := by decide +kernel
theorem d_10_digest_4 : decode prog_1_method_38_code 4 = .ok (.ldc2_w 254, 3) := by decide +kernel
theorem d_10_digest_7 : decode prog_1_method_38_code 7 = .ok (.lstore_n 1, 1) := by decide +kernel
theorem d_10_digest_8 : decode prog_1_method_38_code 8 = .ok (.iconst 1, 1) := by decide +kernel
theorem d_10_digest_9 : decode prog_1_method_38_code 9 = .ok (.istore_n 3, 1) := by decide +kernel
theorem d_10_digest_10 : decode prog_1_method_38_code 10 = .ok (.iload_n 3, 1) := by decide +kernel
theorem d_10_digest_11 : decode prog_1_method_38_code 11 = .ok (.bipush 13, 2) := by decide +kernel
theorem d_10_digest_13 : decode prog_1_method_38_code 13 = .ok (.if_icmp .gt 19, 3) := by decide +kernel
theorem d_10_digest_16 : decode prog_1_method_38_code 16 = .ok (.lload_n 1, 1) := by decide +kernel
theorem d_10_digest_17 : decode prog_1_method_38_code 17 = .ok (.aload_n 0, 1) := by decide +kernel
theorem d_10_digest_18 : decode prog_1_method_38_code 18 = .ok (.iload_n 3, 1) := by decide +kernel
theorem d_10_digest_19 : decode prog_1_method_38_code 19 = .ok (.invokevirtual 256, 3) := by decide +kernel
theorem d_10_digest_22 : decode prog_1_method_38_code 22 = .ok (.invokestatic 259, 3) := by decide +kernel
theorem d_10_digest_25 : decode prog_1_method_38_code 25 = .ok (.lstore_n 1, 1) := by decide +kernel
theorem d_10_digest_26 : decode prog_1_method_38_code 26 = .ok (.iinc 3 1, 3) := by decide +kernel
theorem d_10_digest_29 : decode prog_1_method_38_code 29 = .ok (.goto (-19), 3) := by decide +kernel
theorem d_10_digest_32 : decode prog_1_method_38_code 32 = .ok (.iconst 0, 1) := by decide +kernel
theorem d_10_digest_33 : decode prog_1_method_38_code 33 = .ok (.istore_n 3, 1) := by decide +kernel
theorem d_10_digest_34 : decode prog_1_method_38_code 34 = .ok (.iload_n 3, 1) := by decide +kernel
theorem d_10_digest_35 : decode prog_1_method_38_code 35 = .ok (.bipush 7, 2) := by decide +kernel
theorem d_10_digest_37 : decode prog_1_method_38_code 37 = .ok (.if_icmp .gt 19, 3) := by decide +kernel
theorem d_10_digest_40 : decode prog_1_method_38_code 40 = .ok (.lload_n 1, 1) := by decide +kernel
theorem d_10_digest_41 : decode prog_1_method_38_code 41 = .ok (.aload_n 0, 1) := by decide +kernel
theorem d_10_digest_42 : decode prog_1_method_38_code 42 = .ok (.iload_n 3, 1) := by decide +kernel
theorem d_10_digest_43 : decode prog_1_method_38_code 43 = .ok (.invokevirtual 251, 3) := by decide +kernel
theorem d_10_digest_46 : decode prog_1_method_38_code 46 = .ok (.invokestatic 259, 3) := by decide +kernel
theorem d_10_digest_49 : decode prog_1_method_38_code 49 = .ok (.lstore_n 1, 1) := by decide +kernel
theorem d_10_digest_50 : decode prog_1_method_38_code 50 = .ok (.iinc 3 1, 3) := by decide +kernel
theorem d_10_digest_53 : decode prog_1_method_38_code 53 = .ok (.goto (-19), 3) := by decide +kernel
theorem d_10_digest_56 : decode prog_1_method_38_code 56 = .ok (.aload_n 0, 1) := by decide +kernel
theorem d_10_digest_57 : decode prog_1_method_38_code 57 = .ok (.lload_n 1, 1) := by decide +kernel
theorem d_10_digest_58 : decode prog_1_method_38_code 58 = .ok (.invokevirtual 263, 3) := by decide +kernel
theorem d_10_digest_61 : decode prog_1_method_38_code 61 = .ok (.lstore_n 1, 1) := by decide +kernel
theorem d_10_digest_62 : decode prog_1_method_38_code 62 = .ok (.lload_n 1, 1) := by decide +kernel
theorem d_10_digest_63 : decode prog_1_method_38_code 63 = .ok (.aload_n 0, 1) := by decide +kernel
theorem d_10_digest_64 : decode prog_1_method_38_code 64 = .ok (.getfield 37, 3) := by decide +kernel
theorem d_10_digest_67 : decode prog_1_method_38_code 67 = .ok (.aload_n 0, 1) := by decide +kernel
theorem d_10_digest_68 : decode prog_1_method_38_code 68 = .ok (.getfield 80, 3) := by decide +kernel
theorem d_10_digest_71 : decode prog_1_method_38_code 71 = .ok (.invokevirtual 217, 3) := by decide +kernel
theorem d_10_digest_74 : decode prog_1_method_38_code 74 = .ok (.invokestatic 259, 3) := by decide +kernel
theorem d_10_digest_77 : decode prog_1_method_38_code 77 = .ok (.lstore_n 1, 1) := by decide +kernel
theorem d_10_digest_78 : decode prog_1_method_38_code 78 = .ok (.lload_n 1, 1) := by decide +kernel
theorem d_10_digest_79 : decode prog_1_method_38_code 79 = .ok (.aload_n 0, 1) := by decide +kernel
theorem d_10_digest_80 : decode prog_1_method_38_code 80 = .ok (.getfield 37, 3) := by decide +kernel
theorem d_10_digest_83 : decode prog_1_method_38_code 83 = .ok (.aload_n 0, 1) := by decide +kernel
theorem d_10_digest_84 : decode prog_1_method_38_code 84 = .ok (.getfield 80, 3) := by decide +kernel
theorem d_10_digest_87 : decode prog_1_method_38_code 87 = .ok (.invokevirtual 220, 3) := by decide +kernel
theorem d_10_digest_90 : decode prog_1_method_38_code 90 = .ok (.invokestatic 259, 3) := by decide +kernel
theorem d_10_digest_93 : decode prog_1_method_38_code 93 = .ok (.lstore_n 1, 1) := by decide +kernel
theorem d_10_digest_94 : decode prog_1_method_38_code 94 = .ok (.lload_n 1, 1) := by decide +kernel
theorem d_10_digest_95 : decode prog_1_method_38_code 95 = .ok (.aload_n 0, 1) := by decide +kernel
theorem d_10_digest_96 : decode prog_1_method_38_code 96 = .ok (.invokevirtual 226, 3) := by decide +kernel
theorem d_10_digest_99 : decode prog_1_method_38_code 99 = .ok (.invokestatic 259, 3) := by decide +kernel
theorem d_10_digest_102 : decode prog_1_method_38_code 102 = .ok (.lstore_n 1, 1) := by decide +kernel
theorem d_10_digest_103 : decode prog_1_method_38_code 103 = .ok (.lload_n 1, 1) := by decide +kernel
theorem d_10_digest_104 : decode prog_1_method_38_code 104 = .ok (.aload_n 0, 1) := by decide +kernel
theorem d_10_digest_105 : decode prog_1_method_38_code 105 = .ok (.invokevirtual 229, 3) := by decide +kernel
theorem d_10_digest_108 : decode prog_1_method_38_code 108 = .ok (.invokestatic 259, 3) := by decide +kernel
theorem d_10_digest_111 : decode prog_1_method_38_code 111 = .ok (.lstore_n 1, 1) := by decide +kernel
theorem d_10_digest_112 : decode prog_1_method_38_code 112 = .ok (.lload_n 1, 1) := by decide +kernel
theorem d_10_digest_113 : decode prog_1_method_38_code 113 = .ok (.aload_n 0, 1) := by decide +kernel
theorem d_10_digest_114 : decode prog_1_method_38_code 114 = .ok (.getfield 46, 3) := by decide +kernel
theorem d_10_digest_117 : decode prog_1_method_38_code 117 = .ok (.invokevirtual 245, 3) := by decide +kernel
theorem d_10_digest_120 : decode prog_1_method_38_code 120 = .ok (.invokestatic 259, 3) := by decide +kernel
theorem d_10_digest_123 : decode prog_1_method_38_code 123 = .ok (.lstore_n 1, 1) := by decide +kernel
theorem d_10_digest_124 : decode prog_1_method_38_code 124 = .ok (.lload_n 1, 1) := by decide +kernel
theorem d_10_digest_125 : decode prog_1_method_38_code 125 = .ok (.aload_n 0, 1) := by decide +kernel
theorem d_10_digest_126 : decode prog_1_method_38_code 126 = .ok (.getfield 46, 3) := by decide +kernel
theorem d_10_digest_129 : decode prog_1_method_38_code 129 = .ok (.invokevirtual 248, 3) := by decide +kernel
theorem d_10_digest_132 : decode prog_1_method_38_code 132 = .ok (.invokestatic 259, 3) := by decide +kernel
theorem d_10_digest_135 : decode prog_1_method_38_code 135 = .ok (.lstore_n 1, 1) := by decide +kernel
theorem d_10_digest_136 : decode prog_1_method_38_code 136 = .ok (.iconst 0, 1) := by decide +kernel
theorem d_10_digest_137 : decode prog_1_method_38_code 137 = .ok (.istore_n 3, 1) := by decide +kernel
theorem d_10_digest_138 : decode prog_1_method_38_code 138 = .ok (.iload_n 3, 1) := by decide +kernel
theorem d_10_digest_139 : decode prog_1_method_38_code 139 = .ok (.bipush 60, 2) := by decide +kernel
theorem d_10_digest_141 : decode prog_1_method_38_code 141 = .ok (.if_icmp .gt 22, 3) := by decide +kernel
theorem d_10_digest_144 : decode prog_1_method_38_code 144 = .ok (.lload_n 1, 1) := by decide +kernel
theorem d_10_digest_145 : decode prog_1_method_38_code 145 = .ok (.aload_n 0, 1) := by decide +kernel
theorem d_10_digest_146 : decode prog_1_method_38_code 146 = .ok (.getfield 46, 3) := by decide +kernel
theorem d_10_digest_149 : decode prog_1_method_38_code 149 = .ok (.iload_n 3, 1) := by decide +kernel
theorem d_10_digest_150 : decode prog_1_method_38_code 150 = .ok (.invokevirtual 178, 3) := by decide +kernel
theorem d_10_digest_153 : decode prog_1_method_38_code 153 = .ok (.invokestatic 259, 3) := by decide +kernel
theorem d_10_digest_156 : decode prog_1_method_38_code 156 = .ok (.lstore_n 1, 1) := by decide +kernel
theorem d_10_digest_157 : decode prog_1_method_38_code 157 = .ok (.iinc 3 1, 3) := by decide +kernel
theorem d_10_digest_160 : decode prog_1_method_38_code 160 = .ok (.goto (-22), 3) := by decide +kernel
theorem d_10_digest_163 : decode prog_1_method_38_code 163 = .ok (.iconst 0, 1) := by decide +kernel
theorem d_10_digest_164 : decode prog_1_method_38_code 164 = .ok (.istore_n 3, 1) := by decide +kernel
theorem d_10_digest_165 : decode prog_1_method_38_code 165 = .ok (.iload_n 3, 1) := by decide +kernel
theorem d_10_digest_166 : decode prog_1_method_38_code 166 = .ok (.aload_n 0, 1) := by decide +kernel
theorem d_10_digest_167 : decode prog_1_method_38_code 167 = .ok (.getfield 53, 3) := by decide +kernel
theorem d_10_digest_170 : decode prog_1_method_38_code 170 = .ok (.getfield 104, 3) := by decide +kernel
theorem d_10_digest_173 : decode prog_1_method_38_code 173 = .ok (.if_icmp .ge 22, 3) := by decide +kernel
theorem d_10_digest_176 : decode prog_1_method_38_code 176 = .ok (.lload_n 1, 1) := by decide +kernel
theorem d_10_digest_177 : decode prog_1_method_38_code 177 = .ok (.aload_n 0, 1) := by decide +kernel
theorem d_10_digest_178 : decode prog_1_method_38_code 178 = .ok (.getfield 53, 3) := by decide +kernel
theorem d_10_digest_181 : decode prog_1_method_38_code 181 = .ok (.iload_n 3, 1) := by decide +kernel
theorem d_10_digest_182 : decode prog_1_method_38_code 182 = .ok (.invokevirtual 267, 3) := by decide +kernel
theorem d_10_digest_185 : decode prog_1_method_38_code 185 = .ok (.invokestatic 259, 3) := by decide +kernel
theorem d_10_digest_188 : decode prog_1_method_38_code 188 = .ok (.lstore_n 1, 1) := by decide +kernel
theorem d_10_digest_189 : decode prog_1_method_38_code 189 = .ok (.iinc 3 1, 3) := by decide +kernel
theorem d_10_digest_192 : decode prog_1_method_38_code 192 = .ok (.goto (-27), 3) := by decide +kernel
theorem d_10_digest_195 : decode prog_1_method_38_code 195 = .ok (.lload_n 1, 1) := by decide +kernel
theorem d_10_digest_196 : decode prog_1_method_38_code 196 = .ok (.lreturn, 1) := by decide +kernel
def wb_10_digest_165 (Q : Int64 → hm_S → hm_T → Prop) (K165 : Int64 → Int32 → hm_S → hm_T → Prop) (y1 : Int64) (x3 : Int32) (S : hm_S) (T : hm_T) : Prop :=
  (if (S 64 1) ≤ x3 then Q y1 S T else wp_9_letterAt x3 S T (fun r15 S15 T15 => wp_10_mix y1 r15 S15 T15 (fun r16 S16 T16 => K165 r16 (x3 + 1) S16 T16)))
set_option maxHeartbeats 4000000 in
set_option maxRecDepth 20000 in
theorem bk_10_digest_165 {Q : Int64 → hm_S → hm_T → Prop} {K165 : Int64 → Int32 → hm_S → hm_T → Prop} (cx : hm_cx G p s m args c prog_1_method_38_code 4 "HeapGames") (hr : meth.sig.returnType = some .long) (hlk : meth.locks = false) (k165 : ∀ (y1 : Int64) (x3 : Int32) (S : hm_S) (T : hm_T) (H : Heap) (locs : List Loc) (ls : Array Slot), K165 y1 x3 S T → hm_w G H0 o 74 shX S T H → hm_L o 74 locs → lv_has ls 4 [(0, .ref (o + 0)), (1, .long y1), (3, .int x3)] → W p l e rm_10_digest s m args below meth c H locs 0 0 (MQ below (hm_Ql G H0 o 74 shX Q) args s 0 0 (t_fr o (o + 74))) (F0 m 165 ls [])) {y1 : Int64} {x3 : Int32} {S : hm_S} {T : hm_T} {H : Heap} {locs : List Loc} {ls : Array Slot} (h : wb_10_digest_165 Q K165 y1 x3 S T) (hw : hm_w G H0 o 74 shX S T H) (hL : hm_L o 74 locs) (hl : lv_has ls 4 [(0, .ref (o + 0)), (1, .long y1), (3, .int x3)]) : W p l e rm_10_digest s m args below meth c H locs 0 0 (MQ below (hm_Ql G H0 o 74 shX Q) args s 0 0 (t_fr o (o + 74))) (F0 m 165 ls []) := by
  have hx := cx.1.1
  have hb := cx.1.2.1
  unfold wb_10_digest_165 at h
  refine lv_iload_n hx hb d_10_digest_165 rfl (lv_at hl 2 rfl) ?_
  refine lv_aload_n hx hb d_10_digest_166 rfl (lv_at hl 0 rfl) ?_
  refine gf_10_53 cx hw (i := 0) (r := 64) (by decide) sx_0 rfl d_10_digest_167 ?_
  refine gf_10_104 cx hw (i := 64) (by decide) sx_64 rfl d_10_digest_170 ?_
  refine lv_icmp_ge (tgt := 195) hx hb d_10_digest_173 (by decide) (fun hc => ?_) (fun hc => ?_)
  · replace h := hm_pos hc h
    refine lv_lload_n hx hb d_10_digest_195 rfl (lv_at hl 1 rfl) ?_
    exact W.lret hx hb hr (fun t ht _ => ⟨_, _, _, rfl, h, by rw [ht]; exact hw⟩) hL d_10_digest_196
  · replace h := hm_neg hc h
    refine lv_lload_n hx hb d_10_digest_176 rfl (lv_at hl 1 rfl) ?_
    refine lv_aload_n hx hb d_10_digest_177 rfl (lv_at hl 0 rfl) ?_
    refine gf_10_53 cx hw (i := 0) (r := 64) (by decide) sx_0 rfl d_10_digest_178 ?_
    refine lv_iload_n hx hb d_10_digest_181 rfl (lv_at hl 2 rfl) ?_
    refine hm_calli (hm_rV (i := 64) (As := [.int x3]) (rest := [.long y1]) cx hw (ct_9_letterAt h) (mw_10_267 cx.1.2.2.2.2 ⟨Nat.le_of_ble_eq_true rfl, Nat.le_of_ble_eq_true rfl⟩) (by decide) sx_64 rfl rfl hl.1 rfl (Nat.le_of_ble_eq_true rfl) d_10_digest_182 ⟨Nat.zero_le _, Nat.zero_le _⟩) hL (fun r15 S15 T15 H locs h hw hL => ?_)
    refine hm_calll (hm_rS (As := [.long y1, .int r15]) (rest := []) cx hw (ct_10_mix h) (mw_10_259 cx.1.2.2.2.2 ⟨Nat.le_of_ble_eq_true rfl, Nat.le_of_ble_eq_true rfl⟩) rfl hl.1 rfl (Nat.le_of_ble_eq_true rfl) d_10_digest_185 ⟨Nat.zero_le _, Nat.zero_le _⟩) hL (fun r16 S16 T16 H locs h hw hL => ?_)
    refine lv_lstore_n (lv' := [(1, .long r16), (0, .ref (o + 0)), (3, .int x3)]) hx hb d_10_digest_188 rfl hl (by decide) rfl (fun ls hl => ?_)
    refine lv_iinc (v := (x3 + 1)) (lv' := [(3, .int (x3 + 1)), (1, .long r16), (0, .ref (o + 0))]) hx hb d_10_digest_189 hl (k := 2) rfl rfl (by decide) rfl (fun ls hl => ?_)
    refine lv_goto (tgt := 165) hx hb d_10_digest_192 (by decide) ?_
    exact k165 _ _ _ _ _ _ _ h hw hL (lv_sub hl [2, 1, 0] rfl)
def wl_10_digest_165 (Q : Int64 → hm_S → hm_T → Prop) : Nat → Int64 → Int32 → hm_S → hm_T → Prop
  | 0, _, _, _, _ => False
  | f + 1, y1, x3, S, T => wb_10_digest_165 Q (wl_10_digest_165 Q f) y1 x3 S T
theorem lp_10_digest_165 {Q : Int64 → hm_S → hm_T → Prop} (cx : hm_cx G p s m args c prog_1_method_38_code 4 "HeapGames") (hr : meth.sig.returnType = some .long) (hlk : meth.locks = false) : ∀ (f : Nat) (y1 : Int64) (x3 : Int32) (S : hm_S) (T : hm_T) (H : Heap) (locs : List Loc) (ls : Array Slot), wl_10_digest_165 Q f y1 x3 S T → hm_w G H0 o 74 shX S T H → hm_L o 74 locs → lv_has ls 4 [(0, .ref (o + 0)), (1, .long y1), (3, .int x3)] → W p l e rm_10_digest s m args below meth c H locs 0 0 (MQ below (hm_Ql G H0 o 74 shX Q) args s 0 0 (t_fr o (o + 74))) (F0 m 165 ls []) := by
  intro f
  induction f with
  | zero => intro y1 x3 S T H locs ls h; exact h.elim
  | succ f ih => intro y1 x3 S T H locs ls h hw hL hl; exact bk_10_digest_165 cx hr hlk ih h hw hL hl
def wb_10_digest_163 (Q : Int64 → hm_S → hm_T → Prop) (y1 : Int64) (S : hm_S) (T : hm_T) : Prop :=
  ∃ f, wl_10_digest_165 Q f y1 0 S T
set_option maxHeartbeats 4000000 in
set_option maxRecDepth 20000 in
theorem bk_10_digest_163 {Q : Int64 → hm_S → hm_T → Prop} (cx : hm_cx G p s m args c prog_1_method_38_code 4 "HeapGames") (hr : meth.sig.returnType = some .long) (hlk : meth.locks = false) {y1 : Int64} {S : hm_S} {T : hm_T} {H : Heap} {locs : List Loc} {ls : Array Slot} (h : wb_10_digest_163 Q y1 S T) (hw : hm_w G H0 o 74 shX S T H) (hL : hm_L o 74 locs) (hl : lv_has ls 4 [(0, .ref (o + 0)), (1, .long y1)]) : W p l e rm_10_digest s m args below meth c H locs 0 0 (MQ below (hm_Ql G H0 o 74 shX Q) args s 0 0 (t_fr o (o + 74))) (F0 m 163 ls []) := by
  have hx := cx.1.1
  have hb := cx.1.2.1
  unfold wb_10_digest_163 at h
  refine lv_iconst (v := 0) hx hb d_10_digest_163 (by decide) ?_
  refine lv_istore_n (lv' := [(3, .int 0), (0, .ref (o + 0)), (1, .long y1)]) hx hb d_10_digest_164 rfl hl (by decide) rfl (fun ls hl => ?_)
  obtain ⟨f, h⟩ := h
  exact lp_10_digest_165 cx hr hlk f _ _ _ _ _ _ _ h hw hL (lv_sub hl [1, 2, 0] rfl)
def wb_10_digest_138 (Q : Int64 → hm_S → hm_T → Prop) (K138 : Int64 → Int32 → hm_S → hm_T → Prop) (y1 : Int64) (x3 : Int32) (S : hm_S) (T : hm_T) : Prop :=
  (if 60 < x3 then wb_10_digest_163 Q y1 S T else wp_0_valueOf x3 S T (fun r17 S17 T17 => wp_10_mix y1 r17 S17 T17 (fun r18 S18 T18 => K138 r18 (x3 + 1) S18 T18)))
set_option maxHeartbeats 4000000 in
set_option maxRecDepth 20000 in
theorem bk_10_digest_138 {Q : Int64 → hm_S → hm_T → Prop} {K138 : Int64 → Int32 → hm_S → hm_T → Prop} (cx : hm_cx G p s m args c prog_1_method_38_code 4 "HeapGames") (hr : meth.sig.returnType = some .long) (hlk : meth.locks = false) (k138 : ∀ (y1 : Int64) (x3 : Int32) (S : hm_S) (T : hm_T) (H : Heap) (locs : List Loc) (ls : Array Slot), K138 y1 x3 S T → hm_w G H0 o 74 shX S T H → hm_L o 74 locs → lv_has ls 4 [(0, .ref (o + 0)), (1, .long y1), (3, .int x3)] → W p l e rm_10_digest s m args below meth c H locs 0 0 (MQ below (hm_Ql G H0 o 74 shX Q) args s 0 0 (t_fr o (o + 74))) (F0 m 138 ls [])) {y1 : Int64} {x3 : Int32} {S : hm_S} {T : hm_T} {H : Heap} {locs : List Loc} {ls : Array Slot} (h : wb_10_digest_138 Q K138 y1 x3 S T) (hw : hm_w G H0 o 74 shX S T H) (hL : hm_L o 74 locs) (hl : lv_has ls 4 [(0, .ref (o + 0)), (1, .long y1), (3, .int x3)]) : W p l e rm_10_digest s m args below meth c H locs 0 0 (MQ below (hm_Ql G H0 o 74 shX Q) args s 0 0 (t_fr o (o + 74))) (F0 m 138 ls []) := by
  have hx := cx.1.1
  have hb := cx.1.2.1
  unfold wb_10_digest_138 at h
  refine lv_iload_n hx hb d_10_digest_138 rfl (lv_at hl 2 rfl) ?_
  refine lv_bipush (v := 60) hx hb d_10_digest_139 (by decide) ?_
  refine lv_icmp_gt (tgt := 163) hx hb d_10_digest_141 (by decide) (fun hc => ?_) (fun hc => ?_)
  · replace h := hm_pos hc h
    exact bk_10_digest_163 cx hr hlk h hw hL (lv_sub hl [0, 1] rfl)
  · replace h := hm_neg hc h
    refine lv_lload_n hx hb d_10_digest_144 rfl (lv_at hl 1 rfl) ?_
    refine lv_aload_n hx hb d_10_digest_145 rfl (lv_at hl 0 rfl) ?_
    refine gf_10_46 cx hw (i := 0) (r := 59) (by decide) sx_0 rfl d_10_digest_146 ?_
    refine lv_iload_n hx hb d_10_digest_149 rfl (lv_at hl 2 rfl) ?_
    refine hm_calli (hm_rV (i := 59) (As := [.int x3]) (rest := [.long y1]) cx hw (ct_0_valueOf h) (mw_10_178 cx.1.2.2.2.2 ⟨Nat.le_of_ble_eq_true rfl, Nat.le_of_ble_eq_true rfl⟩) (by decide) sx_59 rfl rfl hl.1 rfl (Nat.le_of_ble_eq_true rfl) d_10_digest_150 ⟨Nat.zero_le _, Nat.zero_le _⟩) hL (fun r17 S17 T17 H locs h hw hL => ?_)
    refine hm_calll (hm_rS (As := [.long y1, .int r17]) (rest := []) cx hw (ct_10_mix h) (mw_10_259 cx.1.2.2.2.2 ⟨Nat.le_of_ble_eq_true rfl, Nat.le_of_ble_eq_true rfl⟩) rfl hl.1 rfl (Nat.le_of_ble_eq_true rfl) d_10_digest_153 ⟨Nat.zero_le _, Nat.zero_le _⟩) hL (fun r18 S18 T18 H locs h hw hL => ?_)
    refine lv_lstore_n (lv' := [(1, .long r18), (0, .ref (o + 0)), (3, .int x3)]) hx hb d_10_digest_156 rfl hl (by decide) rfl (fun ls hl => ?_)
    refine lv_iinc (v := (x3 + 1)) (lv' := [(3, .int (x3 + 1)), (1, .long r18), (0, .ref (o + 0))]) hx hb d_10_digest_157 hl (k := 2) rfl rfl (by decide) rfl (fun ls hl => ?_)
    refine lv_goto (tgt := 138) hx hb d_10_digest_160 (by decide) ?_
    exact k138 _ _ _ _ _ _ _ h hw hL (lv_sub hl [2, 1, 0] rfl)
def wl_10_digest_138 (Q : Int64 → hm_S → hm_T → Prop) : Nat → Int64 → Int32 → hm_S → hm_T → Prop
  | 0, _, _, _, _ => False
  | f + 1, y1, x3, S, T => wb_10_digest_138 Q (wl_10_digest_138 Q f) y1 x3 S T
theorem lp_10_digest_138 {Q : Int64 → hm_S → hm_T → Prop} (cx : hm_cx G p s m args c prog_1_method_38_code 4 "HeapGames") (hr : meth.sig.returnType = some .long) (hlk : meth.locks = false) : ∀ (f : Nat) (y1 : Int64) (x3 : Int32) (S : hm_S) (T : hm_T) (H : Heap) (locs : List Loc) (ls : Array Slot), wl_10_digest_138 Q f y1 x3 S T → hm_w G H0 o 74 shX S T H → hm_L o 74 locs → lv_has ls 4 [(0, .ref (o + 0)), (1, .long y1), (3, .int x3)] → W p l e rm_10_digest s m args below meth c H locs 0 0 (MQ below (hm_Ql G H0 o 74 shX Q) args s 0 0 (t_fr o (o + 74))) (F0 m 138 ls []) := by
  intro f
  induction f with
  | zero => intro y1 x3 S T H locs ls h; exact h.elim
  | succ f ih => intro y1 x3 S T H locs ls h hw hL hl; exact bk_10_digest_138 cx hr hlk ih h hw hL hl
def wb_10_digest_56 (Q : Int64 → hm_S → hm_T → Prop) (y1 : Int64) (S : hm_S) (T : hm_T) : Prop :=
  wp_10_mixHeapsAndMoves y1 S T (fun r2 S2 T2 => wp_8_outcomeOf (S2 0 9) S2 T2 (fun r3 S3 T3 => wp_10_mix r2 r3 S3 T3 (fun r4 S4 T4 => wp_8_distanceOf (S4 0 9) S4 T4 (fun r5 S5 T5 => wp_10_mix r4 r5 S5 T5 (fun r6 S6 T6 => wp_10_bestMove S6 T6 (fun r7 S7 T7 => wp_10_mix r6 r7 S7 T7 (fun r8 S8 T8 => wp_10_goodMoves S8 T8 (fun r9 S9 T9 => wp_10_mix r8 r9 S9 T9 (fun r10 S10 T10 => wp_0_periodLength S10 T10 (fun r11 S11 T11 => wp_10_mix r10 r11 S11 T11 (fun r12 S12 T12 => wp_0_periodStart S12 T12 (fun r13 S13 T13 => wp_10_mix r12 r13 S13 T13 (fun r14 S14 T14 => ∃ f, wl_10_digest_138 Q f r14 0 S14 T14)))))))))))))
set_option maxHeartbeats 4000000 in
set_option maxRecDepth 20000 in
theorem bk_10_digest_56 {Q : Int64 → hm_S → hm_T → Prop} (cx : hm_cx G p s m args c prog_1_method_38_code 4 "HeapGames") (hr : meth.sig.returnType = some .long) (hlk : meth.locks = false) {y1 : Int64} {S : hm_S} {T : hm_T} {H : Heap} {locs : List Loc} {ls : Array Slot} (h : wb_10_digest_56 Q y1 S T) (hw : hm_w G H0 o 74 shX S T H) (hL : hm_L o 74 locs) (hl : lv_has ls 4 [(0, .ref (o + 0)), (1, .long y1)]) : W p l e rm_10_digest s m args below meth c H locs 0 0 (MQ below (hm_Ql G H0 o 74 shX Q) args s 0 0 (t_fr o (o + 74))) (F0 m 56 ls []) := by
  have hx := cx.1.1
  have hb := cx.1.2.1
  unfold wb_10_digest_56 at h
  refine lv_aload_n hx hb d_10_digest_56 rfl (lv_at hl 0 rfl) ?_
  refine lv_lload_n hx hb d_10_digest_57 rfl (lv_at hl 1 rfl) ?_
  refine hm_calll (hm_rV (i := 0) (As := [.long y1]) (rest := []) cx hw (ct_10_mixHeapsAndMoves h) (mw_10_263 cx.1.2.2.2.2 ⟨Nat.le_of_ble_eq_true rfl, Nat.le_of_ble_eq_true rfl⟩) (by decide) sx_0 rfl rfl hl.1 rfl (Nat.le_of_ble_eq_true rfl) d_10_digest_58 ⟨Nat.zero_le _, Nat.zero_le _⟩) hL (fun r2 S2 T2 H locs h hw hL => ?_)
  refine lv_lstore_n (lv' := [(1, .long r2), (0, .ref (o + 0))]) hx hb d_10_digest_61 rfl hl (by decide) rfl (fun ls hl => ?_)
  refine lv_lload_n hx hb d_10_digest_62 rfl (lv_at hl 0 rfl) ?_
  refine lv_aload_n hx hb d_10_digest_63 rfl (lv_at hl 1 rfl) ?_
  refine gf_10_37 cx hw (i := 0) (r := 36) (by decide) sx_0 rfl d_10_digest_64 ?_
  refine lv_aload_n hx hb d_10_digest_67 rfl (lv_at hl 1 rfl) ?_
  refine gf_10_80 cx hw (i := 0) (by decide) sx_0 rfl d_10_digest_68 ?_
  refine hm_calli (hm_rV (i := 36) (As := [.int (S2 0 9)]) (rest := [.long r2]) cx hw (ct_8_outcomeOf h) (mw_10_217 cx.1.2.2.2.2 ⟨Nat.le_of_ble_eq_true rfl, Nat.le_of_ble_eq_true rfl⟩) (by decide) sx_36 rfl rfl hl.1 rfl (Nat.le_of_ble_eq_true rfl) d_10_digest_71 ⟨Nat.zero_le _, Nat.zero_le _⟩) hL (fun r3 S3 T3 H locs h hw hL => ?_)
  refine hm_calll (hm_rS (As := [.long r2, .int r3]) (rest := []) cx hw (ct_10_mix h) (mw_10_259 cx.1.2.2.2.2 ⟨Nat.le_of_ble_eq_true rfl, Nat.le_of_ble_eq_true rfl⟩) rfl hl.1 rfl (Nat.le_of_ble_eq_true rfl) d_10_digest_74 ⟨Nat.zero_le _, Nat.zero_le _⟩) hL (fun r4 S4 T4 H locs h hw hL => ?_)
  refine lv_lstore_n (lv' := [(1, .long r4), (0, .ref (o + 0))]) hx hb d_10_digest_77 rfl hl (by decide) rfl (fun ls hl => ?_)
  refine lv_lload_n hx hb d_10_digest_78 rfl (lv_at hl 0 rfl) ?_
  refine lv_aload_n hx hb d_10_digest_79 rfl (lv_at hl 1 rfl) ?_
  refine gf_10_37 cx hw (i := 0) (r := 36) (by decide) sx_0 rfl d_10_digest_80 ?_
  refine lv_aload_n hx hb d_10_digest_83 rfl (lv_at hl 1 rfl) ?_
  refine gf_10_80 cx hw (i := 0) (by decide) sx_0 rfl d_10_digest_84 ?_
  refine hm_calli (hm_rV (i := 36) (As := [.int (S4 0 9)]) (rest := [.long r4]) cx hw (ct_8_distanceOf h) (mw_10_220 cx.1.2.2.2.2 ⟨Nat.le_of_ble_eq_true rfl, Nat.le_of_ble_eq_true rfl⟩) (by decide) sx_36 rfl rfl hl.1 rfl (Nat.le_of_ble_eq_true rfl) d_10_digest_87 ⟨Nat.zero_le _, Nat.zero_le _⟩) hL (fun r5 S5 T5 H locs h hw hL => ?_)
  refine hm_calll (hm_rS (As := [.long r4, .int r5]) (rest := []) cx hw (ct_10_mix h) (mw_10_259 cx.1.2.2.2.2 ⟨Nat.le_of_ble_eq_true rfl, Nat.le_of_ble_eq_true rfl⟩) rfl hl.1 rfl (Nat.le_of_ble_eq_true rfl) d_10_digest_90 ⟨Nat.zero_le _, Nat.zero_le _⟩) hL (fun r6 S6 T6 H locs h hw hL => ?_)
  refine lv_lstore_n (lv' := [(1, .long r6), (0, .ref (o + 0))]) hx hb d_10_digest_93 rfl hl (by decide) rfl (fun ls hl => ?_)
  refine lv_lload_n hx hb d_10_digest_94 rfl (lv_at hl 0 rfl) ?_
  refine lv_aload_n hx hb d_10_digest_95 rfl (lv_at hl 1 rfl) ?_
  refine hm_calli (hm_rV (i := 0) (As := []) (rest := [.long r6]) cx hw (ct_10_bestMove h) (mw_10_226 cx.1.2.2.2.2 ⟨Nat.le_of_ble_eq_true rfl, Nat.le_of_ble_eq_true rfl⟩) (by decide) sx_0 rfl rfl hl.1 rfl (Nat.le_of_ble_eq_true rfl) d_10_digest_96 ⟨Nat.zero_le _, Nat.zero_le _⟩) hL (fun r7 S7 T7 H locs h hw hL => ?_)
  refine hm_calll (hm_rS (As := [.long r6, .int r7]) (rest := []) cx hw (ct_10_mix h) (mw_10_259 cx.1.2.2.2.2 ⟨Nat.le_of_ble_eq_true rfl, Nat.le_of_ble_eq_true rfl⟩) rfl hl.1 rfl (Nat.le_of_ble_eq_true rfl) d_10_digest_99 ⟨Nat.zero_le _, Nat.zero_le _⟩) hL (fun r8 S8 T8 H locs h hw hL => ?_)
  refine lv_lstore_n (lv' := [(1, .long r8), (0, .ref (o + 0))]) hx hb d_10_digest_102 rfl hl (by decide) rfl (fun ls hl => ?_)
  refine lv_lload_n hx hb d_10_digest_103 rfl (lv_at hl 0 rfl) ?_
  refine lv_aload_n hx hb d_10_digest_104 rfl (lv_at hl 1 rfl) ?_
  refine hm_calli (hm_rV (i := 0) (As := []) (rest := [.long r8]) cx hw (ct_10_goodMoves h) (mw_10_229 cx.1.2.2.2.2 ⟨Nat.le_of_ble_eq_true rfl, Nat.le_of_ble_eq_true rfl⟩) (by decide) sx_0 rfl rfl hl.1 rfl (Nat.le_of_ble_eq_true rfl) d_10_digest_105 ⟨Nat.zero_le _, Nat.zero_le _⟩) hL (fun r9 S9 T9 H locs h hw hL => ?_)
  refine hm_calll (hm_rS (As := [.long r8, .int r9]) (rest := []) cx hw (ct_10_mix h) (mw_10_259 cx.1.2.2.2.2 ⟨Nat.le_of_ble_eq_true rfl, Nat.le_of_ble_eq_true rfl⟩) rfl hl.1 rfl (Nat.le_of_ble_eq_true rfl) d_10_digest_108 ⟨Nat.zero_le _, Nat.zero_le _⟩) hL (fun r10 S10 T10 H locs h hw hL => ?_)
  refine lv_lstore_n (lv' := [(1, .long r10), (0, .ref (o + 0))]) hx hb d_10_digest_111 rfl hl (by decide) rfl (fun ls hl => ?_)
  refine lv_lload_n hx hb d_10_digest_112 rfl (lv_at hl 0 rfl) ?_
  refine lv_aload_n hx hb d_10_digest_113 rfl (lv_at hl 1 rfl) ?_
  refine gf_10_46 cx hw (i := 0) (r := 59) (by decide) sx_0 rfl d_10_digest_114 ?_
  refine hm_calli (hm_rV (i := 59) (As := []) (rest := [.long r10]) cx hw (ct_0_periodLength h) (mw_10_245 cx.1.2.2.2.2 ⟨Nat.le_of_ble_eq_true rfl, Nat.le_of_ble_eq_true rfl⟩) (by decide) sx_59 rfl rfl hl.1 rfl (Nat.le_of_ble_eq_true rfl) d_10_digest_117 ⟨Nat.zero_le _, Nat.zero_le _⟩) hL (fun r11 S11 T11 H locs h hw hL => ?_)
  refine hm_calll (hm_rS (As := [.long r10, .int r11]) (rest := []) cx hw (ct_10_mix h) (mw_10_259 cx.1.2.2.2.2 ⟨Nat.le_of_ble_eq_true rfl, Nat.le_of_ble_eq_true rfl⟩) rfl hl.1 rfl (Nat.le_of_ble_eq_true rfl) d_10_digest_120 ⟨Nat.zero_le _, Nat.zero_le _⟩) hL (fun r12 S12 T12 H locs h hw hL => ?_)
  refine lv_lstore_n (lv' := [(1, .long r12), (0, .ref (o + 0))]) hx hb d_10_digest_123 rfl hl (by decide) rfl (fun ls hl => ?_)
  refine lv_lload_n hx hb d_10_digest_124 rfl (lv_at hl 0 rfl) ?_
  refine lv_aload_n hx hb d_10_digest_125 rfl (lv_at hl 1 rfl) ?_
  refine gf_10_46 cx hw (i := 0) (r := 59) (by decide) sx_0 rfl d_10_digest_126 ?_
  refine hm_calli (hm_rV (i := 59) (As := []) (rest := [.long r12]) cx hw (ct_0_periodStart h) (mw_10_248 cx.1.2.2.2.2 ⟨Nat.le_of_ble_eq_true rfl, Nat.le_of_ble_eq_true rfl⟩) (by decide) sx_59 rfl rfl hl.1 rfl (Nat.le_of_ble_eq_true rfl) d_10_digest_129 ⟨Nat.zero_le _, Nat.zero_le _⟩) hL (fun r13 S13 T13 H locs h hw hL => ?_)
  refine hm_calll (hm_rS (As := [.long r12, .int r13]) (rest := []) cx hw (ct_10_mix h) (mw_10_259 cx.1.2.2.2.2 ⟨Nat.le_of_ble_eq_true rfl, Nat.le_of_ble_eq_true rfl⟩) rfl hl.1 rfl (Nat.le_of_ble_eq_true rfl) d_10_digest_132 ⟨Nat.zero_le _, Nat.zero_le _⟩) hL (fun r14 S14 T14 H locs h hw hL => ?_)
  refine lv_lstore_n (lv' := [(1, .long r14), (0, .ref (o + 0))]) hx hb d_10_digest_135 rfl hl (by decide) rfl (fun ls hl => ?_)
  refine lv_iconst (v := 0) hx hb d_10_digest_136 (by decide) ?_
  refine lv_istore_n (lv' := [(3, .int 0), (1, .long r14), (0, .ref (o + 0))]) hx hb d_10_digest_137 rfl hl (by decide) rfl (fun ls hl => ?_)
  obtain ⟨f, h⟩ := h
  exact lp_10_digest_138 cx hr hlk f _ _ _ _ _ _ _ h hw hL (lv_sub hl [2, 1, 0] rfl)
def wb_10_digest_34 (Q : Int64 → hm_S → hm_T → Prop) (K34 : Int64 → Int32 → hm_S → hm_T → Prop) (y1 : Int64) (x3 : Int32) (S : hm_S) (T : hm_T) : Prop :=
  (if 7 < x3 then wb_10_digest_56 Q y1 S T else wp_10_numberOf x3 S T (fun r19 S19 T19 => wp_10_mix y1 r19 S19 T19 (fun r20 S20 T20 => K34 r20 (x3 + 1) S20 T20)))
set_option maxHeartbeats 4000000 in
set_option maxRecDepth 20000 in
theorem bk_10_digest_34 {Q : Int64 → hm_S → hm_T → Prop} {K34 : Int64 → Int32 → hm_S → hm_T → Prop} (cx : hm_cx G p s m args c prog_1_method_38_code 4 "HeapGames") (hr : meth.sig.returnType = some .long) (hlk : meth.locks = false) (k34 : ∀ (y1 : Int64) (x3 : Int32) (S : hm_S) (T : hm_T) (H : Heap) (locs : List Loc) (ls : Array Slot), K34 y1 x3 S T → hm_w G H0 o 74 shX S T H → hm_L o 74 locs → lv_has ls 4 [(0, .ref (o + 0)), (1, .long y1), (3, .int x3)] → W p l e rm_10_digest s m args below meth c H locs 0 0 (MQ below (hm_Ql G H0 o 74 shX Q) args s 0 0 (t_fr o (o + 74))) (F0 m 34 ls [])) {y1 : Int64} {x3 : Int32} {S : hm_S} {T : hm_T} {H : Heap} {locs : List Loc} {ls : Array Slot} (h : wb_10_digest_34 Q K34 y1 x3 S T) (hw : hm_w G H0 o 74 shX S T H) (hL : hm_L o 74 locs) (hl : lv_has ls 4 [(0, .ref (o + 0)), (1, .long y1), (3, .int x3)]) : W p l e rm_10_digest s m args below meth c H locs 0 0 (MQ below (hm_Ql G H0 o 74 shX Q) args s 0 0 (t_fr o (o + 74))) (F0 m 34 ls []) := by
  have hx := cx.1.1
  have hb := cx.1.2.1
  unfold wb_10_digest_34 at h
  refine lv_iload_n hx hb d_10_digest_34 rfl (lv_at hl 2 rfl) ?_
  refine lv_bipush (v := 7) hx hb d_10_digest_35 (by decide) ?_
  refine lv_icmp_gt (tgt := 56) hx hb d_10_digest_37 (by decide) (fun hc => ?_) (fun hc => ?_)
  · replace h := hm_pos hc h
    exact bk_10_digest_56 cx hr hlk h hw hL (lv_sub hl [0, 1] rfl)
  · replace h := hm_neg hc h
    refine lv_lload_n hx hb d_10_digest_40 rfl (lv_at hl 1 rfl) ?_
    refine lv_aload_n hx hb d_10_digest_41 rfl (lv_at hl 0 rfl) ?_
    refine lv_iload_n hx hb d_10_digest_42 rfl (lv_at hl 2 rfl) ?_
    refine hm_calli (hm_rV (i := 0) (As := [.int x3]) (rest := [.long y1]) cx hw (ct_10_numberOf h) (mw_10_251 cx.1.2.2.2.2 ⟨Nat.le_of_ble_eq_true rfl, Nat.le_of_ble_eq_true rfl⟩) (by decide) sx_0 rfl rfl hl.1 rfl (Nat.le_of_ble_eq_true rfl) d_10_digest_43 ⟨Nat.zero_le _, Nat.zero_le _⟩) hL (fun r19 S19 T19 H locs h hw hL => ?_)
    refine hm_calll (hm_rS (As := [.long y1, .int r19]) (rest := []) cx hw (ct_10_mix h) (mw_10_259 cx.1.2.2.2.2 ⟨Nat.le_of_ble_eq_true rfl, Nat.le_of_ble_eq_true rfl⟩) rfl hl.1 rfl (Nat.le_of_ble_eq_true rfl) d_10_digest_46 ⟨Nat.zero_le _, Nat.zero_le _⟩) hL (fun r20 S20 T20 H locs h hw hL => ?_)
    refine lv_lstore_n (lv' := [(1, .long r20), (0, .ref (o + 0)), (3, .int x3)]) hx hb d_10_digest_49 rfl hl (by decide) rfl (fun ls hl => ?_)
    refine lv_iinc (v := (x3 + 1)) (lv' := [(3, .int (x3 + 1)), (1, .long r20), (0, .ref (o + 0))]) hx hb d_10_digest_50 hl (k := 2) rfl rfl (by decide) rfl (fun ls hl => ?_)
    refine lv_goto (tgt := 34) hx hb d_10_digest_53 (by decide) ?_
    exact k34 _ _ _ _ _ _ _ h hw hL (lv_sub hl [2, 1, 0] rfl)
def wl_10_digest_34 (Q : Int64 → hm_S → hm_T → Prop) : Nat → Int64 → Int32 → hm_S → hm_T → Prop
  | 0, _, _, _, _ => False
  | f + 1, y1, x3, S, T => wb_10_digest_34 Q (wl_10_digest_34 Q f) y1 x3 S T
theorem lp_10_digest_34 {Q : Int64 → hm_S → hm_T → Prop} (cx : hm_cx G p s m args c prog_1_method_38_code 4 "HeapGames") (hr : meth.sig.returnType = some .long) (hlk : meth.locks = false) : ∀ (f : Nat) (y1 : Int64) (x3 : Int32) (S : hm_S) (T : hm_T) (H : Heap) (locs : List Loc) (ls : Array Slot), wl_10_digest_34 Q f y1 x3 S T → hm_w G H0 o 74 shX S T H → hm_L o 74 locs → lv_has ls 4 [(0, .ref (o + 0)), (1, .long y1), (3, .int x3)] → W p l e rm_10_digest s m args below meth c H locs 0 0 (MQ below (hm_Ql G H0 o 74 shX Q) args s 0 0 (t_fr o (o + 74))) (F0 m 34 ls []) := by
  intro f
  induction f with
  | zero => intro y1 x3 S T H locs ls h; exact h.elim
  | succ f ih => intro y1 x3 S T H locs ls h hw hL hl; exact bk_10_digest_34 cx hr hlk ih h hw hL hl
def wb_10_digest_32 (Q : Int64 → hm_S → hm_T → Prop) (y1 : Int64) (S : hm_S) (T : hm_T) : Prop :=
  ∃ f, wl_10_digest_34 Q f y1 0 S T
set_option maxHeartbeats 4000000 in
set_option maxRecDepth 20000 in
theorem bk_10_digest_32 {Q : Int64 → hm_S → hm_T → Prop} (cx : hm_cx G p s m args c prog_1_method_38_code 4 "HeapGames") (hr : meth.sig.returnType = some .long) (hlk : meth.locks = false) {y1 : Int64} {S : hm_S} {T : hm_T} {H : Heap} {locs : List Loc} {ls : Array Slot} (h : wb_10_digest_32 Q y1 S T) (hw : hm_w G H0 o 74 shX S T H) (hL : hm_L o 74 locs) (hl : lv_has ls 4 [(0, .ref (o + 0)), (1, .long y1)]) : W p l e rm_10_digest s m args below meth c H locs 0 0 (MQ below (hm_Ql G H0 o 74 shX Q) args s 0 0 (t_fr o (o + 74))) (F0 m 32 ls []) := by
  have hx := cx.1.1
  have hb := cx.1.2.1
  unfold wb_10_digest_32 at h
  refine lv_iconst (v := 0) hx hb d_10_digest_32 (by decide) ?_
  refine lv_istore_n (lv' := [(3, .int 0), (0, .ref (o + 0)), (1, .long y1)]) hx hb d_10_digest_33 rfl hl (by decide) rfl (fun ls hl => ?_)
  obtain ⟨f, h⟩ := h
  exact lp_10_digest_34 cx hr hlk f _ _ _ _ _ _ _ h hw hL (lv_sub hl [1, 2, 0] rfl)
def wb_10_digest_10 (Q : Int64 → hm_S → hm_T → Prop) (K10 : Int64 → Int32 → hm_S → hm_T → Prop) (y1 : Int64) (x3 : Int32) (S : hm_S) (T : hm_T) : Prop :=
  (if 13 < x3 then wb_10_digest_32 Q y1 S T else wp_10_rule x3 S T (fun r21 S21 T21 => wp_10_mix y1 r21 S21 T21 (fun r22 S22 T22 => K10 r22 (x3 + 1) S22 T22)))
set_option maxHeartbeats 4000000 in
set_option maxRecDepth 20000 in
theorem bk_10_digest_10 {Q : Int64 → hm_S → hm_T → Prop} {K10 : Int64 → Int32 → hm_S → hm_T → Prop} (cx : hm_cx G p s m args c prog_1_method_38_code 4 "HeapGames") (hr : meth.sig.returnType = some .long) (hlk : meth.locks = false) (k10 : ∀ (y1 : Int64) (x3 : Int32) (S : hm_S) (T : hm_T) (H : Heap) (locs : List Loc) (ls : Array Slot), K10 y1 x3 S T → hm_w G H0 o 74 shX S T H → hm_L o 74 locs → lv_has ls 4 [(0, .ref (o + 0)), (1, .long y1), (3, .int x3)] → W p l e rm_10_digest s m args below meth c H locs 0 0 (MQ below (hm_Ql G H0 o 74 shX Q) args s 0 0 (t_fr o (o + 74))) (F0 m 10 ls [])) {y1 : Int64} {x3 : Int32} {S : hm_S} {T : hm_T} {H : Heap} {locs : List Loc} {ls : Array Slot} (h : wb_10_digest_10 Q K10 y1 x3 S T) (hw : hm_w G H0 o 74 shX S T H) (hL : hm_L o 74 locs) (hl : lv_has ls 4 [(0, .ref (o + 0)), (1, .long y1), (3, .int x3)]) : W p l e rm_10_digest s m args below meth c H locs 0 0 (MQ below (hm_Ql G H0 o 74 shX Q) args s 0 0 (t_fr o (o + 74))) (F0 m 10 ls []) := by
  have hx := cx.1.1
  have hb := cx.1.2.1
  unfold wb_10_digest_10 at h
  refine lv_iload_n hx hb d_10_digest_10 rfl (lv_at hl 2 rfl) ?_
  refine lv_bipush (v := 13) hx hb d_10_digest_11 (by decide) ?_
  refine lv_icmp_gt (tgt := 32) hx hb d_10_digest_13 (by decide) (fun hc => ?_) (fun hc => ?_)
  · replace h := hm_pos hc h
    exact bk_10_digest_32 cx hr hlk h hw hL (lv_sub hl [0, 1] rfl)
  · replace h := hm_neg hc h
    refine lv_lload_n hx hb d_10_digest_16 rfl (lv_at hl 1 rfl) ?_
    refine lv_aload_n hx hb d_10_digest_17 rfl (lv_at hl 0 rfl) ?_
    refine lv_iload_n hx hb d_10_digest_18 rfl (lv_at hl 2 rfl) ?_
    refine hm_calli (hm_rV (i := 0) (As := [.int x3]) (rest := [.long y1]) cx hw (ct_10_rule h) (mw_10_256 cx.1.2.2.2.2 ⟨Nat.le_of_ble_eq_true rfl, Nat.le_of_ble_eq_true rfl⟩) (by decide) sx_0 rfl rfl hl.1 rfl (Nat.le_of_ble_eq_true rfl) d_10_digest_19 ⟨Nat.zero_le _, Nat.zero_le _⟩) hL (fun r21 S21 T21 H locs h hw hL => ?_)
    refine hm_calll (hm_rS (As := [.long y1, .int r21]) (rest := []) cx hw (ct_10_mix h) (mw_10_259 cx.1.2.2.2.2 ⟨Nat.le_of_ble_eq_true rfl, Nat.le_of_ble_eq_true rfl⟩) rfl hl.1 rfl (Nat.le_of_ble_eq_true rfl) d_10_digest_22 ⟨Nat.zero_le _, Nat.zero_le _⟩) hL (fun r22 S22 T22 H locs h hw hL => ?_)
    refine lv_lstore_n (lv' := [(1, .long r22), (0, .ref (o + 0)), (3, .int x3)]) hx hb d_10_digest_25 rfl hl (by decide) rfl (fun ls hl => ?_)
    refine lv_iinc (v := (x3 + 1)) (lv' := [(3, .int (x3 + 1)), (1, .long r22), (0, .ref (o + 0))]) hx hb d_10_digest_26 hl (k := 2) rfl rfl (by decide) rfl (fun ls hl => ?_)
    refine lv_goto (tgt := 10) hx hb d_10_digest_29 (by decide) ?_
    exact k10 _ _ _ _ _ _ _ h hw hL (lv_sub hl [2, 1, 0] rfl)
def wl_10_digest_10 (Q : Int64 → hm_S → hm_T → Prop) : Nat → Int64 → Int32 → hm_S → hm_T → Prop
  | 0, _, _, _, _ => False
  | f + 1, y1, x3, S, T => wb_10_digest_10 Q (wl_10_digest_10 Q f) y1 x3 S T
theorem lp_10_digest_10 {Q : Int64 → hm_S → hm_T → Prop} (cx : hm_cx G p s m args c prog_1_method_38_code 4 "HeapGames") (hr : meth.sig.returnType = some .long) (hlk : meth.locks = false) : ∀ (f : Nat) (y1 : Int64) (x3 : Int32) (S : hm_S) (T : hm_T) (H : Heap) (locs : List Loc) (ls : Array Slot), wl_10_digest_10 Q f y1 x3 S T → hm_w G H0 o 74 shX S T H → hm_L o 74 locs → lv_has ls 4 [(0, .ref (o + 0)), (1, .long y1), (3, .int x3)] → W p l e rm_10_digest s m args below meth c H locs 0 0 (MQ below (hm_Ql G H0 o 74 shX Q) args s 0 0 (t_fr o (o + 74))) (F0 m 10 ls []) := by
  intro f
  induction f with
  | zero => intro y1 x3 S T H locs ls h; exact h.elim
  | succ f ih => intro y1 x3 S T H locs ls h hw hL hl; exact bk_10_digest_10 cx hr hlk ih h hw hL hl
def wp_10_digest (S : hm_S) (T : hm_T) (Q : Int64 → hm_S → hm_T → Prop) : Prop :=
  wp_10_learnHere S T (fun S1 T1 => ∃ f, wl_10_digest_10 Q f 475 1 S1 T1)
set_option maxHeartbeats 4000000 in
set_option maxRecDepth 20000 in
theorem bk_10_digest_0 {Q : Int64 → hm_S → hm_T → Prop} (cx : hm_cx G p s m args c prog_1_method_38_code 4 "HeapGames") (hr : meth.sig.returnType = some .long) (hlk : meth.locks = false) {S : hm_S} {T : hm_T} {H : Heap} {locs : List Loc} {ls : Array Slot} (h : wp_10_digest S T Q) (hw : hm_w G H0 o 74 shX S T H) (hL : hm_L o 74 locs) (hl : lv_has ls 4 [(0, .ref (o + 0))]) : W p l e rm_10_digest s m args below meth c H locs 0 0 (MQ below (hm_Ql G H0 o 74 shX Q) args s 0 0 (t_fr o (o + 74))) (F0 m 0 ls []) := by
  have hx := cx.1.1
  have hb := cx.1.2.1
  unfold wp_10_digest at h
  refine lv_aload_n hx hb d_10_digest_0 rfl (lv_at hl 0 rfl) ?_
  refine hm_callv (hm_rV (i := 0) (As := []) (rest := []) cx hw (ct_10_learnHere h) (mw_10_187 cx.1.2.2.2.2 ⟨Nat.le_of_ble_eq_true rfl, Nat.le_of_ble_eq_true rfl⟩) (by decide) sx_0 rfl rfl hl.1 rfl (Nat.le_of_ble_eq_true rfl) d_10_digest_1 ⟨Nat.zero_le _, Nat.zero_le _⟩) hL (fun S1 T1 H locs h hw hL => ?_)
  refine lv_ldc2 (v := 475) hx hb cx.1.2.2.2.1 (cx.1.2.2.2.2 _ hq_973) d_10_digest_4 ?_
  refine lv_lstore_n (lv' := [(1, .long 475), (0, .ref (o + 0))]) hx hb d_10_digest_7 rfl hl (by decide) rfl (fun ls hl => ?_)
  refine lv_iconst (v := 1) hx hb d_10_digest_8 (by decide) ?_
  refine lv_istore_n (lv' := [(3, .int 1), (1, .long 475), (0, .ref (o + 0))]) hx hb d_10_digest_9 rfl hl (by decide) rfl (fun ls hl => ?_)
  obtain ⟨f, h⟩ := h
  exact lp_10_digest_10 cx hr hlk f _ _ _ _ _ _ _ h hw hL (lv_sub hl [2, 1, 0] rfl)
set_option maxHeartbeats 4000000 in
set_option maxRecDepth 20000 in
theorem ct_10_digest {S : hm_S} {T : hm_T} {Q : Int64 → hm_S → hm_T → Prop} (h : wp_10_digest S T Q) : hm_M l G H0 o 74 shX y_10_digest prog_1_method_38_code 4 (some .long) rm_10_digest S T [.ref (o + 0)] (hm_Ql G H0 o 74 shX Q) := by
  refine Met.ofW (cc := prog_1_method_38_code) (maxL := 4) (ret := some .long) (by decide) rfl ?_
  intro p e s m args below meth c s₁ B hml hv
  obtain ⟨rfl, hK, hw⟩ := hv
  have cx : hm_cx G p s m _ c prog_1_method_38_code 4 "HeapGames" := ⟨⟨B.exec, B.bytes, hml, findClass_of_methodNamed B.named, fun w hq => atoms_spec (ws := hm_ws y_10_digest prog_1_method_38_code 4 (some .long)) B.pre w (List.mem_cons_of_mem _ hq)⟩, hK⟩
  have hl := lv_entry ([.ref (o + 0)]) (n := 4) (Nat.le_of_ble_eq_true rfl)
  rw [lg_entry_eq]
  generalize (lg_sl ([.ref (o + 0)]) ++ List.replicate (4 - (lg_sl ([.ref (o + 0)])).length) Slot.unset).toArray = ls at hl ⊢
  have hl : lv_has ls 4 [(0, .ref (o + 0))] := hl
  exact bk_10_digest_0 cx B.returns B.notSynchronized h hw (hm_L0 _ _) hl
end WK
