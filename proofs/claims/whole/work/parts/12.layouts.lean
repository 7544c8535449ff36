section WK
variable {p : Program} {l : Launch} {e : Env} {s : State} {m : MethodId} {args : Array Value} {below : List Frame} {meth : Method} {c : Code} {G : hm_G} {H0 : Heap} {o n : Nat} {sh : hm_Sh}
/-! ===== HeapGames$Layouts.makeGreaterOnes(I)V ===== -/
theorem d_2_makeGreaterOnes_0 : decode prog_4_method_2_code 0 = .ok (.bipush 10, 2) := by decide +kernel
theorem d_2_makeGreaterOnes_2 : decode prog_4_method_2_code 2 = .ok (.aload_n 0, 1) := by decide +kernel
theorem d_2_makeGreaterOnes_3 : decode prog_4_method_2_code 3 = .ok (.getfield 26, 3) := by decide +kernel
theorem d_2_makeGreaterOnes_6 : decode prog_4_method_2_code 6 = .ok (.iload_n 1, 1) := by decide +kernel
theorem d_2_makeGreaterOnes_7 : decode prog_4_method_2_code 7 = .ok (.invokevirtual 48, 3) := by decide +kernel
theorem d_2_makeGreaterOnes_10 : decode prog_4_method_2_code 10 = .ok (.isub, 1) := by decide +kernel
theorem d_2_makeGreaterOnes_11 : decode prog_4_method_2_code 11 = .ok (.istore_n 2, 1) := by decide +kernel
theorem d_2_makeGreaterOnes_12 : decode prog_4_method_2_code 12 = .ok (.aload_n 0, 1) := by decide +kernel
theorem d_2_makeGreaterOnes_13 : decode prog_4_method_2_code 13 = .ok (.getfield 20, 3) := by decide +kernel
theorem d_2_makeGreaterOnes_16 : decode prog_4_method_2_code 16 = .ok (.iload_n 1, 1) := by decide +kernel
theorem d_2_makeGreaterOnes_17 : decode prog_4_method_2_code 17 = .ok (.invokevirtual 48, 3) := by decide +kernel
theorem d_2_makeGreaterOnes_20 : decode prog_4_method_2_code 20 = .ok (.istore_n 3, 1) := by decide +kernel
theorem d_2_makeGreaterOnes_21 : decode prog_4_method_2_code 21 = .ok (.iload_n 3, 1) := by decide +kernel
theorem d_2_makeGreaterOnes_22 : decode prog_4_method_2_code 22 = .ok (.bipush 20, 2) := by decide +kernel
theorem d_2_makeGreaterOnes_24 : decode prog_4_method_2_code 24 = .ok (.if_icmp .ge 137, 3) := by decide +kernel
theorem d_2_makeGreaterOnes_27 : decode prog_4_method_2_code 27 = .ok (.iload_n 3, 1) := by decide +kernel
theorem d_2_makeGreaterOnes_28 : decode prog_4_method_2_code 28 = .ok (.invokestatic 52, 3) := by decide +kernel
theorem d_2_makeGreaterOnes_31 : decode prog_4_method_2_code 31 = .ok (.iload_n 2, 1) := by decide +kernel
theorem d_2_makeGreaterOnes_32 : decode prog_4_method_2_code 32 = .ok (.if_icmp .gt 129, 3) := by decide +kernel
theorem d_2_makeGreaterOnes_35 : decode prog_4_method_2_code 35 = .ok (.aload_n 0, 1) := by decide +kernel
theorem d_2_makeGreaterOnes_36 : decode prog_4_method_2_code 36 = .ok (.getfield 14, 3) := by decide +kernel
theorem d_2_makeGreaterOnes_39 : decode prog_4_method_2_code 39 = .ok (.aload_n 0, 1) := by decide +kernel
theorem d_2_makeGreaterOnes_40 : decode prog_4_method_2_code 40 = .ok (.getfield 38, 3) := by decide +kernel
theorem d_2_makeGreaterOnes_43 : decode prog_4_method_2_code 43 = .ok (.iload_n 1, 1) := by decide +kernel
theorem d_2_makeGreaterOnes_44 : decode prog_4_method_2_code 44 = .ok (.invokevirtual 62, 3) := by decide +kernel
theorem d_2_makeGreaterOnes_47 : decode prog_4_method_2_code 47 = .ok (.aload_n 0, 1) := by decide +kernel
theorem d_2_makeGreaterOnes_48 : decode prog_4_method_2_code 48 = .ok (.getfield 20, 3) := by decide +kernel
theorem d_2_makeGreaterOnes_51 : decode prog_4_method_2_code 51 = .ok (.aload_n 0, 1) := by decide +kernel
theorem d_2_makeGreaterOnes_52 : decode prog_4_method_2_code 52 = .ok (.getfield 38, 3) := by decide +kernel
theorem d_2_makeGreaterOnes_55 : decode prog_4_method_2_code 55 = .ok (.iload_n 3, 1) := by decide +kernel
theorem d_2_makeGreaterOnes_56 : decode prog_4_method_2_code 56 = .ok (.invokevirtual 62, 3) := by decide +kernel
theorem d_2_makeGreaterOnes_59 : decode prog_4_method_2_code 59 = .ok (.aload_n 0, 1) := by decide +kernel
theorem d_2_makeGreaterOnes_60 : decode prog_4_method_2_code 60 = .ok (.getfield 23, 3) := by decide +kernel
theorem d_2_makeGreaterOnes_63 : decode prog_4_method_2_code 63 = .ok (.aload_n 0, 1) := by decide +kernel
theorem d_2_makeGreaterOnes_64 : decode prog_4_method_2_code 64 = .ok (.getfield 38, 3) := by decide +kernel
theorem d_2_makeGreaterOnes_67 : decode prog_4_method_2_code 67 = .ok (.aload_n 0, 1) := by decide +kernel
theorem d_2_makeGreaterOnes_68 : decode prog_4_method_2_code 68 = .ok (.getfield 23, 3) := by decide +kernel
theorem d_2_makeGreaterOnes_71 : decode prog_4_method_2_code 71 = .ok (.iload_n 1, 1) := by decide +kernel
theorem d_2_makeGreaterOnes_72 : decode prog_4_method_2_code 72 = .ok (.invokevirtual 48, 3) := by decide +kernel
theorem d_2_makeGreaterOnes_75 : decode prog_4_method_2_code 75 = .ok (.iconst 1, 1) := by decide +kernel
theorem d_2_makeGreaterOnes_76 : decode prog_4_method_2_code 76 = .ok (.iadd, 1) := by decide +kernel
theorem d_2_makeGreaterOnes_77 : decode prog_4_method_2_code 77 = .ok (.invokevirtual 62, 3) := by decide +kernel
theorem d_2_makeGreaterOnes_80 : decode prog_4_method_2_code 80 = .ok (.aload_n 0, 1) := by decide +kernel
theorem d_2_makeGreaterOnes_81 : decode prog_4_method_2_code 81 = .ok (.getfield 26, 3) := by decide +kernel
theorem d_2_makeGreaterOnes_84 : decode prog_4_method_2_code 84 = .ok (.aload_n 0, 1) := by decide +kernel
theorem d_2_makeGreaterOnes_85 : decode prog_4_method_2_code 85 = .ok (.getfield 38, 3) := by decide +kernel
theorem d_2_makeGreaterOnes_88 : decode prog_4_method_2_code 88 = .ok (.aload_n 0, 1) := by decide +kernel
theorem d_2_makeGreaterOnes_89 : decode prog_4_method_2_code 89 = .ok (.getfield 26, 3) := by decide +kernel
theorem d_2_makeGreaterOnes_92 : decode prog_4_method_2_code 92 = .ok (.iload_n 1, 1) := by decide +kernel
theorem d_2_makeGreaterOnes_93 : decode prog_4_method_2_code 93 = .ok (.invokevirtual 48, 3) := by decide +kernel
theorem d_2_makeGreaterOnes_96 : decode prog_4_method_2_code 96 = .ok (.iload_n 3, 1) := by decide +kernel
theorem d_2_makeGreaterOnes_97 : decode prog_4_method_2_code 97 = .ok (.invokestatic 52, 3) := by decide +kernel
theorem d_2_makeGreaterOnes_100 : decode prog_4_method_2_code 100 = .ok (.iadd, 1) := by decide +kernel
theorem d_2_makeGreaterOnes_101 : decode prog_4_method_2_code 101 = .ok (.invokevirtual 62, 3) := by decide +kernel
theorem d_2_makeGreaterOnes_104 : decode prog_4_method_2_code 104 = .ok (.aload_n 0, 1) := by decide +kernel
theorem d_2_makeGreaterOnes_105 : decode prog_4_method_2_code 105 = .ok (.getfield 29, 3) := by decide +kernel
theorem d_2_makeGreaterOnes_108 : decode prog_4_method_2_code 108 = .ok (.aload_n 0, 1) := by decide +kernel
theorem d_2_makeGreaterOnes_109 : decode prog_4_method_2_code 109 = .ok (.getfield 38, 3) := by decide +kernel
theorem d_2_makeGreaterOnes_112 : decode prog_4_method_2_code 112 = .ok (.aload_n 0, 1) := by decide +kernel
theorem d_2_makeGreaterOnes_113 : decode prog_4_method_2_code 113 = .ok (.getfield 29, 3) := by decide +kernel
theorem d_2_makeGreaterOnes_116 : decode prog_4_method_2_code 116 = .ok (.iload_n 1, 1) := by decide +kernel
theorem d_2_makeGreaterOnes_117 : decode prog_4_method_2_code 117 = .ok (.invokevirtual 48, 3) := by decide +kernel
theorem d_2_makeGreaterOnes_120 : decode prog_4_method_2_code 120 = .ok (.iload_n 3, 1) := by decide +kernel
theorem d_2_makeGreaterOnes_121 : decode prog_4_method_2_code 121 = .ok (.invokestatic 66, 3) := by decide +kernel
theorem d_2_makeGreaterOnes_124 : decode prog_4_method_2_code 124 = .ok (.iadd, 1) := by decide +kernel
theorem d_2_makeGreaterOnes_125 : decode prog_4_method_2_code 125 = .ok (.invokevirtual 62, 3) := by decide +kernel
theorem d_2_makeGreaterOnes_128 : decode prog_4_method_2_code 128 = .ok (.aload_n 0, 1) := by decide +kernel
theorem d_2_makeGreaterOnes_129 : decode prog_4_method_2_code 129 = .ok (.getfield 35, 3) := by decide +kernel
theorem d_2_makeGreaterOnes_132 : decode prog_4_method_2_code 132 = .ok (.iload_n 1, 1) := by decide +kernel
theorem d_2_makeGreaterOnes_133 : decode prog_4_method_2_code 133 = .ok (.bipush 20, 2) := by decide +kernel
theorem d_2_makeGreaterOnes_135 : decode prog_4_method_2_code 135 = .ok (.imul, 1) := by decide +kernel
theorem d_2_makeGreaterOnes_136 : decode prog_4_method_2_code 136 = .ok (.iload_n 3, 1) := by decide +kernel
theorem d_2_makeGreaterOnes_137 : decode prog_4_method_2_code 137 = .ok (.iadd, 1) := by decide +kernel
theorem d_2_makeGreaterOnes_138 : decode prog_4_method_2_code 138 = .ok (.aload_n 0, 1) := by decide +kernel
theorem d_2_makeGreaterOnes_139 : decode prog_4_method_2_code 139 = .ok (.getfield 38, 3) := by decide +kernel
theorem d_2_makeGreaterOnes_142 : decode prog_4_method_2_code 142 = .ok (.invokevirtual 62, 3) := by decide +kernel
theorem d_2_makeGreaterOnes_145 : decode prog_4_method_2_code 145 = .ok (.aload_n 0, 1) := by decide +kernel
theorem d_2_makeGreaterOnes_146 : decode prog_4_method_2_code 146 = .ok (.dup, 1) := by decide +kernel
theorem d_2_makeGreaterOnes_147 : decode prog_4_method_2_code 147 = .ok (.getfield 38, 3) := by decide +kernel
theorem d_2_makeGreaterOnes_150 : decode prog_4_method_2_code 150 = .ok (.iconst 1, 1) := by decide +kernel
theorem d_2_makeGreaterOnes_151 : decode prog_4_method_2_code 151 = .ok (.iadd, 1) := by decide +kernel
theorem d_2_makeGreaterOnes_152 : decode prog_4_method_2_code 152 = .ok (.putfield 38, 3) := by decide +kernel
theorem d_2_makeGreaterOnes_155 : decode prog_4_method_2_code 155 = .ok (.iinc 3 1, 3) := by decide +kernel
theorem d_2_makeGreaterOnes_158 : decode prog_4_method_2_code 158 = .ok (.goto (-137), 3) := by decide +kernel
theorem d_2_makeGreaterOnes_161 : decode prog_4_method_2_code 161 = .ok (.return_, 1) := by decide +kernel
def wb_2_makeGreaterOnes_21 (Q : hm_S → hm_T → Prop) (K21 : Int32 → Int32 → Int32 → hm_S → hm_T → Prop) (x1 : Int32) (x2 : Int32) (x3 : Int32) (S : hm_S) (T : hm_T) : Prop :=
  (if 20 ≤ x3 then Q S T else wp_10_sizeOfKind x3 S T (fun r3 S3 T3 => (if x2 < r3 then Q S3 T3 else wp_5_set 5 1215 (S3 4 7) x1 S3 T3 (fun S4 T4 => wp_5_set 7 1215 (S4 4 7) x3 S4 T4 (fun S5 T5 => wp_5_get 9 1215 x1 S5 T5 (fun r6 S6 T6 => wp_5_set 9 1215 (S5 4 7) (r6 + 1) S6 T6 (fun S7 T7 => wp_5_get 11 1215 x1 S7 T7 (fun r8 S8 T8 => wp_10_sizeOfKind x3 S8 T8 (fun r9 S9 T9 => wp_5_set 11 1215 (S7 4 7) (r8 + r9) S9 T9 (fun S10 T10 => wp_5_get 13 1215 x1 S10 T10 (fun r11 S11 T11 => wp_10_boundOfKind x3 S11 T11 (fun r12 S12 T12 => wp_5_set 13 1215 (S10 4 7) (r11 + r12) S12 T12 (fun S13 T13 => wp_5_set 17 24300 ((x1 * 20) + x3) (S13 4 7) S13 T13 (fun S14 T14 => K21 x1 x2 (x3 + 1) (hm_up S14 4 7 ((S14 4 7) + 1)) T14))))))))))))))
set_option maxHeartbeats 4000000 in
set_option maxRecDepth 20000 in
theorem bk_2_makeGreaterOnes_21 {Q : hm_S → hm_T → Prop} {K21 : Int32 → Int32 → Int32 → hm_S → hm_T → Prop} (hn : 19 ≤ n) (hsh : ∀ i, 1 ≤ i → i < 19 → sh i = shX i) (cx : hm_cx G p s m args c prog_4_method_2_code 4 "HeapGames$Layouts") (hr : meth.sig.returnType = none) (hlk : meth.locks = false) (k21 : ∀ (x1 : Int32) (x2 : Int32) (x3 : Int32) (S : hm_S) (T : hm_T) (H : Heap) (locs : List Loc) (ls : Array Slot), K21 x1 x2 x3 S T → hm_w G H0 o n sh S T H → hm_L o n locs → lv_has ls 4 [(0, .ref (o + 4)), (1, .int x1), (2, .int x2), (3, .int x3)] → W p l e rm_2_makeGreaterOnes s m args below meth c H locs 0 0 (MQ below (hm_Qv G H0 o n sh Q) args s 0 0 (t_fr o (o + n))) (F0 m 21 ls [])) {x1 : Int32} {x2 : Int32} {x3 : Int32} {S : hm_S} {T : hm_T} {H : Heap} {locs : List Loc} {ls : Array Slot} (h : wb_2_makeGreaterOnes_21 Q K21 x1 x2 x3 S T) (hw : hm_w G H0 o n sh S T H) (hL : hm_L o n locs) (hl : lv_has ls 4 [(0, .ref (o + 4)), (1, .int x1), (2, .int x2), (3, .int x3)]) : W p l e rm_2_makeGreaterOnes s m args below meth c H locs 0 0 (MQ below (hm_Qv G H0 o n sh Q) args s 0 0 (t_fr o (o + n))) (F0 m 21 ls []) := by
  have hx := cx.1.1
  have hb := cx.1.2.1
  unfold wb_2_makeGreaterOnes_21 at h
  refine lv_iload_n hx hb d_2_makeGreaterOnes_21 rfl (lv_at hl 3 rfl) ?_
  refine lv_bipush (v := 20) hx hb d_2_makeGreaterOnes_22 (by decide) ?_
  refine lv_icmp_ge (tgt := 161) hx hb d_2_makeGreaterOnes_24 (by decide) (fun hc => ?_) (fun hc => ?_)
  · replace h := hm_pos hc h
    exact W.vret hx hb hr (fun t ht _ => ⟨_, _, rfl, h, by rw [ht]; exact hw⟩) hL d_2_makeGreaterOnes_161
  · replace h := hm_neg hc h
    refine lv_iload_n hx hb d_2_makeGreaterOnes_27 rfl (lv_at hl 3 rfl) ?_
    refine hm_calli (hm_rN (As := [.int x3]) (rest := []) cx hw (ct_10_sizeOfKind h) (mw_2_52 cx ⟨Nat.le_of_ble_eq_true rfl, Nat.le_of_ble_eq_true rfl⟩) rfl hl.1 rfl (Nat.le_of_ble_eq_true rfl) d_2_makeGreaterOnes_28 ⟨Nat.zero_le _, Nat.zero_le _⟩) hL (fun r3 S3 T3 H locs h hw hL => ?_)
    refine lv_iload_n hx hb d_2_makeGreaterOnes_31 rfl (lv_at hl 2 rfl) ?_
    refine lv_icmp_gt (tgt := 161) hx hb d_2_makeGreaterOnes_32 (by decide) (fun hc => ?_) (fun hc => ?_)
    · replace h := hm_pos hc h
      exact W.vret hx hb hr (fun t ht _ => ⟨_, _, rfl, h, by rw [ht]; exact hw⟩) hL d_2_makeGreaterOnes_161
    · replace h := hm_neg hc h
      refine lv_aload_n hx hb d_2_makeGreaterOnes_35 rfl (lv_at hl 0 rfl) ?_
      refine gf_2_14 cx hw (i := 4) (r := 5) (Nat.lt_of_lt_of_le (by decide : 4 < 19) hn) ((hsh 4 (by decide) (by decide)).trans sx_4) rfl d_2_makeGreaterOnes_36 ?_
      refine lv_aload_n hx hb d_2_makeGreaterOnes_39 rfl (lv_at hl 0 rfl) ?_
      refine gf_2_38 cx hw (i := 4) (Nat.lt_of_lt_of_le (by decide : 4 < 19) hn) ((hsh 4 (by decide) (by decide)).trans sx_4) rfl d_2_makeGreaterOnes_40 ?_
      refine lv_iload_n hx hb d_2_makeGreaterOnes_43 rfl (lv_at hl 1 rfl) ?_
      refine hm_callv (hm_rV (i := 5) (As := [.int (S3 4 7), .int x1]) (rest := []) cx hw (ct_5_set (Nat.lt_of_lt_of_le (by decide : 6 < 19) hn) ((hsh 5 (by decide) (by decide)).trans sx_5) ((hsh 6 (by decide) (by decide)).trans sx_6) h) (mw_2_62 cx.1.2.2.2.2 ⟨Nat.le_of_ble_eq_true rfl, Nat.le_of_ble_eq_true rfl⟩) (Nat.lt_of_lt_of_le (by decide : 5 < 19) hn) ((hsh 5 (by decide) (by decide)).trans sx_5) rfl rfl hl.1 rfl (Nat.le_of_ble_eq_true rfl) d_2_makeGreaterOnes_44 ⟨Nat.zero_le _, Nat.zero_le _⟩) hL (fun S4 T4 H locs h hw hL => ?_)
      refine lv_aload_n hx hb d_2_makeGreaterOnes_47 rfl (lv_at hl 0 rfl) ?_
      refine gf_2_20 cx hw (i := 4) (r := 7) (Nat.lt_of_lt_of_le (by decide : 4 < 19) hn) ((hsh 4 (by decide) (by decide)).trans sx_4) rfl d_2_makeGreaterOnes_48 ?_
      refine lv_aload_n hx hb d_2_makeGreaterOnes_51 rfl (lv_at hl 0 rfl) ?_
      refine gf_2_38 cx hw (i := 4) (Nat.lt_of_lt_of_le (by decide : 4 < 19) hn) ((hsh 4 (by decide) (by decide)).trans sx_4) rfl d_2_makeGreaterOnes_52 ?_
      refine lv_iload_n hx hb d_2_makeGreaterOnes_55 rfl (lv_at hl 3 rfl) ?_
      refine hm_callv (hm_rV (i := 7) (As := [.int (S4 4 7), .int x3]) (rest := []) cx hw (ct_5_set (Nat.lt_of_lt_of_le (by decide : 8 < 19) hn) ((hsh 7 (by decide) (by decide)).trans sx_7) ((hsh 8 (by decide) (by decide)).trans sx_8) h) (mw_2_62 cx.1.2.2.2.2 ⟨Nat.le_of_ble_eq_true rfl, Nat.le_of_ble_eq_true rfl⟩) (Nat.lt_of_lt_of_le (by decide : 7 < 19) hn) ((hsh 7 (by decide) (by decide)).trans sx_7) rfl rfl hl.1 rfl (Nat.le_of_ble_eq_true rfl) d_2_makeGreaterOnes_56 ⟨Nat.zero_le _, Nat.zero_le _⟩) hL (fun S5 T5 H locs h hw hL => ?_)
      refine lv_aload_n hx hb d_2_makeGreaterOnes_59 rfl (lv_at hl 0 rfl) ?_
      refine gf_2_23 cx hw (i := 4) (r := 9) (Nat.lt_of_lt_of_le (by decide : 4 < 19) hn) ((hsh 4 (by decide) (by decide)).trans sx_4) rfl d_2_makeGreaterOnes_60 ?_
      refine lv_aload_n hx hb d_2_makeGreaterOnes_63 rfl (lv_at hl 0 rfl) ?_
      refine gf_2_38 cx hw (i := 4) (Nat.lt_of_lt_of_le (by decide : 4 < 19) hn) ((hsh 4 (by decide) (by decide)).trans sx_4) rfl d_2_makeGreaterOnes_64 ?_
      refine lv_aload_n hx hb d_2_makeGreaterOnes_67 rfl (lv_at hl 0 rfl) ?_
      refine gf_2_23 cx hw (i := 4) (r := 9) (Nat.lt_of_lt_of_le (by decide : 4 < 19) hn) ((hsh 4 (by decide) (by decide)).trans sx_4) rfl d_2_makeGreaterOnes_68 ?_
      refine lv_iload_n hx hb d_2_makeGreaterOnes_71 rfl (lv_at hl 1 rfl) ?_
      refine hm_calli (hm_rV (i := 9) (As := [.int x1]) (rest := [.int (S5 4 7), .ref (o + 9)]) cx hw (ct_5_get (Nat.lt_of_lt_of_le (by decide : 10 < 19) hn) ((hsh 9 (by decide) (by decide)).trans sx_9) ((hsh 10 (by decide) (by decide)).trans sx_10) h) (mw_2_48 cx.1.2.2.2.2 ⟨Nat.le_of_ble_eq_true rfl, Nat.le_of_ble_eq_true rfl⟩) (Nat.lt_of_lt_of_le (by decide : 9 < 19) hn) ((hsh 9 (by decide) (by decide)).trans sx_9) rfl rfl hl.1 rfl (Nat.le_of_ble_eq_true rfl) d_2_makeGreaterOnes_72 ⟨Nat.zero_le _, Nat.zero_le _⟩) hL (fun r6 S6 T6 H locs h hw hL => ?_)
      refine lv_iconst (v := 1) hx hb d_2_makeGreaterOnes_75 (by decide) ?_
      refine lv_iadd hx hb d_2_makeGreaterOnes_76 ?_
      refine hm_callv (hm_rV (i := 9) (As := [.int (S5 4 7), .int (r6 + 1)]) (rest := []) cx hw (ct_5_set (Nat.lt_of_lt_of_le (by decide : 10 < 19) hn) ((hsh 9 (by decide) (by decide)).trans sx_9) ((hsh 10 (by decide) (by decide)).trans sx_10) h) (mw_2_62 cx.1.2.2.2.2 ⟨Nat.le_of_ble_eq_true rfl, Nat.le_of_ble_eq_true rfl⟩) (Nat.lt_of_lt_of_le (by decide : 9 < 19) hn) ((hsh 9 (by decide) (by decide)).trans sx_9) rfl rfl hl.1 rfl (Nat.le_of_ble_eq_true rfl) d_2_makeGreaterOnes_77 ⟨Nat.zero_le _, Nat.zero_le _⟩) hL (fun S7 T7 H locs h hw hL => ?_)
      refine lv_aload_n hx hb d_2_makeGreaterOnes_80 rfl (lv_at hl 0 rfl) ?_
      refine gf_2_26 cx hw (i := 4) (r := 11) (Nat.lt_of_lt_of_le (by decide : 4 < 19) hn) ((hsh 4 (by decide) (by decide)).trans sx_4) rfl d_2_makeGreaterOnes_81 ?_
      refine lv_aload_n hx hb d_2_makeGreaterOnes_84 rfl (lv_at hl 0 rfl) ?_
      refine gf_2_38 cx hw (i := 4) (Nat.lt_of_lt_of_le (by decide : 4 < 19) hn) ((hsh 4 (by decide) (by decide)).trans sx_4) rfl d_2_makeGreaterOnes_85 ?_
      refine lv_aload_n hx hb d_2_makeGreaterOnes_88 rfl (lv_at hl 0 rfl) ?_
      refine gf_2_26 cx hw (i := 4) (r := 11) (Nat.lt_of_lt_of_le (by decide : 4 < 19) hn) ((hsh 4 (by decide) (by decide)).trans sx_4) rfl d_2_makeGreaterOnes_89 ?_
      refine lv_iload_n hx hb d_2_makeGreaterOnes_92 rfl (lv_at hl 1 rfl) ?_
      refine hm_calli (hm_rV (i := 11) (As := [.int x1]) (rest := [.int (S7 4 7), .ref (o + 11)]) cx hw (ct_5_get (Nat.lt_of_lt_of_le (by decide : 12 < 19) hn) ((hsh 11 (by decide) (by decide)).trans sx_11) ((hsh 12 (by decide) (by decide)).trans sx_12) h) (mw_2_48 cx.1.2.2.2.2 ⟨Nat.le_of_ble_eq_true rfl, Nat.le_of_ble_eq_true rfl⟩) (Nat.lt_of_lt_of_le (by decide : 11 < 19) hn) ((hsh 11 (by decide) (by decide)).trans sx_11) rfl rfl hl.1 rfl (Nat.le_of_ble_eq_true rfl) d_2_makeGreaterOnes_93 ⟨Nat.zero_le _, Nat.zero_le _⟩) hL (fun r8 S8 T8 H locs h hw hL => ?_)
      refine lv_iload_n hx hb d_2_makeGreaterOnes_96 rfl (lv_at hl 3 rfl) ?_
      refine hm_calli (hm_rN (As := [.int x3]) (rest := [.int r8, .int (S7 4 7), .ref (o + 11)]) cx hw (ct_10_sizeOfKind h) (mw_2_52 cx ⟨Nat.le_of_ble_eq_true rfl, Nat.le_of_ble_eq_true rfl⟩) rfl hl.1 rfl (Nat.le_of_ble_eq_true rfl) d_2_makeGreaterOnes_97 ⟨Nat.zero_le _, Nat.zero_le _⟩) hL (fun r9 S9 T9 H locs h hw hL => ?_)
      refine lv_iadd hx hb d_2_makeGreaterOnes_100 ?_
      refine hm_callv (hm_rV (i := 11) (As := [.int (S7 4 7), .int (r8 + r9)]) (rest := []) cx hw (ct_5_set (Nat.lt_of_lt_of_le (by decide : 12 < 19) hn) ((hsh 11 (by decide) (by decide)).trans sx_11) ((hsh 12 (by decide) (by decide)).trans sx_12) h) (mw_2_62 cx.1.2.2.2.2 ⟨Nat.le_of_ble_eq_true rfl, Nat.le_of_ble_eq_true rfl⟩) (Nat.lt_of_lt_of_le (by decide : 11 < 19) hn) ((hsh 11 (by decide) (by decide)).trans sx_11) rfl rfl hl.1 rfl (Nat.le_of_ble_eq_true rfl) d_2_makeGreaterOnes_101 ⟨Nat.zero_le _, Nat.zero_le _⟩) hL (fun S10 T10 H locs h hw hL => ?_)
      refine lv_aload_n hx hb d_2_makeGreaterOnes_104 rfl (lv_at hl 0 rfl) ?_
      refine gf_2_29 cx hw (i := 4) (r := 13) (Nat.lt_of_lt_of_le (by decide : 4 < 19) hn) ((hsh 4 (by decide) (by decide)).trans sx_4) rfl d_2_makeGreaterOnes_105 ?_
      refine lv_aload_n hx hb d_2_makeGreaterOnes_108 rfl (lv_at hl 0 rfl) ?_
      refine gf_2_38 cx hw (i := 4) (Nat.lt_of_lt_of_le (by decide : 4 < 19) hn) ((hsh 4 (by decide) (by decide)).trans sx_4) rfl d_2_makeGreaterOnes_109 ?_
      refine lv_aload_n hx hb d_2_makeGreaterOnes_112 rfl (lv_at hl 0 rfl) ?_
      refine gf_2_29 cx hw (i := 4) (r := 13) (Nat.lt_of_lt_of_le (by decide : 4 < 19) hn) ((hsh 4 (by decide) (by decide)).trans sx_4) rfl d_2_makeGreaterOnes_113 ?_
      refine lv_iload_n hx hb d_2_makeGreaterOnes_116 rfl (lv_at hl 1 rfl) ?_
      refine hm_calli (hm_rV (i := 13) (As := [.int x1]) (rest := [.int (S10 4 7), .ref (o + 13)]) cx hw (ct_5_get (Nat.lt_of_lt_of_le (by decide : 14 < 19) hn) ((hsh 13 (by decide) (by decide)).trans sx_13) ((hsh 14 (by decide) (by decide)).trans sx_14) h) (mw_2_48 cx.1.2.2.2.2 ⟨Nat.le_of_ble_eq_true rfl, Nat.le_of_ble_eq_true rfl⟩) (Nat.lt_of_lt_of_le (by decide : 13 < 19) hn) ((hsh 13 (by decide) (by decide)).trans sx_13) rfl rfl hl.1 rfl (Nat.le_of_ble_eq_true rfl) d_2_makeGreaterOnes_117 ⟨Nat.zero_le _, Nat.zero_le _⟩) hL (fun r11 S11 T11 H locs h hw hL => ?_)
      refine lv_iload_n hx hb d_2_makeGreaterOnes_120 rfl (lv_at hl 3 rfl) ?_
      refine hm_calli (hm_rN (As := [.int x3]) (rest := [.int r11, .int (S10 4 7), .ref (o + 13)]) cx hw (ct_10_boundOfKind h) (mw_2_66 cx ⟨Nat.le_of_ble_eq_true rfl, Nat.le_of_ble_eq_true rfl⟩) rfl hl.1 rfl (Nat.le_of_ble_eq_true rfl) d_2_makeGreaterOnes_121 ⟨Nat.zero_le _, Nat.zero_le _⟩) hL (fun r12 S12 T12 H locs h hw hL => ?_)
      refine lv_iadd hx hb d_2_makeGreaterOnes_124 ?_
      refine hm_callv (hm_rV (i := 13) (As := [.int (S10 4 7), .int (r11 + r12)]) (rest := []) cx hw (ct_5_set (Nat.lt_of_lt_of_le (by decide : 14 < 19) hn) ((hsh 13 (by decide) (by decide)).trans sx_13) ((hsh 14 (by decide) (by decide)).trans sx_14) h) (mw_2_62 cx.1.2.2.2.2 ⟨Nat.le_of_ble_eq_true rfl, Nat.le_of_ble_eq_true rfl⟩) (Nat.lt_of_lt_of_le (by decide : 13 < 19) hn) ((hsh 13 (by decide) (by decide)).trans sx_13) rfl rfl hl.1 rfl (Nat.le_of_ble_eq_true rfl) d_2_makeGreaterOnes_125 ⟨Nat.zero_le _, Nat.zero_le _⟩) hL (fun S13 T13 H locs h hw hL => ?_)
      refine lv_aload_n hx hb d_2_makeGreaterOnes_128 rfl (lv_at hl 0 rfl) ?_
      refine gf_2_35 cx hw (i := 4) (r := 17) (Nat.lt_of_lt_of_le (by decide : 4 < 19) hn) ((hsh 4 (by decide) (by decide)).trans sx_4) rfl d_2_makeGreaterOnes_129 ?_
      refine lv_iload_n hx hb d_2_makeGreaterOnes_132 rfl (lv_at hl 1 rfl) ?_
      refine lv_bipush (v := 20) hx hb d_2_makeGreaterOnes_133 (by decide) ?_
      refine lv_imul hx hb d_2_makeGreaterOnes_135 ?_
      refine lv_iload_n hx hb d_2_makeGreaterOnes_136 rfl (lv_at hl 3 rfl) ?_
      refine lv_iadd hx hb d_2_makeGreaterOnes_137 ?_
      refine lv_aload_n hx hb d_2_makeGreaterOnes_138 rfl (lv_at hl 0 rfl) ?_
      refine gf_2_38 cx hw (i := 4) (Nat.lt_of_lt_of_le (by decide : 4 < 19) hn) ((hsh 4 (by decide) (by decide)).trans sx_4) rfl d_2_makeGreaterOnes_139 ?_
      refine hm_callv (hm_rV (i := 17) (As := [.int ((x1 * 20) + x3), .int (S13 4 7)]) (rest := []) cx hw (ct_5_set (Nat.lt_of_lt_of_le (by decide : 18 < 19) hn) ((hsh 17 (by decide) (by decide)).trans sx_17) ((hsh 18 (by decide) (by decide)).trans sx_18) h) (mw_2_62 cx.1.2.2.2.2 ⟨Nat.le_of_ble_eq_true rfl, Nat.le_of_ble_eq_true rfl⟩) (Nat.lt_of_lt_of_le (by decide : 17 < 19) hn) ((hsh 17 (by decide) (by decide)).trans sx_17) rfl rfl hl.1 rfl (Nat.le_of_ble_eq_true rfl) d_2_makeGreaterOnes_142 ⟨Nat.zero_le _, Nat.zero_le _⟩) hL (fun S14 T14 H locs h hw hL => ?_)
      refine lv_aload_n hx hb d_2_makeGreaterOnes_145 rfl (lv_at hl 0 rfl) ?_
      refine lv_dup hx hb d_2_makeGreaterOnes_146 rfl ?_
      refine gf_2_38 cx hw (i := 4) (Nat.lt_of_lt_of_le (by decide : 4 < 19) hn) ((hsh 4 (by decide) (by decide)).trans sx_4) rfl d_2_makeGreaterOnes_147 ?_
      refine lv_iconst (v := 1) hx hb d_2_makeGreaterOnes_150 (by decide) ?_
      refine lv_iadd hx hb d_2_makeGreaterOnes_151 ?_
      refine pf_2_38 cx hw (i := 4) (Nat.lt_of_lt_of_le (by decide : 4 < 19) hn) ((hsh 4 (by decide) (by decide)).trans sx_4) rfl hL d_2_makeGreaterOnes_152 (fun H locs hw hL => ?_)
      refine lv_iinc (v := (x3 + 1)) (lv' := [(3, .int (x3 + 1)), (0, .ref (o + 4)), (1, .int x1), (2, .int x2)]) hx hb d_2_makeGreaterOnes_155 hl (k := 3) rfl rfl (by decide) rfl (fun ls hl => ?_)
      refine lv_goto (tgt := 21) hx hb d_2_makeGreaterOnes_158 (by decide) ?_
      exact k21 _ _ _ _ _ _ _ _ h hw hL (lv_sub hl [1, 2, 3, 0] rfl)
def wl_2_makeGreaterOnes_21 (Q : hm_S → hm_T → Prop) : Nat → Int32 → Int32 → Int32 → hm_S → hm_T → Prop
  | 0, _, _, _, _, _ => False
  | f + 1, x1, x2, x3, S, T => wb_2_makeGreaterOnes_21 Q (wl_2_makeGreaterOnes_21 Q f) x1 x2 x3 S T
theorem lp_2_makeGreaterOnes_21 {Q : hm_S → hm_T → Prop} (hn : 19 ≤ n) (hsh : ∀ i, 1 ≤ i → i < 19 → sh i = shX i) (cx : hm_cx G p s m args c prog_4_method_2_code 4 "HeapGames$Layouts") (hr : meth.sig.returnType = none) (hlk : meth.locks = false) : ∀ (f : Nat) (x1 : Int32) (x2 : Int32) (x3 : Int32) (S : hm_S) (T : hm_T) (H : Heap) (locs : List Loc) (ls : Array Slot), wl_2_makeGreaterOnes_21 Q f x1 x2 x3 S T → hm_w G H0 o n sh S T H → hm_L o n locs → lv_has ls 4 [(0, .ref (o + 4)), (1, .int x1), (2, .int x2), (3, .int x3)] → W p l e rm_2_makeGreaterOnes s m args below meth c H locs 0 0 (MQ below (hm_Qv G H0 o n sh Q) args s 0 0 (t_fr o (o + n))) (F0 m 21 ls []) := by
  intro f
  induction f with
  | zero => intro x1 x2 x3 S T H locs ls h; exact h.elim
  | succ f ih => intro x1 x2 x3 S T H locs ls h hw hL hl; exact bk_2_makeGreaterOnes_21 hn hsh cx hr hlk ih h hw hL hl
def wp_2_makeGreaterOnes (x1 : Int32) (S : hm_S) (T : hm_T) (Q : hm_S → hm_T → Prop) : Prop :=
  wp_5_get 11 1215 x1 S T (fun r1 S1 T1 => wp_5_get 7 1215 x1 S1 T1 (fun r2 S2 T2 => ∃ f, wl_2_makeGreaterOnes_21 Q f x1 (10 - r1) r2 S2 T2))
set_option maxHeartbeats 4000000 in
set_option maxRecDepth 20000 in
theorem bk_2_makeGreaterOnes_0 {Q : hm_S → hm_T → Prop} (hn : 19 ≤ n) (hsh : ∀ i, 1 ≤ i → i < 19 → sh i = shX i) (cx : hm_cx G p s m args c prog_4_method_2_code 4 "HeapGames$Layouts") (hr : meth.sig.returnType = none) (hlk : meth.locks = false) {x1 : Int32} {S : hm_S} {T : hm_T} {H : Heap} {locs : List Loc} {ls : Array Slot} (h : wp_2_makeGreaterOnes x1 S T Q) (hw : hm_w G H0 o n sh S T H) (hL : hm_L o n locs) (hl : lv_has ls 4 [(0, .ref (o + 4)), (1, .int x1)]) : W p l e rm_2_makeGreaterOnes s m args below meth c H locs 0 0 (MQ below (hm_Qv G H0 o n sh Q) args s 0 0 (t_fr o (o + n))) (F0 m 0 ls []) := by
  have hx := cx.1.1
  have hb := cx.1.2.1
  unfold wp_2_makeGreaterOnes at h
  refine lv_bipush (v := 10) hx hb d_2_makeGreaterOnes_0 (by decide) ?_
  refine lv_aload_n hx hb d_2_makeGreaterOnes_2 rfl (lv_at hl 0 rfl) ?_
  refine gf_2_26 cx hw (i := 4) (r := 11) (Nat.lt_of_lt_of_le (by decide : 4 < 19) hn) ((hsh 4 (by decide) (by decide)).trans sx_4) rfl d_2_makeGreaterOnes_3 ?_
  refine lv_iload_n hx hb d_2_makeGreaterOnes_6 rfl (lv_at hl 1 rfl) ?_
  refine hm_calli (hm_rV (i := 11) (As := [.int x1]) (rest := [.int 10]) cx hw (ct_5_get (Nat.lt_of_lt_of_le (by decide : 12 < 19) hn) ((hsh 11 (by decide) (by decide)).trans sx_11) ((hsh 12 (by decide) (by decide)).trans sx_12) h) (mw_2_48 cx.1.2.2.2.2 ⟨Nat.le_of_ble_eq_true rfl, Nat.le_of_ble_eq_true rfl⟩) (Nat.lt_of_lt_of_le (by decide : 11 < 19) hn) ((hsh 11 (by decide) (by decide)).trans sx_11) rfl rfl hl.1 rfl (Nat.le_of_ble_eq_true rfl) d_2_makeGreaterOnes_7 ⟨Nat.zero_le _, Nat.zero_le _⟩) hL (fun r1 S1 T1 H locs h hw hL => ?_)
  refine lv_isub hx hb d_2_makeGreaterOnes_10 ?_
  refine lv_istore_n (lv' := [(2, .int (10 - r1)), (0, .ref (o + 4)), (1, .int x1)]) hx hb d_2_makeGreaterOnes_11 rfl hl (by decide) rfl (fun ls hl => ?_)
  refine lv_aload_n hx hb d_2_makeGreaterOnes_12 rfl (lv_at hl 1 rfl) ?_
  refine gf_2_20 cx hw (i := 4) (r := 7) (Nat.lt_of_lt_of_le (by decide : 4 < 19) hn) ((hsh 4 (by decide) (by decide)).trans sx_4) rfl d_2_makeGreaterOnes_13 ?_
  refine lv_iload_n hx hb d_2_makeGreaterOnes_16 rfl (lv_at hl 2 rfl) ?_
  refine hm_calli (hm_rV (i := 7) (As := [.int x1]) (rest := []) cx hw (ct_5_get (Nat.lt_of_lt_of_le (by decide : 8 < 19) hn) ((hsh 7 (by decide) (by decide)).trans sx_7) ((hsh 8 (by decide) (by decide)).trans sx_8) h) (mw_2_48 cx.1.2.2.2.2 ⟨Nat.le_of_ble_eq_true rfl, Nat.le_of_ble_eq_true rfl⟩) (Nat.lt_of_lt_of_le (by decide : 7 < 19) hn) ((hsh 7 (by decide) (by decide)).trans sx_7) rfl rfl hl.1 rfl (Nat.le_of_ble_eq_true rfl) d_2_makeGreaterOnes_17 ⟨Nat.zero_le _, Nat.zero_le _⟩) hL (fun r2 S2 T2 H locs h hw hL => ?_)
  refine lv_istore_n (lv' := [(3, .int r2), (2, .int (10 - r1)), (0, .ref (o + 4)), (1, .int x1)]) hx hb d_2_makeGreaterOnes_20 rfl hl (by decide) rfl (fun ls hl => ?_)
  obtain ⟨f, h⟩ := h
  exact lp_2_makeGreaterOnes_21 hn hsh cx hr hlk f _ _ _ _ _ _ _ _ h hw hL (lv_sub hl [2, 3, 1, 0] rfl)
set_option maxHeartbeats 4000000 in
set_option maxRecDepth 20000 in
theorem ct_2_makeGreaterOnes {x1 : Int32} {S : hm_S} {T : hm_T} {Q : hm_S → hm_T → Prop} (hn : 19 ≤ n) (hsh : ∀ i, 1 ≤ i → i < 19 → sh i = shX i) (h : wp_2_makeGreaterOnes x1 S T Q) : hm_M l G H0 o n sh y_2_makeGreaterOnes prog_4_method_2_code 4 (none) rm_2_makeGreaterOnes S T [.ref (o + 4), .int x1] (hm_Qv G H0 o n sh Q) := by
  refine Met.ofW (cc := prog_4_method_2_code) (maxL := 4) (ret := none) (by decide) rfl ?_
  intro p e s m args below meth c s₁ B hml hv
  obtain ⟨rfl, hK, hw⟩ := hv
  have cx : hm_cx G p s m _ c prog_4_method_2_code 4 "HeapGames$Layouts" := ⟨⟨B.exec, B.bytes, hml, findClass_of_methodNamed B.named, fun w hq => atoms_spec (ws := hm_ws y_2_makeGreaterOnes prog_4_method_2_code 4 (none)) B.pre w (List.mem_cons_of_mem _ hq)⟩, hK⟩
  have hl := lv_entry ([.ref (o + 4), .int x1]) (n := 4) (Nat.le_of_ble_eq_true rfl)
  rw [lg_entry_eq]
  generalize (lg_sl ([.ref (o + 4), .int x1]) ++ List.replicate (4 - (lg_sl ([.ref (o + 4), .int x1])).length) Slot.unset).toArray = ls at hl ⊢
  have hl : lv_has ls 4 [(0, .ref (o + 4)), (1, .int x1)] := hl
  exact bk_2_makeGreaterOnes_0 hn hsh cx B.returns B.notSynchronized h hw (hm_L0 _ _) hl
/-! ===== HeapGames$Layouts.join(II)I ===== -/
theorem d_2_join_0 : decode prog_4_method_9_code 0 = .ok (.aload_n 0, 1) := by decide +kernel
theorem d_2_join_1 : decode prog_4_method_9_code 1 = .ok (.getfield 35, 3) := by decide +kernel
theorem d_2_join_4 : decode prog_4_method_9_code 4 = .ok (.iload_n 1, 1) := by decide +kernel
theorem d_2_join_5 : decode prog_4_method_9_code 5 = .ok (.bipush 20, 2) := by decide +kernel
theorem d_2_join_7 : decode prog_4_method_9_code 7 = .ok (.imul, 1) := by decide +kernel
theorem d_2_join_8 : decode prog_4_method_9_code 8 = .ok (.iload_n 2, 1) := by decide +kernel
theorem d_2_join_9 : decode prog_4_method_9_code 9 = .ok (.iadd, 1) := by decide +kernel
theorem d_2_join_10 : decode prog_4_method_9_code 10 = .ok (.invokevirtual 48, 3) := by decide +kernel
theorem d_2_join_13 : decode prog_4_method_9_code 13 = .ok (.ireturn, 1) := by decide +kernel
def wp_2_join (x1 : Int32) (x2 : Int32) (S : hm_S) (T : hm_T) (Q : Int32 → hm_S → hm_T → Prop) : Prop :=
  wp_5_get 17 24300 ((x1 * 20) + x2) S T (fun r1 S1 T1 => Q r1 S1 T1)
set_option maxHeartbeats 4000000 in
set_option maxRecDepth 20000 in
theorem bk_2_join_0 {Q : Int32 → hm_S → hm_T → Prop} (hn : 19 ≤ n) (hsh : ∀ i, 1 ≤ i → i < 19 → sh i = shX i) (cx : hm_cx G p s m args c prog_4_method_9_code 3 "HeapGames$Layouts") (hr : meth.sig.returnType = some .int) (hlk : meth.locks = false) {x1 : Int32} {x2 : Int32} {S : hm_S} {T : hm_T} {H : Heap} {locs : List Loc} {ls : Array Slot} (h : wp_2_join x1 x2 S T Q) (hw : hm_w G H0 o n sh S T H) (hL : hm_L o n locs) (hl : lv_has ls 3 [(0, .ref (o + 4)), (1, .int x1), (2, .int x2)]) : W p l e rm_2_join s m args below meth c H locs 0 0 (MQ below (hm_Qi G H0 o n sh Q) args s 0 0 (t_fr o (o + n))) (F0 m 0 ls []) := by
  have hx := cx.1.1
  have hb := cx.1.2.1
  unfold wp_2_join at h
  refine lv_aload_n hx hb d_2_join_0 rfl (lv_at hl 0 rfl) ?_
  refine gf_2_35 cx hw (i := 4) (r := 17) (Nat.lt_of_lt_of_le (by decide : 4 < 19) hn) ((hsh 4 (by decide) (by decide)).trans sx_4) rfl d_2_join_1 ?_
  refine lv_iload_n hx hb d_2_join_4 rfl (lv_at hl 1 rfl) ?_
  refine lv_bipush (v := 20) hx hb d_2_join_5 (by decide) ?_
  refine lv_imul hx hb d_2_join_7 ?_
  refine lv_iload_n hx hb d_2_join_8 rfl (lv_at hl 2 rfl) ?_
  refine lv_iadd hx hb d_2_join_9 ?_
  refine hm_calli (hm_rV (i := 17) (As := [.int ((x1 * 20) + x2)]) (rest := []) cx hw (ct_5_get (Nat.lt_of_lt_of_le (by decide : 18 < 19) hn) ((hsh 17 (by decide) (by decide)).trans sx_17) ((hsh 18 (by decide) (by decide)).trans sx_18) h) (mw_2_48 cx.1.2.2.2.2 ⟨Nat.le_of_ble_eq_true rfl, Nat.le_of_ble_eq_true rfl⟩) (Nat.lt_of_lt_of_le (by decide : 17 < 19) hn) ((hsh 17 (by decide) (by decide)).trans sx_17) rfl rfl hl.1 rfl (Nat.le_of_ble_eq_true rfl) d_2_join_10 ⟨Nat.zero_le _, Nat.zero_le _⟩) hL (fun r1 S1 T1 H locs h hw hL => ?_)
  exact W.iret hx hb hr (fun t ht _ => ⟨_, _, _, rfl, h, by rw [ht]; exact hw⟩) hL d_2_join_13
set_option maxHeartbeats 4000000 in
set_option maxRecDepth 20000 in
theorem ct_2_join {x1 : Int32} {x2 : Int32} {S : hm_S} {T : hm_T} {Q : Int32 → hm_S → hm_T → Prop} (hn : 19 ≤ n) (hsh : ∀ i, 1 ≤ i → i < 19 → sh i = shX i) (h : wp_2_join x1 x2 S T Q) : hm_M l G H0 o n sh y_2_join prog_4_method_9_code 3 (some .int) rm_2_join S T [.ref (o + 4), .int x1, .int x2] (hm_Qi G H0 o n sh Q) := by
  refine Met.ofW (cc := prog_4_method_9_code) (maxL := 3) (ret := some .int) (by decide) rfl ?_
  intro p e s m args below meth c s₁ B hml hv
  obtain ⟨rfl, hK, hw⟩ := hv
  have cx : hm_cx G p s m _ c prog_4_method_9_code 3 "HeapGames$Layouts" := ⟨⟨B.exec, B.bytes, hml, findClass_of_methodNamed B.named, fun w hq => atoms_spec (ws := hm_ws y_2_join prog_4_method_9_code 3 (some .int)) B.pre w (List.mem_cons_of_mem _ hq)⟩, hK⟩
  have hl := lv_entry ([.ref (o + 4), .int x1, .int x2]) (n := 3) (Nat.le_of_ble_eq_true rfl)
  rw [lg_entry_eq]
  generalize (lg_sl ([.ref (o + 4), .int x1, .int x2]) ++ List.replicate (3 - (lg_sl ([.ref (o + 4), .int x1, .int x2])).length) Slot.unset).toArray = ls at hl ⊢
  have hl : lv_has ls 3 [(0, .ref (o + 4)), (1, .int x1), (2, .int x2)] := hl
  exact bk_2_join_0 hn hsh cx B.returns B.notSynchronized h hw (hm_L0 _ _) hl
/-! ===== HeapGames$Layouts.joinLesserKinds(I)V ===== -/
theorem d_2_joinLesserKinds_0 : decode prog_4_method_3_code 0 = .ok (.bipush 10, 2) := by decide +kernel
theorem d_2_joinLesserKinds_2 : decode prog_4_method_3_code 2 = .ok (.aload_n 0, 1) := by decide +kernel
theorem d_2_joinLesserKinds_3 : decode prog_4_method_3_code 3 = .ok (.getfield 26, 3) := by decide +kernel
theorem d_2_joinLesserKinds_6 : decode prog_4_method_3_code 6 = .ok (.iload_n 1, 1) := by decide +kernel
theorem d_2_joinLesserKinds_7 : decode prog_4_method_3_code 7 = .ok (.invokevirtual 48, 3) := by decide +kernel
theorem d_2_joinLesserKinds_10 : decode prog_4_method_3_code 10 = .ok (.isub, 1) := by decide +kernel
theorem d_2_joinLesserKinds_11 : decode prog_4_method_3_code 11 = .ok (.istore_n 2, 1) := by decide +kernel
theorem d_2_joinLesserKinds_12 : decode prog_4_method_3_code 12 = .ok (.aload_n 0, 1) := by decide +kernel
theorem d_2_joinLesserKinds_13 : decode prog_4_method_3_code 13 = .ok (.getfield 20, 3) := by decide +kernel
theorem d_2_joinLesserKinds_16 : decode prog_4_method_3_code 16 = .ok (.iload_n 1, 1) := by decide +kernel
theorem d_2_joinLesserKinds_17 : decode prog_4_method_3_code 17 = .ok (.invokevirtual 48, 3) := by decide +kernel
theorem d_2_joinLesserKinds_20 : decode prog_4_method_3_code 20 = .ok (.istore_n 3, 1) := by decide +kernel
theorem d_2_joinLesserKinds_21 : decode prog_4_method_3_code 21 = .ok (.iconst 0, 1) := by decide +kernel
theorem d_2_joinLesserKinds_22 : decode prog_4_method_3_code 22 = .ok (.istore 4, 2) := by decide +kernel
theorem d_2_joinLesserKinds_24 : decode prog_4_method_3_code 24 = .ok (.iload 4, 2) := by decide +kernel
theorem d_2_joinLesserKinds_26 : decode prog_4_method_3_code 26 = .ok (.iload_n 3, 1) := by decide +kernel
theorem d_2_joinLesserKinds_27 : decode prog_4_method_3_code 27 = .ok (.if_icmp .ge 51, 3) := by decide +kernel
theorem d_2_joinLesserKinds_30 : decode prog_4_method_3_code 30 = .ok (.iload 4, 2) := by decide +kernel
theorem d_2_joinLesserKinds_32 : decode prog_4_method_3_code 32 = .ok (.invokestatic 52, 3) := by decide +kernel
theorem d_2_joinLesserKinds_35 : decode prog_4_method_3_code 35 = .ok (.iload_n 2, 1) := by decide +kernel
theorem d_2_joinLesserKinds_36 : decode prog_4_method_3_code 36 = .ok (.if_icmp .gt 42, 3) := by decide +kernel
theorem d_2_joinLesserKinds_39 : decode prog_4_method_3_code 39 = .ok (.aload_n 0, 1) := by decide +kernel
theorem d_2_joinLesserKinds_40 : decode prog_4_method_3_code 40 = .ok (.getfield 35, 3) := by decide +kernel
theorem d_2_joinLesserKinds_43 : decode prog_4_method_3_code 43 = .ok (.iload_n 1, 1) := by decide +kernel
theorem d_2_joinLesserKinds_44 : decode prog_4_method_3_code 44 = .ok (.bipush 20, 2) := by decide +kernel
theorem d_2_joinLesserKinds_46 : decode prog_4_method_3_code 46 = .ok (.imul, 1) := by decide +kernel
theorem d_2_joinLesserKinds_47 : decode prog_4_method_3_code 47 = .ok (.iload 4, 2) := by decide +kernel
theorem d_2_joinLesserKinds_49 : decode prog_4_method_3_code 49 = .ok (.iadd, 1) := by decide +kernel
theorem d_2_joinLesserKinds_50 : decode prog_4_method_3_code 50 = .ok (.aload_n 0, 1) := by decide +kernel
theorem d_2_joinLesserKinds_51 : decode prog_4_method_3_code 51 = .ok (.aload_n 0, 1) := by decide +kernel
theorem d_2_joinLesserKinds_52 : decode prog_4_method_3_code 52 = .ok (.aload_n 0, 1) := by decide +kernel
theorem d_2_joinLesserKinds_53 : decode prog_4_method_3_code 53 = .ok (.getfield 14, 3) := by decide +kernel
theorem d_2_joinLesserKinds_56 : decode prog_4_method_3_code 56 = .ok (.iload_n 1, 1) := by decide +kernel
theorem d_2_joinLesserKinds_57 : decode prog_4_method_3_code 57 = .ok (.invokevirtual 48, 3) := by decide +kernel
theorem d_2_joinLesserKinds_60 : decode prog_4_method_3_code 60 = .ok (.iload 4, 2) := by decide +kernel
theorem d_2_joinLesserKinds_62 : decode prog_4_method_3_code 62 = .ok (.invokevirtual 59, 3) := by decide +kernel
theorem d_2_joinLesserKinds_65 : decode prog_4_method_3_code 65 = .ok (.iload_n 3, 1) := by decide +kernel
theorem d_2_joinLesserKinds_66 : decode prog_4_method_3_code 66 = .ok (.invokevirtual 59, 3) := by decide +kernel
theorem d_2_joinLesserKinds_69 : decode prog_4_method_3_code 69 = .ok (.invokevirtual 62, 3) := by decide +kernel
theorem d_2_joinLesserKinds_72 : decode prog_4_method_3_code 72 = .ok (.iinc 4 1, 3) := by decide +kernel
theorem d_2_joinLesserKinds_75 : decode prog_4_method_3_code 75 = .ok (.goto (-51), 3) := by decide +kernel
theorem d_2_joinLesserKinds_78 : decode prog_4_method_3_code 78 = .ok (.return_, 1) := by decide +kernel
def wb_2_joinLesserKinds_24 (Q : hm_S → hm_T → Prop) (K24 : Int32 → Int32 → Int32 → Int32 → hm_S → hm_T → Prop) (x1 : Int32) (x2 : Int32) (x3 : Int32) (x4 : Int32) (S : hm_S) (T : hm_T) : Prop :=
  (if x3 ≤ x4 then Q S T else wp_10_sizeOfKind x4 S T (fun r3 S3 T3 => (if x2 < r3 then Q S3 T3 else wp_5_get 5 1215 x1 S3 T3 (fun r4 S4 T4 => wp_2_join r4 x4 S4 T4 (fun r5 S5 T5 => wp_2_join r5 x3 S5 T5 (fun r6 S6 T6 => wp_5_set 17 24300 ((x1 * 20) + x4) r6 S6 T6 (fun S7 T7 => K24 x1 x2 x3 (x4 + 1) S7 T7)))))))
set_option maxHeartbeats 4000000 in
set_option maxRecDepth 20000 in
theorem bk_2_joinLesserKinds_24 {Q : hm_S → hm_T → Prop} {K24 : Int32 → Int32 → Int32 → Int32 → hm_S → hm_T → Prop} (hn : 19 ≤ n) (hsh : ∀ i, 1 ≤ i → i < 19 → sh i = shX i) (cx : hm_cx G p s m args c prog_4_method_3_code 5 "HeapGames$Layouts") (hr : meth.sig.returnType = none) (hlk : meth.locks = false) (k24 : ∀ (x1 : Int32) (x2 : Int32) (x3 : Int32) (x4 : Int32) (S : hm_S) (T : hm_T) (H : Heap) (locs : List Loc) (ls : Array Slot), K24 x1 x2 x3 x4 S T → hm_w G H0 o n sh S T H → hm_L o n locs → lv_has ls 5 [(0, .ref (o + 4)), (1, .int x1), (2, .int x2), (3, .int x3), (4, .int x4)] → W p l e rm_2_joinLesserKinds s m args below meth c H locs 0 0 (MQ below (hm_Qv G H0 o n sh Q) args s 0 0 (t_fr o (o + n))) (F0 m 24 ls [])) {x1 : Int32} {x2 : Int32} {x3 : Int32} {x4 : Int32} {S : hm_S} {T : hm_T} {H : Heap} {locs : List Loc} {ls : Array Slot} (h : wb_2_joinLesserKinds_24 Q K24 x1 x2 x3 x4 S T) (hw : hm_w G H0 o n sh S T H) (hL : hm_L o n locs) (hl : lv_has ls 5 [(0, .ref (o + 4)), (1, .int x1), (2, .int x2), (3, .int x3), (4, .int x4)]) : W p l e rm_2_joinLesserKinds s m args below meth c H locs 0 0 (MQ below (hm_Qv G H0 o n sh Q) args s 0 0 (t_fr o (o + n))) (F0 m 24 ls []) := by
  have hx := cx.1.1
  have hb := cx.1.2.1
  unfold wb_2_joinLesserKinds_24 at h
  refine lv_iload hx hb d_2_joinLesserKinds_24 (lv_at hl 4 rfl) ?_
  refine lv_iload_n hx hb d_2_joinLesserKinds_26 rfl (lv_at hl 3 rfl) ?_
  refine lv_icmp_ge (tgt := 78) hx hb d_2_joinLesserKinds_27 (by decide) (fun hc => ?_) (fun hc => ?_)
  · replace h := hm_pos hc h
    exact W.vret hx hb hr (fun t ht _ => ⟨_, _, rfl, h, by rw [ht]; exact hw⟩) hL d_2_joinLesserKinds_78
  · replace h := hm_neg hc h
    refine lv_iload hx hb d_2_joinLesserKinds_30 (lv_at hl 4 rfl) ?_
    refine hm_calli (hm_rN (As := [.int x4]) (rest := []) cx hw (ct_10_sizeOfKind h) (mw_2_52 cx ⟨Nat.le_of_ble_eq_true rfl, Nat.le_of_ble_eq_true rfl⟩) rfl hl.1 rfl (Nat.le_of_ble_eq_true rfl) d_2_joinLesserKinds_32 ⟨Nat.zero_le _, Nat.zero_le _⟩) hL (fun r3 S3 T3 H locs h hw hL => ?_)
    refine lv_iload_n hx hb d_2_joinLesserKinds_35 rfl (lv_at hl 2 rfl) ?_
    refine lv_icmp_gt (tgt := 78) hx hb d_2_joinLesserKinds_36 (by decide) (fun hc => ?_) (fun hc => ?_)
    · replace h := hm_pos hc h
      exact W.vret hx hb hr (fun t ht _ => ⟨_, _, rfl, h, by rw [ht]; exact hw⟩) hL d_2_joinLesserKinds_78
    · replace h := hm_neg hc h
      refine lv_aload_n hx hb d_2_joinLesserKinds_39 rfl (lv_at hl 0 rfl) ?_
      refine gf_2_35 cx hw (i := 4) (r := 17) (Nat.lt_of_lt_of_le (by decide : 4 < 19) hn) ((hsh 4 (by decide) (by decide)).trans sx_4) rfl d_2_joinLesserKinds_40 ?_
      refine lv_iload_n hx hb d_2_joinLesserKinds_43 rfl (lv_at hl 1 rfl) ?_
      refine lv_bipush (v := 20) hx hb d_2_joinLesserKinds_44 (by decide) ?_
      refine lv_imul hx hb d_2_joinLesserKinds_46 ?_
      refine lv_iload hx hb d_2_joinLesserKinds_47 (lv_at hl 4 rfl) ?_
      refine lv_iadd hx hb d_2_joinLesserKinds_49 ?_
      refine lv_aload_n hx hb d_2_joinLesserKinds_50 rfl (lv_at hl 0 rfl) ?_
      refine lv_aload_n hx hb d_2_joinLesserKinds_51 rfl (lv_at hl 0 rfl) ?_
      refine lv_aload_n hx hb d_2_joinLesserKinds_52 rfl (lv_at hl 0 rfl) ?_
      refine gf_2_14 cx hw (i := 4) (r := 5) (Nat.lt_of_lt_of_le (by decide : 4 < 19) hn) ((hsh 4 (by decide) (by decide)).trans sx_4) rfl d_2_joinLesserKinds_53 ?_
      refine lv_iload_n hx hb d_2_joinLesserKinds_56 rfl (lv_at hl 1 rfl) ?_
      refine hm_calli (hm_rV (i := 5) (As := [.int x1]) (rest := [.ref (o + 4), .ref (o + 4), .int ((x1 * 20) + x4), .ref (o + 17)]) cx hw (ct_5_get (Nat.lt_of_lt_of_le (by decide : 6 < 19) hn) ((hsh 5 (by decide) (by decide)).trans sx_5) ((hsh 6 (by decide) (by decide)).trans sx_6) h) (mw_2_48 cx.1.2.2.2.2 ⟨Nat.le_of_ble_eq_true rfl, Nat.le_of_ble_eq_true rfl⟩) (Nat.lt_of_lt_of_le (by decide : 5 < 19) hn) ((hsh 5 (by decide) (by decide)).trans sx_5) rfl rfl hl.1 rfl (Nat.le_of_ble_eq_true rfl) d_2_joinLesserKinds_57 ⟨Nat.zero_le _, Nat.zero_le _⟩) hL (fun r4 S4 T4 H locs h hw hL => ?_)
      refine lv_iload hx hb d_2_joinLesserKinds_60 (lv_at hl 4 rfl) ?_
      refine hm_calli (hm_rV (i := 4) (As := [.int r4, .int x4]) (rest := [.ref (o + 4), .int ((x1 * 20) + x4), .ref (o + 17)]) cx hw (ct_2_join hn hsh h) (mw_2_59 cx.1.2.2.2.2 ⟨Nat.le_of_ble_eq_true rfl, Nat.le_of_ble_eq_true rfl⟩) (Nat.lt_of_lt_of_le (by decide : 4 < 19) hn) ((hsh 4 (by decide) (by decide)).trans sx_4) rfl rfl hl.1 rfl (Nat.le_of_ble_eq_true rfl) d_2_joinLesserKinds_62 ⟨Nat.zero_le _, Nat.zero_le _⟩) hL (fun r5 S5 T5 H locs h hw hL => ?_)
      refine lv_iload_n hx hb d_2_joinLesserKinds_65 rfl (lv_at hl 3 rfl) ?_
      refine hm_calli (hm_rV (i := 4) (As := [.int r5, .int x3]) (rest := [.int ((x1 * 20) + x4), .ref (o + 17)]) cx hw (ct_2_join hn hsh h) (mw_2_59 cx.1.2.2.2.2 ⟨Nat.le_of_ble_eq_true rfl, Nat.le_of_ble_eq_true rfl⟩) (Nat.lt_of_lt_of_le (by decide : 4 < 19) hn) ((hsh 4 (by decide) (by decide)).trans sx_4) rfl rfl hl.1 rfl (Nat.le_of_ble_eq_true rfl) d_2_joinLesserKinds_66 ⟨Nat.zero_le _, Nat.zero_le _⟩) hL (fun r6 S6 T6 H locs h hw hL => ?_)
      refine hm_callv (hm_rV (i := 17) (As := [.int ((x1 * 20) + x4), .int r6]) (rest := []) cx hw (ct_5_set (Nat.lt_of_lt_of_le (by decide : 18 < 19) hn) ((hsh 17 (by decide) (by decide)).trans sx_17) ((hsh 18 (by decide) (by decide)).trans sx_18) h) (mw_2_62 cx.1.2.2.2.2 ⟨Nat.le_of_ble_eq_true rfl, Nat.le_of_ble_eq_true rfl⟩) (Nat.lt_of_lt_of_le (by decide : 17 < 19) hn) ((hsh 17 (by decide) (by decide)).trans sx_17) rfl rfl hl.1 rfl (Nat.le_of_ble_eq_true rfl) d_2_joinLesserKinds_69 ⟨Nat.zero_le _, Nat.zero_le _⟩) hL (fun S7 T7 H locs h hw hL => ?_)
      refine lv_iinc (v := (x4 + 1)) (lv' := [(4, .int (x4 + 1)), (0, .ref (o + 4)), (1, .int x1), (2, .int x2), (3, .int x3)]) hx hb d_2_joinLesserKinds_72 hl (k := 4) rfl rfl (by decide) rfl (fun ls hl => ?_)
      refine lv_goto (tgt := 24) hx hb d_2_joinLesserKinds_75 (by decide) ?_
      exact k24 _ _ _ _ _ _ _ _ _ h hw hL (lv_sub hl [1, 2, 3, 4, 0] rfl)
def wl_2_joinLesserKinds_24 (Q : hm_S → hm_T → Prop) : Nat → Int32 → Int32 → Int32 → Int32 → hm_S → hm_T → Prop
  | 0, _, _, _, _, _, _ => False
  | f + 1, x1, x2, x3, x4, S, T => wb_2_joinLesserKinds_24 Q (wl_2_joinLesserKinds_24 Q f) x1 x2 x3 x4 S T
theorem lp_2_joinLesserKinds_24 {Q : hm_S → hm_T → Prop} (hn : 19 ≤ n) (hsh : ∀ i, 1 ≤ i → i < 19 → sh i = shX i) (cx : hm_cx G p s m args c prog_4_method_3_code 5 "HeapGames$Layouts") (hr : meth.sig.returnType = none) (hlk : meth.locks = false) : ∀ (f : Nat) (x1 : Int32) (x2 : Int32) (x3 : Int32) (x4 : Int32) (S : hm_S) (T : hm_T) (H : Heap) (locs : List Loc) (ls : Array Slot), wl_2_joinLesserKinds_24 Q f x1 x2 x3 x4 S T → hm_w G H0 o n sh S T H → hm_L o n locs → lv_has ls 5 [(0, .ref (o + 4)), (1, .int x1), (2, .int x2), (3, .int x3), (4, .int x4)] → W p l e rm_2_joinLesserKinds s m args below meth c H locs 0 0 (MQ below (hm_Qv G H0 o n sh Q) args s 0 0 (t_fr o (o + n))) (F0 m 24 ls []) := by
  intro f
  induction f with
  | zero => intro x1 x2 x3 x4 S T H locs ls h; exact h.elim
  | succ f ih => intro x1 x2 x3 x4 S T H locs ls h hw hL hl; exact bk_2_joinLesserKinds_24 hn hsh cx hr hlk ih h hw hL hl
def wp_2_joinLesserKinds (x1 : Int32) (S : hm_S) (T : hm_T) (Q : hm_S → hm_T → Prop) : Prop :=
  wp_5_get 11 1215 x1 S T (fun r1 S1 T1 => wp_5_get 7 1215 x1 S1 T1 (fun r2 S2 T2 => ∃ f, wl_2_joinLesserKinds_24 Q f x1 (10 - r1) r2 0 S2 T2))
set_option maxHeartbeats 4000000 in
set_option maxRecDepth 20000 in
theorem bk_2_joinLesserKinds_0 {Q : hm_S → hm_T → Prop} (hn : 19 ≤ n) (hsh : ∀ i, 1 ≤ i → i < 19 → sh i = shX i) (cx : hm_cx G p s m args c prog_4_method_3_code 5 "HeapGames$Layouts") (hr : meth.sig.returnType = none) (hlk : meth.locks = false) {x1 : Int32} {S : hm_S} {T : hm_T} {H : Heap} {locs : List Loc} {ls : Array Slot} (h : wp_2_joinLesserKinds x1 S T Q) (hw : hm_w G H0 o n sh S T H) (hL : hm_L o n locs) (hl : lv_has ls 5 [(0, .ref (o + 4)), (1, .int x1)]) : W p l e rm_2_joinLesserKinds s m args below meth c H locs 0 0 (MQ below (hm_Qv G H0 o n sh Q) args s 0 0 (t_fr o (o + n))) (F0 m 0 ls []) := by
  have hx := cx.1.1
  have hb := cx.1.2.1
  unfold wp_2_joinLesserKinds at h
  refine lv_bipush (v := 10) hx hb d_2_joinLesserKinds_0 (by decide) ?_
  refine lv_aload_n hx hb d_2_joinLesserKinds_2 rfl (lv_at hl 0 rfl) ?_
  refine gf_2_26 cx hw (i := 4) (r := 11) (Nat.lt_of_lt_of_le (by decide : 4 < 19) hn) ((hsh 4 (by decide) (by decide)).trans sx_4) rfl d_2_joinLesserKinds_3 ?_
  refine lv_iload_n hx hb d_2_joinLesserKinds_6 rfl (lv_at hl 1 rfl) ?_
  refine hm_calli (hm_rV (i := 11) (As := [.int x1]) (rest := [.int 10]) cx hw (ct_5_get (Nat.lt_of_lt_of_le (by decide : 12 < 19) hn) ((hsh 11 (by decide) (by decide)).trans sx_11) ((hsh 12 (by decide) (by decide)).trans sx_12) h) (mw_2_48 cx.1.2.2.2.2 ⟨Nat.le_of_ble_eq_true rfl, Nat.le_of_ble_eq_true rfl⟩) (Nat.lt_of_lt_of_le (by decide : 11 < 19) hn) ((hsh 11 (by decide) (by decide)).trans sx_11) rfl rfl hl.1 rfl (Nat.le_of_ble_eq_true rfl) d_2_joinLesserKinds_7 ⟨Nat.zero_le _, Nat.zero_le _⟩) hL (fun r1 S1 T1 H locs h hw hL => ?_)
  refine lv_isub hx hb d_2_joinLesserKinds_10 ?_
  refine lv_istore_n (lv' := [(2, .int (10 - r1)), (0, .ref (o + 4)), (1, .int x1)]) hx hb d_2_joinLesserKinds_11 rfl hl (by decide) rfl (fun ls hl => ?_)
  refine lv_aload_n hx hb d_2_joinLesserKinds_12 rfl (lv_at hl 1 rfl) ?_
  refine gf_2_20 cx hw (i := 4) (r := 7) (Nat.lt_of_lt_of_le (by decide : 4 < 19) hn) ((hsh 4 (by decide) (by decide)).trans sx_4) rfl d_2_joinLesserKinds_13 ?_
  refine lv_iload_n hx hb d_2_joinLesserKinds_16 rfl (lv_at hl 2 rfl) ?_
  refine hm_calli (hm_rV (i := 7) (As := [.int x1]) (rest := []) cx hw (ct_5_get (Nat.lt_of_lt_of_le (by decide : 8 < 19) hn) ((hsh 7 (by decide) (by decide)).trans sx_7) ((hsh 8 (by decide) (by decide)).trans sx_8) h) (mw_2_48 cx.1.2.2.2.2 ⟨Nat.le_of_ble_eq_true rfl, Nat.le_of_ble_eq_true rfl⟩) (Nat.lt_of_lt_of_le (by decide : 7 < 19) hn) ((hsh 7 (by decide) (by decide)).trans sx_7) rfl rfl hl.1 rfl (Nat.le_of_ble_eq_true rfl) d_2_joinLesserKinds_17 ⟨Nat.zero_le _, Nat.zero_le _⟩) hL (fun r2 S2 T2 H locs h hw hL => ?_)
  refine lv_istore_n (lv' := [(3, .int r2), (2, .int (10 - r1)), (0, .ref (o + 4)), (1, .int x1)]) hx hb d_2_joinLesserKinds_20 rfl hl (by decide) rfl (fun ls hl => ?_)
  refine lv_iconst (v := 0) hx hb d_2_joinLesserKinds_21 (by decide) ?_
  refine lv_istore (lv' := [(4, .int 0), (3, .int r2), (2, .int (10 - r1)), (0, .ref (o + 4)), (1, .int x1)]) hx hb d_2_joinLesserKinds_22 hl (by decide) rfl (fun ls hl => ?_)
  obtain ⟨f, h⟩ := h
  exact lp_2_joinLesserKinds_24 hn hsh cx hr hlk f _ _ _ _ _ _ _ _ _ h hw hL (lv_sub hl [3, 4, 2, 1, 0] rfl)
set_option maxHeartbeats 4000000 in
set_option maxRecDepth 20000 in
theorem ct_2_joinLesserKinds {x1 : Int32} {S : hm_S} {T : hm_T} {Q : hm_S → hm_T → Prop} (hn : 19 ≤ n) (hsh : ∀ i, 1 ≤ i → i < 19 → sh i = shX i) (h : wp_2_joinLesserKinds x1 S T Q) : hm_M l G H0 o n sh y_2_joinLesserKinds prog_4_method_3_code 5 (none) rm_2_joinLesserKinds S T [.ref (o + 4), .int x1] (hm_Qv G H0 o n sh Q) := by
  refine Met.ofW (cc := prog_4_method_3_code) (maxL := 5) (ret := none) (by decide) rfl ?_
  intro p e s m args below meth c s₁ B hml hv
  obtain ⟨rfl, hK, hw⟩ := hv
  have cx : hm_cx G p s m _ c prog_4_method_3_code 5 "HeapGames$Layouts" := ⟨⟨B.exec, B.bytes, hml, findClass_of_methodNamed B.named, fun w hq => atoms_spec (ws := hm_ws y_2_joinLesserKinds prog_4_method_3_code 5 (none)) B.pre w (List.mem_cons_of_mem _ hq)⟩, hK⟩
  have hl := lv_entry ([.ref (o + 4), .int x1]) (n := 5) (Nat.le_of_ble_eq_true rfl)
  rw [lg_entry_eq]
  generalize (lg_sl ([.ref (o + 4), .int x1]) ++ List.replicate (5 - (lg_sl ([.ref (o + 4), .int x1])).length) Slot.unset).toArray = ls at hl ⊢
  have hl : lv_has ls 5 [(0, .ref (o + 4)), (1, .int x1)] := hl
  exact bk_2_joinLesserKinds_0 hn hsh cx B.returns B.notSynchronized h hw (hm_L0 _ _) hl
/-! ===== HeapGames$Layouts.heapsOf(I)I ===== -/
theorem d_2_heapsOf_0 : decode prog_4_method_4_code 0 = .ok (.aload_n 0, 1) := by decide +kernel
theorem d_2_heapsOf_1 : decode prog_4_method_4_code 1 = .ok (.getfield 23, 3) := by decide +kernel
theorem d_2_heapsOf_4 : decode prog_4_method_4_code 4 = .ok (.iload_n 1, 1) := by decide +kernel
theorem d_2_heapsOf_5 : decode prog_4_method_4_code 5 = .ok (.invokevirtual 48, 3) := by decide +kernel
theorem d_2_heapsOf_8 : decode prog_4_method_4_code 8 = .ok (.ireturn, 1) := by decide +kernel
def wp_2_heapsOf (x1 : Int32) (S : hm_S) (T : hm_T) (Q : Int32 → hm_S → hm_T → Prop) : Prop :=
  wp_5_get 9 1215 x1 S T (fun r1 S1 T1 => Q r1 S1 T1)
set_option maxHeartbeats 4000000 in
set_option maxRecDepth 20000 in
theorem bk_2_heapsOf_0 {Q : Int32 → hm_S → hm_T → Prop} (hn : 19 ≤ n) (hsh : ∀ i, 1 ≤ i → i < 19 → sh i = shX i) (cx : hm_cx G p s m args c prog_4_method_4_code 2 "HeapGames$Layouts") (hr : meth.sig.returnType = some .int) (hlk : meth.locks = false) {x1 : Int32} {S : hm_S} {T : hm_T} {H : Heap} {locs : List Loc} {ls : Array Slot} (h : wp_2_heapsOf x1 S T Q) (hw : hm_w G H0 o n sh S T H) (hL : hm_L o n locs) (hl : lv_has ls 2 [(0, .ref (o + 4)), (1, .int x1)]) : W p l e rm_2_heapsOf s m args below meth c H locs 0 0 (MQ below (hm_Qi G H0 o n sh Q) args s 0 0 (t_fr o (o + n))) (F0 m 0 ls []) := by
  have hx := cx.1.1
  have hb := cx.1.2.1
  unfold wp_2_heapsOf at h
  refine lv_aload_n hx hb d_2_heapsOf_0 rfl (lv_at hl 0 rfl) ?_
  refine gf_2_23 cx hw (i := 4) (r := 9) (Nat.lt_of_lt_of_le (by decide : 4 < 19) hn) ((hsh 4 (by decide) (by decide)).trans sx_4) rfl d_2_heapsOf_1 ?_
  refine lv_iload_n hx hb d_2_heapsOf_4 rfl (lv_at hl 1 rfl) ?_
  refine hm_calli (hm_rV (i := 9) (As := [.int x1]) (rest := []) cx hw (ct_5_get (Nat.lt_of_lt_of_le (by decide : 10 < 19) hn) ((hsh 9 (by decide) (by decide)).trans sx_9) ((hsh 10 (by decide) (by decide)).trans sx_10) h) (mw_2_48 cx.1.2.2.2.2 ⟨Nat.le_of_ble_eq_true rfl, Nat.le_of_ble_eq_true rfl⟩) (Nat.lt_of_lt_of_le (by decide : 9 < 19) hn) ((hsh 9 (by decide) (by decide)).trans sx_9) rfl rfl hl.1 rfl (Nat.le_of_ble_eq_true rfl) d_2_heapsOf_5 ⟨Nat.zero_le _, Nat.zero_le _⟩) hL (fun r1 S1 T1 H locs h hw hL => ?_)
  exact W.iret hx hb hr (fun t ht _ => ⟨_, _, _, rfl, h, by rw [ht]; exact hw⟩) hL d_2_heapsOf_8
set_option maxHeartbeats 4000000 in
set_option maxRecDepth 20000 in
theorem ct_2_heapsOf {x1 : Int32} {S : hm_S} {T : hm_T} {Q : Int32 → hm_S → hm_T → Prop} (hn : 19 ≤ n) (hsh : ∀ i, 1 ≤ i → i < 19 → sh i = shX i) (h : wp_2_heapsOf x1 S T Q) : hm_M l G H0 o n sh y_2_heapsOf prog_4_method_4_code 2 (some .int) rm_2_heapsOf S T [.ref (o + 4), .int x1] (hm_Qi G H0 o n sh Q) := by
  refine Met.ofW (cc := prog_4_method_4_code) (maxL := 2) (ret := some .int) (by decide) rfl ?_
  intro p e s m args below meth c s₁ B hml hv
  obtain ⟨rfl, hK, hw⟩ := hv
  have cx : hm_cx G p s m _ c prog_4_method_4_code 2 "HeapGames$Layouts" := ⟨⟨B.exec, B.bytes, hml, findClass_of_methodNamed B.named, fun w hq => atoms_spec (ws := hm_ws y_2_heapsOf prog_4_method_4_code 2 (some .int)) B.pre w (List.mem_cons_of_mem _ hq)⟩, hK⟩
  have hl := lv_entry ([.ref (o + 4), .int x1]) (n := 2) (Nat.le_of_ble_eq_true rfl)
  rw [lg_entry_eq]
  generalize (lg_sl ([.ref (o + 4), .int x1]) ++ List.replicate (2 - (lg_sl ([.ref (o + 4), .int x1])).length) Slot.unset).toArray = ls at hl ⊢
  have hl : lv_has ls 2 [(0, .ref (o + 4)), (1, .int x1)] := hl
  exact bk_2_heapsOf_0 hn hsh cx B.returns B.notSynchronized h hw (hm_L0 _ _) hl
/-! ===== HeapGames$Layouts.countersOf(I)I ===== -/
theorem d_2_countersOf_0 : decode prog_4_method_5_code 0 = .ok (.aload_n 0, 1) := by decide +kernel
theorem d_2_countersOf_1 : decode prog_4_method_5_code 1 = .ok (.getfield 26, 3) := by decide +kernel
theorem d_2_countersOf_4 : decode prog_4_method_5_code 4 = .ok (.iload_n 1, 1) := by decide +kernel
theorem d_2_countersOf_5 : decode prog_4_method_5_code 5 = .ok (.invokevirtual 48, 3) := by decide +kernel
theorem d_2_countersOf_8 : decode prog_4_method_5_code 8 = .ok (.ireturn, 1) := by decide +kernel
def wp_2_countersOf (x1 : Int32) (S : hm_S) (T : hm_T) (Q : Int32 → hm_S → hm_T → Prop) : Prop :=
  wp_5_get 11 1215 x1 S T (fun r1 S1 T1 => Q r1 S1 T1)
set_option maxHeartbeats 4000000 in
set_option maxRecDepth 20000 in
theorem bk_2_countersOf_0 {Q : Int32 → hm_S → hm_T → Prop} (hn : 19 ≤ n) (hsh : ∀ i, 1 ≤ i → i < 19 → sh i = shX i) (cx : hm_cx G p s m args c prog_4_method_5_code 2 "HeapGames$Layouts") (hr : meth.sig.returnType = some .int) (hlk : meth.locks = false) {x1 : Int32} {S : hm_S} {T : hm_T} {H : Heap} {locs : List Loc} {ls : Array Slot} (h : wp_2_countersOf x1 S T Q) (hw : hm_w G H0 o n sh S T H) (hL : hm_L o n locs) (hl : lv_has ls 2 [(0, .ref (o + 4)), (1, .int x1)]) : W p l e rm_2_countersOf s m args below meth c H locs 0 0 (MQ below (hm_Qi G H0 o n sh Q) args s 0 0 (t_fr o (o + n))) (F0 m 0 ls []) := by
  have hx := cx.1.1
  have hb := cx.1.2.1
  unfold wp_2_countersOf at h
  refine lv_aload_n hx hb d_2_countersOf_0 rfl (lv_at hl 0 rfl) ?_
  refine gf_2_26 cx hw (i := 4) (r := 11) (Nat.lt_of_lt_of_le (by decide : 4 < 19) hn) ((hsh 4 (by decide) (by decide)).trans sx_4) rfl d_2_countersOf_1 ?_
  refine lv_iload_n hx hb d_2_countersOf_4 rfl (lv_at hl 1 rfl) ?_
  refine hm_calli (hm_rV (i := 11) (As := [.int x1]) (rest := []) cx hw (ct_5_get (Nat.lt_of_lt_of_le (by decide : 12 < 19) hn) ((hsh 11 (by decide) (by decide)).trans sx_11) ((hsh 12 (by decide) (by decide)).trans sx_12) h) (mw_2_48 cx.1.2.2.2.2 ⟨Nat.le_of_ble_eq_true rfl, Nat.le_of_ble_eq_true rfl⟩) (Nat.lt_of_lt_of_le (by decide : 11 < 19) hn) ((hsh 11 (by decide) (by decide)).trans sx_11) rfl rfl hl.1 rfl (Nat.le_of_ble_eq_true rfl) d_2_countersOf_5 ⟨Nat.zero_le _, Nat.zero_le _⟩) hL (fun r1 S1 T1 H locs h hw hL => ?_)
  exact W.iret hx hb hr (fun t ht _ => ⟨_, _, _, rfl, h, by rw [ht]; exact hw⟩) hL d_2_countersOf_8
set_option maxHeartbeats 4000000 in
set_option maxRecDepth 20000 in
theorem ct_2_countersOf {x1 : Int32} {S : hm_S} {T : hm_T} {Q : Int32 → hm_S → hm_T → Prop} (hn : 19 ≤ n) (hsh : ∀ i, 1 ≤ i → i < 19 → sh i = shX i) (h : wp_2_countersOf x1 S T Q) : hm_M l G H0 o n sh y_2_countersOf prog_4_method_5_code 2 (some .int) rm_2_countersOf S T [.ref (o + 4), .int x1] (hm_Qi G H0 o n sh Q) := by
  refine Met.ofW (cc := prog_4_method_5_code) (maxL := 2) (ret := some .int) (by decide) rfl ?_
  intro p e s m args below meth c s₁ B hml hv
  obtain ⟨rfl, hK, hw⟩ := hv
  have cx : hm_cx G p s m _ c prog_4_method_5_code 2 "HeapGames$Layouts" := ⟨⟨B.exec, B.bytes, hml, findClass_of_methodNamed B.named, fun w hq => atoms_spec (ws := hm_ws y_2_countersOf prog_4_method_5_code 2 (some .int)) B.pre w (List.mem_cons_of_mem _ hq)⟩, hK⟩
  have hl := lv_entry ([.ref (o + 4), .int x1]) (n := 2) (Nat.le_of_ble_eq_true rfl)
  rw [lg_entry_eq]
  generalize (lg_sl ([.ref (o + 4), .int x1]) ++ List.replicate (2 - (lg_sl ([.ref (o + 4), .int x1])).length) Slot.unset).toArray = ls at hl ⊢
  have hl : lv_has ls 2 [(0, .ref (o + 4)), (1, .int x1)] := hl
  exact bk_2_countersOf_0 hn hsh cx B.returns B.notSynchronized h hw (hm_L0 _ _) hl
/-! ===== HeapGames$Layouts.boundHeapsOf(I)I ===== -/
theorem d_2_boundHeapsOf_0 : decode prog_4_method_6_code 0 = .ok (.aload_n 0, 1) := by decide +kernel
theorem d_2_boundHeapsOf_1 : decode prog_4_method_6_code 1 = .ok (.getfield 29, 3) := by decide +kernel
theorem d_2_boundHeapsOf_4 : decode prog_4_method_6_code 4 = .ok (.iload_n 1, 1) := by decide +kernel
theorem d_2_boundHeapsOf_5 : decode prog_4_method_6_code 5 = .ok (.invokevirtual 48, 3) := by decide +kernel
theorem d_2_boundHeapsOf_8 : decode prog_4_method_6_code 8 = .ok (.ireturn, 1) := by decide +kernel
def wp_2_boundHeapsOf (x1 : Int32) (S : hm_S) (T : hm_T) (Q : Int32 → hm_S → hm_T → Prop) : Prop :=
  wp_5_get 13 1215 x1 S T (fun r1 S1 T1 => Q r1 S1 T1)
set_option maxHeartbeats 4000000 in
set_option maxRecDepth 20000 in
theorem bk_2_boundHeapsOf_0 {Q : Int32 → hm_S → hm_T → Prop} (hn : 19 ≤ n) (hsh : ∀ i, 1 ≤ i → i < 19 → sh i = shX i) (cx : hm_cx G p s m args c prog_4_method_6_code 2 "HeapGames$Layouts") (hr : meth.sig.returnType = some .int) (hlk : meth.locks = false) {x1 : Int32} {S : hm_S} {T : hm_T} {H : Heap} {locs : List Loc} {ls : Array Slot} (h : wp_2_boundHeapsOf x1 S T Q) (hw : hm_w G H0 o n sh S T H) (hL : hm_L o n locs) (hl : lv_has ls 2 [(0, .ref (o + 4)), (1, .int x1)]) : W p l e rm_2_boundHeapsOf s m args below meth c H locs 0 0 (MQ below (hm_Qi G H0 o n sh Q) args s 0 0 (t_fr o (o + n))) (F0 m 0 ls []) := by
  have hx := cx.1.1
  have hb := cx.1.2.1
  unfold wp_2_boundHeapsOf at h
  refine lv_aload_n hx hb d_2_boundHeapsOf_0 rfl (lv_at hl 0 rfl) ?_
  refine gf_2_29 cx hw (i := 4) (r := 13) (Nat.lt_of_lt_of_le (by decide : 4 < 19) hn) ((hsh 4 (by decide) (by decide)).trans sx_4) rfl d_2_boundHeapsOf_1 ?_
  refine lv_iload_n hx hb d_2_boundHeapsOf_4 rfl (lv_at hl 1 rfl) ?_
  refine hm_calli (hm_rV (i := 13) (As := [.int x1]) (rest := []) cx hw (ct_5_get (Nat.lt_of_lt_of_le (by decide : 14 < 19) hn) ((hsh 13 (by decide) (by decide)).trans sx_13) ((hsh 14 (by decide) (by decide)).trans sx_14) h) (mw_2_48 cx.1.2.2.2.2 ⟨Nat.le_of_ble_eq_true rfl, Nat.le_of_ble_eq_true rfl⟩) (Nat.lt_of_lt_of_le (by decide : 13 < 19) hn) ((hsh 13 (by decide) (by decide)).trans sx_13) rfl rfl hl.1 rfl (Nat.le_of_ble_eq_true rfl) d_2_boundHeapsOf_5 ⟨Nat.zero_le _, Nat.zero_le _⟩) hL (fun r1 S1 T1 H locs h hw hL => ?_)
  exact W.iret hx hb hr (fun t ht _ => ⟨_, _, _, rfl, h, by rw [ht]; exact hw⟩) hL d_2_boundHeapsOf_8
set_option maxHeartbeats 4000000 in
set_option maxRecDepth 20000 in
theorem ct_2_boundHeapsOf {x1 : Int32} {S : hm_S} {T : hm_T} {Q : Int32 → hm_S → hm_T → Prop} (hn : 19 ≤ n) (hsh : ∀ i, 1 ≤ i → i < 19 → sh i = shX i) (h : wp_2_boundHeapsOf x1 S T Q) : hm_M l G H0 o n sh y_2_boundHeapsOf prog_4_method_6_code 2 (some .int) rm_2_boundHeapsOf S T [.ref (o + 4), .int x1] (hm_Qi G H0 o n sh Q) := by
  refine Met.ofW (cc := prog_4_method_6_code) (maxL := 2) (ret := some .int) (by decide) rfl ?_
  intro p e s m args below meth c s₁ B hml hv
  obtain ⟨rfl, hK, hw⟩ := hv
  have cx : hm_cx G p s m _ c prog_4_method_6_code 2 "HeapGames$Layouts" := ⟨⟨B.exec, B.bytes, hml, findClass_of_methodNamed B.named, fun w hq => atoms_spec (ws := hm_ws y_2_boundHeapsOf prog_4_method_6_code 2 (some .int)) B.pre w (List.mem_cons_of_mem _ hq)⟩, hK⟩
  have hl := lv_entry ([.ref (o + 4), .int x1]) (n := 2) (Nat.le_of_ble_eq_true rfl)
  rw [lg_entry_eq]
  generalize (lg_sl ([.ref (o + 4), .int x1]) ++ List.replicate (2 - (lg_sl ([.ref (o + 4), .int x1])).length) Slot.unset).toArray = ls at hl ⊢
  have hl : lv_has ls 2 [(0, .ref (o + 4)), (1, .int x1)] := hl
  exact bk_2_boundHeapsOf_0 hn hsh cx B.returns B.notSynchronized h hw (hm_L0 _ _) hl
/-! ===== HeapGames$Layouts.isFreeWith(II)Z ===== -/
theorem d_2_isFreeWith_0 : decode prog_4_method_7_code 0 = .ok (.aload_n 0, 1) := by decide +kernel
theorem d_2_isFreeWith_1 : decode prog_4_method_7_code 1 = .ok (.getfield 29, 3) := by decide +kernel
theorem d_2_isFreeWith_4 : decode prog_4_method_7_code 4 = .ok (.iload_n 1, 1) := by decide +kernel
theorem d_2_isFreeWith_5 : decode prog_4_method_7_code 5 = .ok (.invokevirtual 48, 3) := by decide +kernel
theorem d_2_isFreeWith_8 : decode prog_4_method_7_code 8 = .ok (.ifCond .ne 19, 3) := by decide +kernel
theorem d_2_isFreeWith_11 : decode prog_4_method_7_code 11 = .ok (.aload_n 0, 1) := by decide +kernel
theorem d_2_isFreeWith_12 : decode prog_4_method_7_code 12 = .ok (.getfield 26, 3) := by decide +kernel
theorem d_2_isFreeWith_15 : decode prog_4_method_7_code 15 = .ok (.iload_n 1, 1) := by decide +kernel
theorem d_2_isFreeWith_16 : decode prog_4_method_7_code 16 = .ok (.invokevirtual 48, 3) := by decide +kernel
theorem d_2_isFreeWith_19 : decode prog_4_method_7_code 19 = .ok (.iload_n 2, 1) := by decide +kernel
theorem d_2_isFreeWith_20 : decode prog_4_method_7_code 20 = .ok (.if_icmp .ne 7, 3) := by decide +kernel
theorem d_2_isFreeWith_23 : decode prog_4_method_7_code 23 = .ok (.iconst 1, 1) := by decide +kernel
theorem d_2_isFreeWith_24 : decode prog_4_method_7_code 24 = .ok (.goto 4, 3) := by decide +kernel
theorem d_2_isFreeWith_27 : decode prog_4_method_7_code 27 = .ok (.iconst 0, 1) := by decide +kernel
theorem d_2_isFreeWith_28 : decode prog_4_method_7_code 28 = .ok (.ireturn, 1) := by decide +kernel
def wp_2_isFreeWith (x1 : Int32) (x2 : Int32) (S : hm_S) (T : hm_T) (Q : Int32 → hm_S → hm_T → Prop) : Prop :=
  wp_5_get 13 1215 x1 S T (fun r1 S1 T1 => (if r1 = 0 then wp_5_get 11 1215 x1 S1 T1 (fun r2 S2 T2 => (if r2 = x2 then Q 1 S2 T2 else Q 0 S2 T2)) else Q 0 S1 T1))
set_option maxHeartbeats 4000000 in
set_option maxRecDepth 20000 in
theorem bk_2_isFreeWith_0 {Q : Int32 → hm_S → hm_T → Prop} (hn : 19 ≤ n) (hsh : ∀ i, 1 ≤ i → i < 19 → sh i = shX i) (cx : hm_cx G p s m args c prog_4_method_7_code 3 "HeapGames$Layouts") (hr : meth.sig.returnType = some .boolean) (hlk : meth.locks = false) {x1 : Int32} {x2 : Int32} {S : hm_S} {T : hm_T} {H : Heap} {locs : List Loc} {ls : Array Slot} (h : wp_2_isFreeWith x1 x2 S T Q) (hw : hm_w G H0 o n sh S T H) (hL : hm_L o n locs) (hl : lv_has ls 3 [(0, .ref (o + 4)), (1, .int x1), (2, .int x2)]) : W p l e rm_2_isFreeWith s m args below meth c H locs 0 0 (MQ below (hm_Qi G H0 o n sh Q) args s 0 0 (t_fr o (o + n))) (F0 m 0 ls []) := by
  have hx := cx.1.1
  have hb := cx.1.2.1
  unfold wp_2_isFreeWith at h
  refine lv_aload_n hx hb d_2_isFreeWith_0 rfl (lv_at hl 0 rfl) ?_
  refine gf_2_29 cx hw (i := 4) (r := 13) (Nat.lt_of_lt_of_le (by decide : 4 < 19) hn) ((hsh 4 (by decide) (by decide)).trans sx_4) rfl d_2_isFreeWith_1 ?_
  refine lv_iload_n hx hb d_2_isFreeWith_4 rfl (lv_at hl 1 rfl) ?_
  refine hm_calli (hm_rV (i := 13) (As := [.int x1]) (rest := []) cx hw (ct_5_get (Nat.lt_of_lt_of_le (by decide : 14 < 19) hn) ((hsh 13 (by decide) (by decide)).trans sx_13) ((hsh 14 (by decide) (by decide)).trans sx_14) h) (mw_2_48 cx.1.2.2.2.2 ⟨Nat.le_of_ble_eq_true rfl, Nat.le_of_ble_eq_true rfl⟩) (Nat.lt_of_lt_of_le (by decide : 13 < 19) hn) ((hsh 13 (by decide) (by decide)).trans sx_13) rfl rfl hl.1 rfl (Nat.le_of_ble_eq_true rfl) d_2_isFreeWith_5 ⟨Nat.zero_le _, Nat.zero_le _⟩) hL (fun r1 S1 T1 H locs h hw hL => ?_)
  refine lv_if_ne (tgt := 27) hx hb d_2_isFreeWith_8 (by decide) (fun hc => ?_) (fun hc => ?_)
  · replace h := hm_neg hc h
    refine lv_iconst (v := 0) hx hb d_2_isFreeWith_27 (by decide) ?_
    exact W.zret hx hb hr rfl (fun t ht _ => ⟨_, _, _, rfl, h, by rw [ht]; exact hw⟩) hL d_2_isFreeWith_28
  · replace h := hm_pos hc h
    refine lv_aload_n hx hb d_2_isFreeWith_11 rfl (lv_at hl 0 rfl) ?_
    refine gf_2_26 cx hw (i := 4) (r := 11) (Nat.lt_of_lt_of_le (by decide : 4 < 19) hn) ((hsh 4 (by decide) (by decide)).trans sx_4) rfl d_2_isFreeWith_12 ?_
    refine lv_iload_n hx hb d_2_isFreeWith_15 rfl (lv_at hl 1 rfl) ?_
    refine hm_calli (hm_rV (i := 11) (As := [.int x1]) (rest := []) cx hw (ct_5_get (Nat.lt_of_lt_of_le (by decide : 12 < 19) hn) ((hsh 11 (by decide) (by decide)).trans sx_11) ((hsh 12 (by decide) (by decide)).trans sx_12) h) (mw_2_48 cx.1.2.2.2.2 ⟨Nat.le_of_ble_eq_true rfl, Nat.le_of_ble_eq_true rfl⟩) (Nat.lt_of_lt_of_le (by decide : 11 < 19) hn) ((hsh 11 (by decide) (by decide)).trans sx_11) rfl rfl hl.1 rfl (Nat.le_of_ble_eq_true rfl) d_2_isFreeWith_16 ⟨Nat.zero_le _, Nat.zero_le _⟩) hL (fun r2 S2 T2 H locs h hw hL => ?_)
    refine lv_iload_n hx hb d_2_isFreeWith_19 rfl (lv_at hl 2 rfl) ?_
    refine lv_icmp_ne (tgt := 27) hx hb d_2_isFreeWith_20 (by decide) (fun hc => ?_) (fun hc => ?_)
    · replace h := hm_neg hc h
      refine lv_iconst (v := 0) hx hb d_2_isFreeWith_27 (by decide) ?_
      exact W.zret hx hb hr rfl (fun t ht _ => ⟨_, _, _, rfl, h, by rw [ht]; exact hw⟩) hL d_2_isFreeWith_28
    · replace h := hm_pos hc h
      refine lv_iconst (v := 1) hx hb d_2_isFreeWith_23 (by decide) ?_
      refine lv_goto (tgt := 28) hx hb d_2_isFreeWith_24 (by decide) ?_
      exact W.zret hx hb hr rfl (fun t ht _ => ⟨_, _, _, rfl, h, by rw [ht]; exact hw⟩) hL d_2_isFreeWith_28
set_option maxHeartbeats 4000000 in
set_option maxRecDepth 20000 in
theorem ct_2_isFreeWith {x1 : Int32} {x2 : Int32} {S : hm_S} {T : hm_T} {Q : Int32 → hm_S → hm_T → Prop} (hn : 19 ≤ n) (hsh : ∀ i, 1 ≤ i → i < 19 → sh i = shX i) (h : wp_2_isFreeWith x1 x2 S T Q) : hm_M l G H0 o n sh y_2_isFreeWith prog_4_method_7_code 3 (some .boolean) rm_2_isFreeWith S T [.ref (o + 4), .int x1, .int x2] (hm_Qi G H0 o n sh Q) := by
  refine Met.ofW (cc := prog_4_method_7_code) (maxL := 3) (ret := some .boolean) (by decide) rfl ?_
  intro p e s m args below meth c s₁ B hml hv
  obtain ⟨rfl, hK, hw⟩ := hv
  have cx : hm_cx G p s m _ c prog_4_method_7_code 3 "HeapGames$Layouts" := ⟨⟨B.exec, B.bytes, hml, findClass_of_methodNamed B.named, fun w hq => atoms_spec (ws := hm_ws y_2_isFreeWith prog_4_method_7_code 3 (some .boolean)) B.pre w (List.mem_cons_of_mem _ hq)⟩, hK⟩
  have hl := lv_entry ([.ref (o + 4), .int x1, .int x2]) (n := 3) (Nat.le_of_ble_eq_true rfl)
  rw [lg_entry_eq]
  generalize (lg_sl ([.ref (o + 4), .int x1, .int x2]) ++ List.replicate (3 - (lg_sl ([.ref (o + 4), .int x1, .int x2])).length) Slot.unset).toArray = ls at hl ⊢
  have hl : lv_has ls 3 [(0, .ref (o + 4)), (1, .int x1), (2, .int x2)] := hl
  exact bk_2_isFreeWith_0 hn hsh cx B.returns B.notSynchronized h hw (hm_L0 _ _) hl
/-! ===== HeapGames$Layouts.freedOf(I)I ===== -/
theorem d_2_freedOf_0 : decode prog_4_method_8_code 0 = .ok (.aload_n 0, 1) := by decide +kernel
theorem d_2_freedOf_1 : decode prog_4_method_8_code 1 = .ok (.getfield 32, 3) := by decide +kernel
theorem d_2_freedOf_4 : decode prog_4_method_8_code 4 = .ok (.iload_n 1, 1) := by decide +kernel
theorem d_2_freedOf_5 : decode prog_4_method_8_code 5 = .ok (.invokevirtual 48, 3) := by decide +kernel
theorem d_2_freedOf_8 : decode prog_4_method_8_code 8 = .ok (.ireturn, 1) := by decide +kernel
def wp_2_freedOf (x1 : Int32) (S : hm_S) (T : hm_T) (Q : Int32 → hm_S → hm_T → Prop) : Prop :=
  wp_5_get 15 1215 x1 S T (fun r1 S1 T1 => Q r1 S1 T1)
set_option maxHeartbeats 4000000 in
set_option maxRecDepth 20000 in
theorem bk_2_freedOf_0 {Q : Int32 → hm_S → hm_T → Prop} (hn : 19 ≤ n) (hsh : ∀ i, 1 ≤ i → i < 19 → sh i = shX i) (cx : hm_cx G p s m args c prog_4_method_8_code 2 "HeapGames$Layouts") (hr : meth.sig.returnType = some .int) (hlk : meth.locks = false) {x1 : Int32} {S : hm_S} {T : hm_T} {H : Heap} {locs : List Loc} {ls : Array Slot} (h : wp_2_freedOf x1 S T Q) (hw : hm_w G H0 o n sh S T H) (hL : hm_L o n locs) (hl : lv_has ls 2 [(0, .ref (o + 4)), (1, .int x1)]) : W p l e rm_2_freedOf s m args below meth c H locs 0 0 (MQ below (hm_Qi G H0 o n sh Q) args s 0 0 (t_fr o (o + n))) (F0 m 0 ls []) := by
  have hx := cx.1.1
  have hb := cx.1.2.1
  unfold wp_2_freedOf at h
  refine lv_aload_n hx hb d_2_freedOf_0 rfl (lv_at hl 0 rfl) ?_
  refine gf_2_32 cx hw (i := 4) (r := 15) (Nat.lt_of_lt_of_le (by decide : 4 < 19) hn) ((hsh 4 (by decide) (by decide)).trans sx_4) rfl d_2_freedOf_1 ?_
  refine lv_iload_n hx hb d_2_freedOf_4 rfl (lv_at hl 1 rfl) ?_
  refine hm_calli (hm_rV (i := 15) (As := [.int x1]) (rest := []) cx hw (ct_5_get (Nat.lt_of_lt_of_le (by decide : 16 < 19) hn) ((hsh 15 (by decide) (by decide)).trans sx_15) ((hsh 16 (by decide) (by decide)).trans sx_16) h) (mw_2_48 cx.1.2.2.2.2 ⟨Nat.le_of_ble_eq_true rfl, Nat.le_of_ble_eq_true rfl⟩) (Nat.lt_of_lt_of_le (by decide : 15 < 19) hn) ((hsh 15 (by decide) (by decide)).trans sx_15) rfl rfl hl.1 rfl (Nat.le_of_ble_eq_true rfl) d_2_freedOf_5 ⟨Nat.zero_le _, Nat.zero_le _⟩) hL (fun r1 S1 T1 H locs h hw hL => ?_)
  exact W.iret hx hb hr (fun t ht _ => ⟨_, _, _, rfl, h, by rw [ht]; exact hw⟩) hL d_2_freedOf_8
set_option maxHeartbeats 4000000 in
set_option maxRecDepth 20000 in
theorem ct_2_freedOf {x1 : Int32} {S : hm_S} {T : hm_T} {Q : Int32 → hm_S → hm_T → Prop} (hn : 19 ≤ n) (hsh : ∀ i, 1 ≤ i → i < 19 → sh i = shX i) (h : wp_2_freedOf x1 S T Q) : hm_M l G H0 o n sh y_2_freedOf prog_4_method_8_code 2 (some .int) rm_2_freedOf S T [.ref (o + 4), .int x1] (hm_Qi G H0 o n sh Q) := by
  refine Met.ofW (cc := prog_4_method_8_code) (maxL := 2) (ret := some .int) (by decide) rfl ?_
  intro p e s m args below meth c s₁ B hml hv
  obtain ⟨rfl, hK, hw⟩ := hv
  have cx : hm_cx G p s m _ c prog_4_method_8_code 2 "HeapGames$Layouts" := ⟨⟨B.exec, B.bytes, hml, findClass_of_methodNamed B.named, fun w hq => atoms_spec (ws := hm_ws y_2_freedOf prog_4_method_8_code 2 (some .int)) B.pre w (List.mem_cons_of_mem _ hq)⟩, hK⟩
  have hl := lv_entry ([.ref (o + 4), .int x1]) (n := 2) (Nat.le_of_ble_eq_true rfl)
  rw [lg_entry_eq]
  generalize (lg_sl ([.ref (o + 4), .int x1]) ++ List.replicate (2 - (lg_sl ([.ref (o + 4), .int x1])).length) Slot.unset).toArray = ls at hl ⊢
  have hl : lv_has ls 2 [(0, .ref (o + 4)), (1, .int x1)] := hl
  exact bk_2_freedOf_0 hn hsh cx B.returns B.notSynchronized h hw (hm_L0 _ _) hl
/-! ===== HeapGames$Layouts.kindAt(II)I ===== -/
theorem d_2_kindAt_0 : decode prog_4_method_10_code 0 = .ok (.iload_n 1, 1) := by decide +kernel
theorem d_2_kindAt_1 : decode prog_4_method_10_code 1 = .ok (.istore_n 3, 1) := by decide +kernel
theorem d_2_kindAt_2 : decode prog_4_method_10_code 2 = .ok (.aload_n 0, 1) := by decide +kernel
theorem d_2_kindAt_3 : decode prog_4_method_10_code 3 = .ok (.getfield 23, 3) := by decide +kernel
theorem d_2_kindAt_6 : decode prog_4_method_10_code 6 = .ok (.iload_n 1, 1) := by decide +kernel
theorem d_2_kindAt_7 : decode prog_4_method_10_code 7 = .ok (.invokevirtual 48, 3) := by decide +kernel
theorem d_2_kindAt_10 : decode prog_4_method_10_code 10 = .ok (.iconst 1, 1) := by decide +kernel
theorem d_2_kindAt_11 : decode prog_4_method_10_code 11 = .ok (.isub, 1) := by decide +kernel
theorem d_2_kindAt_12 : decode prog_4_method_10_code 12 = .ok (.iload_n 2, 1) := by decide +kernel
theorem d_2_kindAt_13 : decode prog_4_method_10_code 13 = .ok (.isub, 1) := by decide +kernel
theorem d_2_kindAt_14 : decode prog_4_method_10_code 14 = .ok (.istore 4, 2) := by decide +kernel
theorem d_2_kindAt_16 : decode prog_4_method_10_code 16 = .ok (.iload 4, 2) := by decide +kernel
theorem d_2_kindAt_18 : decode prog_4_method_10_code 18 = .ok (.ifCond .le 18, 3) := by decide +kernel
theorem d_2_kindAt_21 : decode prog_4_method_10_code 21 = .ok (.aload_n 0, 1) := by decide +kernel
theorem d_2_kindAt_22 : decode prog_4_method_10_code 22 = .ok (.getfield 14, 3) := by decide +kernel
theorem d_2_kindAt_25 : decode prog_4_method_10_code 25 = .ok (.iload_n 3, 1) := by decide +kernel
theorem d_2_kindAt_26 : decode prog_4_method_10_code 26 = .ok (.invokevirtual 48, 3) := by decide +kernel
theorem d_2_kindAt_29 : decode prog_4_method_10_code 29 = .ok (.istore_n 3, 1) := by decide +kernel
theorem d_2_kindAt_30 : decode prog_4_method_10_code 30 = .ok (.iinc 4 (-1), 3) := by decide +kernel
theorem d_2_kindAt_33 : decode prog_4_method_10_code 33 = .ok (.goto (-17), 3) := by decide +kernel
theorem d_2_kindAt_36 : decode prog_4_method_10_code 36 = .ok (.aload_n 0, 1) := by decide +kernel
theorem d_2_kindAt_37 : decode prog_4_method_10_code 37 = .ok (.getfield 20, 3) := by decide +kernel
theorem d_2_kindAt_40 : decode prog_4_method_10_code 40 = .ok (.iload_n 3, 1) := by decide +kernel
theorem d_2_kindAt_41 : decode prog_4_method_10_code 41 = .ok (.invokevirtual 48, 3) := by decide +kernel
theorem d_2_kindAt_44 : decode prog_4_method_10_code 44 = .ok (.ireturn, 1) := by decide +kernel
def wb_2_kindAt_36 (Q : Int32 → hm_S → hm_T → Prop) (x3 : Int32) (S : hm_S) (T : hm_T) : Prop :=
  wp_5_get 7 1215 x3 S T (fun r2 S2 T2 => Q r2 S2 T2)
set_option maxHeartbeats 4000000 in
set_option maxRecDepth 20000 in
theorem bk_2_kindAt_36 {Q : Int32 → hm_S → hm_T → Prop} (hn : 19 ≤ n) (hsh : ∀ i, 1 ≤ i → i < 19 → sh i = shX i) (cx : hm_cx G p s m args c prog_4_method_10_code 5 "HeapGames$Layouts") (hr : meth.sig.returnType = some .int) (hlk : meth.locks = false) {x3 : Int32} {S : hm_S} {T : hm_T} {H : Heap} {locs : List Loc} {ls : Array Slot} (h : wb_2_kindAt_36 Q x3 S T) (hw : hm_w G H0 o n sh S T H) (hL : hm_L o n locs) (hl : lv_has ls 5 [(0, .ref (o + 4)), (3, .int x3)]) : W p l e rm_2_kindAt s m args below meth c H locs 0 0 (MQ below (hm_Qi G H0 o n sh Q) args s 0 0 (t_fr o (o + n))) (F0 m 36 ls []) := by
  have hx := cx.1.1
  have hb := cx.1.2.1
  unfold wb_2_kindAt_36 at h
  refine lv_aload_n hx hb d_2_kindAt_36 rfl (lv_at hl 0 rfl) ?_
  refine gf_2_20 cx hw (i := 4) (r := 7) (Nat.lt_of_lt_of_le (by decide : 4 < 19) hn) ((hsh 4 (by decide) (by decide)).trans sx_4) rfl d_2_kindAt_37 ?_
  refine lv_iload_n hx hb d_2_kindAt_40 rfl (lv_at hl 1 rfl) ?_
  refine hm_calli (hm_rV (i := 7) (As := [.int x3]) (rest := []) cx hw (ct_5_get (Nat.lt_of_lt_of_le (by decide : 8 < 19) hn) ((hsh 7 (by decide) (by decide)).trans sx_7) ((hsh 8 (by decide) (by decide)).trans sx_8) h) (mw_2_48 cx.1.2.2.2.2 ⟨Nat.le_of_ble_eq_true rfl, Nat.le_of_ble_eq_true rfl⟩) (Nat.lt_of_lt_of_le (by decide : 7 < 19) hn) ((hsh 7 (by decide) (by decide)).trans sx_7) rfl rfl hl.1 rfl (Nat.le_of_ble_eq_true rfl) d_2_kindAt_41 ⟨Nat.zero_le _, Nat.zero_le _⟩) hL (fun r2 S2 T2 H locs h hw hL => ?_)
  exact W.iret hx hb hr (fun t ht _ => ⟨_, _, _, rfl, h, by rw [ht]; exact hw⟩) hL d_2_kindAt_44
def wb_2_kindAt_16 (Q : Int32 → hm_S → hm_T → Prop) (K16 : Int32 → Int32 → hm_S → hm_T → Prop) (x3 : Int32) (x4 : Int32) (S : hm_S) (T : hm_T) : Prop :=
  (if x4 ≤ 0 then wb_2_kindAt_36 Q x3 S T else wp_5_get 5 1215 x3 S T (fun r3 S3 T3 => K16 r3 (x4 + (-1)) S3 T3))
set_option maxHeartbeats 4000000 in
set_option maxRecDepth 20000 in
theorem bk_2_kindAt_16 {Q : Int32 → hm_S → hm_T → Prop} {K16 : Int32 → Int32 → hm_S → hm_T → Prop} (hn : 19 ≤ n) (hsh : ∀ i, 1 ≤ i → i < 19 → sh i = shX i) (cx : hm_cx G p s m args c prog_4_method_10_code 5 "HeapGames$Layouts") (hr : meth.sig.returnType = some .int) (hlk : meth.locks = false) (k16 : ∀ (x3 : Int32) (x4 : Int32) (S : hm_S) (T : hm_T) (H : Heap) (locs : List Loc) (ls : Array Slot), K16 x3 x4 S T → hm_w G H0 o n sh S T H → hm_L o n locs → lv_has ls 5 [(0, .ref (o + 4)), (3, .int x3), (4, .int x4)] → W p l e rm_2_kindAt s m args below meth c H locs 0 0 (MQ below (hm_Qi G H0 o n sh Q) args s 0 0 (t_fr o (o + n))) (F0 m 16 ls [])) {x3 : Int32} {x4 : Int32} {S : hm_S} {T : hm_T} {H : Heap} {locs : List Loc} {ls : Array Slot} (h : wb_2_kindAt_16 Q K16 x3 x4 S T) (hw : hm_w G H0 o n sh S T H) (hL : hm_L o n locs) (hl : lv_has ls 5 [(0, .ref (o + 4)), (3, .int x3), (4, .int x4)]) : W p l e rm_2_kindAt s m args below meth c H locs 0 0 (MQ below (hm_Qi G H0 o n sh Q) args s 0 0 (t_fr o (o + n))) (F0 m 16 ls []) := by
  have hx := cx.1.1
  have hb := cx.1.2.1
  unfold wb_2_kindAt_16 at h
  refine lv_iload hx hb d_2_kindAt_16 (lv_at hl 2 rfl) ?_
  refine lv_if_le (tgt := 36) hx hb d_2_kindAt_18 (by decide) (fun hc => ?_) (fun hc => ?_)
  · replace h := hm_pos hc h
    exact bk_2_kindAt_36 hn hsh cx hr hlk h hw hL (lv_sub hl [0, 1] rfl)
  · replace h := hm_neg hc h
    refine lv_aload_n hx hb d_2_kindAt_21 rfl (lv_at hl 0 rfl) ?_
    refine gf_2_14 cx hw (i := 4) (r := 5) (Nat.lt_of_lt_of_le (by decide : 4 < 19) hn) ((hsh 4 (by decide) (by decide)).trans sx_4) rfl d_2_kindAt_22 ?_
    refine lv_iload_n hx hb d_2_kindAt_25 rfl (lv_at hl 1 rfl) ?_
    refine hm_calli (hm_rV (i := 5) (As := [.int x3]) (rest := []) cx hw (ct_5_get (Nat.lt_of_lt_of_le (by decide : 6 < 19) hn) ((hsh 5 (by decide) (by decide)).trans sx_5) ((hsh 6 (by decide) (by decide)).trans sx_6) h) (mw_2_48 cx.1.2.2.2.2 ⟨Nat.le_of_ble_eq_true rfl, Nat.le_of_ble_eq_true rfl⟩) (Nat.lt_of_lt_of_le (by decide : 5 < 19) hn) ((hsh 5 (by decide) (by decide)).trans sx_5) rfl rfl hl.1 rfl (Nat.le_of_ble_eq_true rfl) d_2_kindAt_26 ⟨Nat.zero_le _, Nat.zero_le _⟩) hL (fun r3 S3 T3 H locs h hw hL => ?_)
    refine lv_istore_n (lv' := [(3, .int r3), (0, .ref (o + 4)), (4, .int x4)]) hx hb d_2_kindAt_29 rfl hl (by decide) rfl (fun ls hl => ?_)
    refine lv_iinc (v := (x4 + (-1))) (lv' := [(4, .int (x4 + (-1))), (3, .int r3), (0, .ref (o + 4))]) hx hb d_2_kindAt_30 hl (k := 2) rfl rfl (by decide) rfl (fun ls hl => ?_)
    refine lv_goto (tgt := 16) hx hb d_2_kindAt_33 (by decide) ?_
    exact k16 _ _ _ _ _ _ _ h hw hL (lv_sub hl [2, 1, 0] rfl)
def wl_2_kindAt_16 (Q : Int32 → hm_S → hm_T → Prop) : Nat → Int32 → Int32 → hm_S → hm_T → Prop
  | 0, _, _, _, _ => False
  | f + 1, x3, x4, S, T => wb_2_kindAt_16 Q (wl_2_kindAt_16 Q f) x3 x4 S T
theorem lp_2_kindAt_16 {Q : Int32 → hm_S → hm_T → Prop} (hn : 19 ≤ n) (hsh : ∀ i, 1 ≤ i → i < 19 → sh i = shX i) (cx : hm_cx G p s m args c prog_4_method_10_code 5 "HeapGames$Layouts") (hr : meth.sig.returnType = some .int) (hlk : meth.locks = false) : ∀ (f : Nat) (x3 : Int32) (x4 : Int32) (S : hm_S) (T : hm_T) (H : Heap) (locs : List Loc) (ls : Array Slot), wl_2_kindAt_16 Q f x3 x4 S T → hm_w G H0 o n sh S T H → hm_L o n locs → lv_has ls 5 [(0, .ref (o + 4)), (3, .int x3), (4, .int x4)] → W p l e rm_2_kindAt s m args below meth c H locs 0 0 (MQ below (hm_Qi G H0 o n sh Q) args s 0 0 (t_fr o (o + n))) (F0 m 16 ls []) := by
  intro f
  induction f with
  | zero => intro x3 x4 S T H locs ls h; exact h.elim
  | succ f ih => intro x3 x4 S T H locs ls h hw hL hl; exact bk_2_kindAt_16 hn hsh cx hr hlk ih h hw hL hl
def wp_2_kindAt (x1 : Int32) (x2 : Int32) (S : hm_S) (T : hm_T) (Q : Int32 → hm_S → hm_T → Prop) : Prop :=
  wp_5_get 9 1215 x1 S T (fun r1 S1 T1 => ∃ f, wl_2_kindAt_16 Q f x1 ((r1 - 1) - x2) S1 T1)
set_option maxHeartbeats 4000000 in
set_option maxRecDepth 20000 in
theorem bk_2_kindAt_0 {Q : Int32 → hm_S → hm_T → Prop} (hn : 19 ≤ n) (hsh : ∀ i, 1 ≤ i → i < 19 → sh i = shX i) (cx : hm_cx G p s m args c prog_4_method_10_code 5 "HeapGames$Layouts") (hr : meth.sig.returnType = some .int) (hlk : meth.locks = false) {x1 : Int32} {x2 : Int32} {S : hm_S} {T : hm_T} {H : Heap} {locs : List Loc} {ls : Array Slot} (h : wp_2_kindAt x1 x2 S T Q) (hw : hm_w G H0 o n sh S T H) (hL : hm_L o n locs) (hl : lv_has ls 5 [(0, .ref (o + 4)), (1, .int x1), (2, .int x2)]) : W p l e rm_2_kindAt s m args below meth c H locs 0 0 (MQ below (hm_Qi G H0 o n sh Q) args s 0 0 (t_fr o (o + n))) (F0 m 0 ls []) := by
  have hx := cx.1.1
  have hb := cx.1.2.1
  unfold wp_2_kindAt at h
  refine lv_iload_n hx hb d_2_kindAt_0 rfl (lv_at hl 1 rfl) ?_
  refine lv_istore_n (lv' := [(3, .int x1), (0, .ref (o + 4)), (1, .int x1), (2, .int x2)]) hx hb d_2_kindAt_1 rfl hl (by decide) rfl (fun ls hl => ?_)
  refine lv_aload_n hx hb d_2_kindAt_2 rfl (lv_at hl 1 rfl) ?_
  refine gf_2_23 cx hw (i := 4) (r := 9) (Nat.lt_of_lt_of_le (by decide : 4 < 19) hn) ((hsh 4 (by decide) (by decide)).trans sx_4) rfl d_2_kindAt_3 ?_
  refine lv_iload_n hx hb d_2_kindAt_6 rfl (lv_at hl 2 rfl) ?_
  refine hm_calli (hm_rV (i := 9) (As := [.int x1]) (rest := []) cx hw (ct_5_get (Nat.lt_of_lt_of_le (by decide : 10 < 19) hn) ((hsh 9 (by decide) (by decide)).trans sx_9) ((hsh 10 (by decide) (by decide)).trans sx_10) h) (mw_2_48 cx.1.2.2.2.2 ⟨Nat.le_of_ble_eq_true rfl, Nat.le_of_ble_eq_true rfl⟩) (Nat.lt_of_lt_of_le (by decide : 9 < 19) hn) ((hsh 9 (by decide) (by decide)).trans sx_9) rfl rfl hl.1 rfl (Nat.le_of_ble_eq_true rfl) d_2_kindAt_7 ⟨Nat.zero_le _, Nat.zero_le _⟩) hL (fun r1 S1 T1 H locs h hw hL => ?_)
  refine lv_iconst (v := 1) hx hb d_2_kindAt_10 (by decide) ?_
  refine lv_isub hx hb d_2_kindAt_11 ?_
  refine lv_iload_n hx hb d_2_kindAt_12 rfl (lv_at hl 3 rfl) ?_
  refine lv_isub hx hb d_2_kindAt_13 ?_
  refine lv_istore (lv' := [(4, .int ((r1 - 1) - x2)), (3, .int x1), (0, .ref (o + 4)), (1, .int x1), (2, .int x2)]) hx hb d_2_kindAt_14 hl (by decide) rfl (fun ls hl => ?_)
  obtain ⟨f, h⟩ := h
  exact lp_2_kindAt_16 hn hsh cx hr hlk f _ _ _ _ _ _ _ h hw hL (lv_sub hl [2, 1, 0] rfl)
set_option maxHeartbeats 4000000 in
set_option maxRecDepth 20000 in
theorem ct_2_kindAt {x1 : Int32} {x2 : Int32} {S : hm_S} {T : hm_T} {Q : Int32 → hm_S → hm_T → Prop} (hn : 19 ≤ n) (hsh : ∀ i, 1 ≤ i → i < 19 → sh i = shX i) (h : wp_2_kindAt x1 x2 S T Q) : hm_M l G H0 o n sh y_2_kindAt prog_4_method_10_code 5 (some .int) rm_2_kindAt S T [.ref (o + 4), .int x1, .int x2] (hm_Qi G H0 o n sh Q) := by
  refine Met.ofW (cc := prog_4_method_10_code) (maxL := 5) (ret := some .int) (by decide) rfl ?_
  intro p e s m args below meth c s₁ B hml hv
  obtain ⟨rfl, hK, hw⟩ := hv
  have cx : hm_cx G p s m _ c prog_4_method_10_code 5 "HeapGames$Layouts" := ⟨⟨B.exec, B.bytes, hml, findClass_of_methodNamed B.named, fun w hq => atoms_spec (ws := hm_ws y_2_kindAt prog_4_method_10_code 5 (some .int)) B.pre w (List.mem_cons_of_mem _ hq)⟩, hK⟩
  have hl := lv_entry ([.ref (o + 4), .int x1, .int x2]) (n := 5) (Nat.le_of_ble_eq_true rfl)
  rw [lg_entry_eq]
  generalize (lg_sl ([.ref (o + 4), .int x1, .int x2]) ++ List.replicate (5 - (lg_sl ([.ref (o + 4), .int x1, .int x2])).length) Slot.unset).toArray = ls at hl ⊢
  have hl : lv_has ls 5 [(0, .ref (o + 4)), (1, .int x1), (2, .int x2)] := hl
  exact bk_2_kindAt_0 hn hsh cx B.returns B.notSynchronized h hw (hm_L0 _ _) hl
/-! ===== HeapGames$Layouts.without(II)I ===== -/
theorem d_2_without_0 : decode prog_4_method_11_code 0 = .ok (.iconst 0, 1) := by decide +kernel
theorem d_2_without_1 : decode prog_4_method_11_code 1 = .ok (.istore_n 3, 1) := by decide +kernel
theorem d_2_without_2 : decode prog_4_method_11_code 2 = .ok (.iconst 0, 1) := by decide +kernel
theorem d_2_without_3 : decode prog_4_method_11_code 3 = .ok (.istore 4, 2) := by decide +kernel
theorem d_2_without_5 : decode prog_4_method_11_code 5 = .ok (.iload 4, 2) := by decide +kernel
theorem d_2_without_7 : decode prog_4_method_11_code 7 = .ok (.aload_n 0, 1) := by decide +kernel
theorem d_2_without_8 : decode prog_4_method_11_code 8 = .ok (.getfield 23, 3) := by decide +kernel
theorem d_2_without_11 : decode prog_4_method_11_code 11 = .ok (.iload_n 1, 1) := by decide +kernel
theorem d_2_without_12 : decode prog_4_method_11_code 12 = .ok (.invokevirtual 48, 3) := by decide +kernel
theorem d_2_without_15 : decode prog_4_method_11_code 15 = .ok (.if_icmp .ge 28, 3) := by decide +kernel
theorem d_2_without_18 : decode prog_4_method_11_code 18 = .ok (.iload 4, 2) := by decide +kernel
theorem d_2_without_20 : decode prog_4_method_11_code 20 = .ok (.iload_n 2, 1) := by decide +kernel
theorem d_2_without_21 : decode prog_4_method_11_code 21 = .ok (.if_icmp .eq 16, 3) := by decide +kernel
theorem d_2_without_24 : decode prog_4_method_11_code 24 = .ok (.aload_n 0, 1) := by decide +kernel
theorem d_2_without_25 : decode prog_4_method_11_code 25 = .ok (.iload_n 3, 1) := by decide +kernel
theorem d_2_without_26 : decode prog_4_method_11_code 26 = .ok (.aload_n 0, 1) := by decide +kernel
theorem d_2_without_27 : decode prog_4_method_11_code 27 = .ok (.iload_n 1, 1) := by decide +kernel
theorem d_2_without_28 : decode prog_4_method_11_code 28 = .ok (.iload 4, 2) := by decide +kernel
theorem d_2_without_30 : decode prog_4_method_11_code 30 = .ok (.invokevirtual 69, 3) := by decide +kernel
theorem d_2_without_33 : decode prog_4_method_11_code 33 = .ok (.invokevirtual 59, 3) := by decide +kernel
theorem d_2_without_36 : decode prog_4_method_11_code 36 = .ok (.istore_n 3, 1) := by decide +kernel
theorem d_2_without_37 : decode prog_4_method_11_code 37 = .ok (.iinc 4 1, 3) := by decide +kernel
theorem d_2_without_40 : decode prog_4_method_11_code 40 = .ok (.goto (-35), 3) := by decide +kernel
theorem d_2_without_43 : decode prog_4_method_11_code 43 = .ok (.iload_n 3, 1) := by decide +kernel
theorem d_2_without_44 : decode prog_4_method_11_code 44 = .ok (.ireturn, 1) := by decide +kernel
def wb_2_without_37 (Q : Int32 → hm_S → hm_T → Prop) (K5 : Int32 → Int32 → Int32 → Int32 → hm_S → hm_T → Prop) (x1 : Int32) (x2 : Int32) (x3 : Int32) (x4 : Int32) (S : hm_S) (T : hm_T) : Prop :=
  K5 x1 x2 x3 (x4 + 1) S T
set_option maxHeartbeats 4000000 in
set_option maxRecDepth 20000 in
theorem bk_2_without_37 {Q : Int32 → hm_S → hm_T → Prop} {K5 : Int32 → Int32 → Int32 → Int32 → hm_S → hm_T → Prop} (hn : 19 ≤ n) (hsh : ∀ i, 1 ≤ i → i < 19 → sh i = shX i) (cx : hm_cx G p s m args c prog_4_method_11_code 5 "HeapGames$Layouts") (hr : meth.sig.returnType = some .int) (hlk : meth.locks = false) (k5 : ∀ (x1 : Int32) (x2 : Int32) (x3 : Int32) (x4 : Int32) (S : hm_S) (T : hm_T) (H : Heap) (locs : List Loc) (ls : Array Slot), K5 x1 x2 x3 x4 S T → hm_w G H0 o n sh S T H → hm_L o n locs → lv_has ls 5 [(0, .ref (o + 4)), (1, .int x1), (2, .int x2), (3, .int x3), (4, .int x4)] → W p l e rm_2_without s m args below meth c H locs 0 0 (MQ below (hm_Qi G H0 o n sh Q) args s 0 0 (t_fr o (o + n))) (F0 m 5 ls [])) {x1 : Int32} {x2 : Int32} {x3 : Int32} {x4 : Int32} {S : hm_S} {T : hm_T} {H : Heap} {locs : List Loc} {ls : Array Slot} (h : wb_2_without_37 Q K5 x1 x2 x3 x4 S T) (hw : hm_w G H0 o n sh S T H) (hL : hm_L o n locs) (hl : lv_has ls 5 [(0, .ref (o + 4)), (1, .int x1), (2, .int x2), (3, .int x3), (4, .int x4)]) : W p l e rm_2_without s m args below meth c H locs 0 0 (MQ below (hm_Qi G H0 o n sh Q) args s 0 0 (t_fr o (o + n))) (F0 m 37 ls []) := by
  have hx := cx.1.1
  have hb := cx.1.2.1
  unfold wb_2_without_37 at h
  refine lv_iinc (v := (x4 + 1)) (lv' := [(4, .int (x4 + 1)), (0, .ref (o + 4)), (1, .int x1), (2, .int x2), (3, .int x3)]) hx hb d_2_without_37 hl (k := 4) rfl rfl (by decide) rfl (fun ls hl => ?_)
  refine lv_goto (tgt := 5) hx hb d_2_without_40 (by decide) ?_
  exact k5 _ _ _ _ _ _ _ _ _ h hw hL (lv_sub hl [1, 2, 3, 4, 0] rfl)
def wb_2_without_5 (Q : Int32 → hm_S → hm_T → Prop) (K5 : Int32 → Int32 → Int32 → Int32 → hm_S → hm_T → Prop) (x1 : Int32) (x2 : Int32) (x3 : Int32) (x4 : Int32) (S : hm_S) (T : hm_T) : Prop :=
  wp_5_get 9 1215 x1 S T (fun r1 S1 T1 => (if r1 ≤ x4 then Q x3 S1 T1 else (if x4 = x2 then wb_2_without_37 Q K5 x1 x2 x3 x4 S1 T1 else wp_2_kindAt x1 x4 S1 T1 (fun r2 S2 T2 => wp_2_join x3 r2 S2 T2 (fun r3 S3 T3 => wb_2_without_37 Q K5 x1 x2 r3 x4 S3 T3)))))
set_option maxHeartbeats 4000000 in
set_option maxRecDepth 20000 in
theorem bk_2_without_5 {Q : Int32 → hm_S → hm_T → Prop} {K5 : Int32 → Int32 → Int32 → Int32 → hm_S → hm_T → Prop} (hn : 19 ≤ n) (hsh : ∀ i, 1 ≤ i → i < 19 → sh i = shX i) (cx : hm_cx G p s m args c prog_4_method_11_code 5 "HeapGames$Layouts") (hr : meth.sig.returnType = some .int) (hlk : meth.locks = false) (k5 : ∀ (x1 : Int32) (x2 : Int32) (x3 : Int32) (x4 : Int32) (S : hm_S) (T : hm_T) (H : Heap) (locs : List Loc) (ls : Array Slot), K5 x1 x2 x3 x4 S T → hm_w G H0 o n sh S T H → hm_L o n locs → lv_has ls 5 [(0, .ref (o + 4)), (1, .int x1), (2, .int x2), (3, .int x3), (4, .int x4)] → W p l e rm_2_without s m args below meth c H locs 0 0 (MQ below (hm_Qi G H0 o n sh Q) args s 0 0 (t_fr o (o + n))) (F0 m 5 ls [])) {x1 : Int32} {x2 : Int32} {x3 : Int32} {x4 : Int32} {S : hm_S} {T : hm_T} {H : Heap} {locs : List Loc} {ls : Array Slot} (h : wb_2_without_5 Q K5 x1 x2 x3 x4 S T) (hw : hm_w G H0 o n sh S T H) (hL : hm_L o n locs) (hl : lv_has ls 5 [(0, .ref (o + 4)), (1, .int x1), (2, .int x2), (3, .int x3), (4, .int x4)]) : W p l e rm_2_without s m args below meth c H locs 0 0 (MQ below (hm_Qi G H0 o n sh Q) args s 0 0 (t_fr o (o + n))) (F0 m 5 ls []) := by
  have hx := cx.1.1
  have hb := cx.1.2.1
  unfold wb_2_without_5 at h
  refine lv_iload hx hb d_2_without_5 (lv_at hl 4 rfl) ?_
  refine lv_aload_n hx hb d_2_without_7 rfl (lv_at hl 0 rfl) ?_
  refine gf_2_23 cx hw (i := 4) (r := 9) (Nat.lt_of_lt_of_le (by decide : 4 < 19) hn) ((hsh 4 (by decide) (by decide)).trans sx_4) rfl d_2_without_8 ?_
  refine lv_iload_n hx hb d_2_without_11 rfl (lv_at hl 1 rfl) ?_
  refine hm_calli (hm_rV (i := 9) (As := [.int x1]) (rest := [.int x4]) cx hw (ct_5_get (Nat.lt_of_lt_of_le (by decide : 10 < 19) hn) ((hsh 9 (by decide) (by decide)).trans sx_9) ((hsh 10 (by decide) (by decide)).trans sx_10) h) (mw_2_48 cx.1.2.2.2.2 ⟨Nat.le_of_ble_eq_true rfl, Nat.le_of_ble_eq_true rfl⟩) (Nat.lt_of_lt_of_le (by decide : 9 < 19) hn) ((hsh 9 (by decide) (by decide)).trans sx_9) rfl rfl hl.1 rfl (Nat.le_of_ble_eq_true rfl) d_2_without_12 ⟨Nat.zero_le _, Nat.zero_le _⟩) hL (fun r1 S1 T1 H locs h hw hL => ?_)
  refine lv_icmp_ge (tgt := 43) hx hb d_2_without_15 (by decide) (fun hc => ?_) (fun hc => ?_)
  · replace h := hm_pos hc h
    refine lv_iload_n hx hb d_2_without_43 rfl (lv_at hl 3 rfl) ?_
    exact W.iret hx hb hr (fun t ht _ => ⟨_, _, _, rfl, h, by rw [ht]; exact hw⟩) hL d_2_without_44
  · replace h := hm_neg hc h
    refine lv_iload hx hb d_2_without_18 (lv_at hl 4 rfl) ?_
    refine lv_iload_n hx hb d_2_without_20 rfl (lv_at hl 2 rfl) ?_
    refine lv_icmp_eq (tgt := 37) hx hb d_2_without_21 (by decide) (fun hc => ?_) (fun hc => ?_)
    · replace h := hm_pos hc h
      exact bk_2_without_37 hn hsh cx hr hlk k5 h hw hL (lv_sub hl [0, 1, 2, 3, 4] rfl)
    · replace h := hm_neg hc h
      refine lv_aload_n hx hb d_2_without_24 rfl (lv_at hl 0 rfl) ?_
      refine lv_iload_n hx hb d_2_without_25 rfl (lv_at hl 3 rfl) ?_
      refine lv_aload_n hx hb d_2_without_26 rfl (lv_at hl 0 rfl) ?_
      refine lv_iload_n hx hb d_2_without_27 rfl (lv_at hl 1 rfl) ?_
      refine lv_iload hx hb d_2_without_28 (lv_at hl 4 rfl) ?_
      refine hm_calli (hm_rV (i := 4) (As := [.int x1, .int x4]) (rest := [.int x3, .ref (o + 4)]) cx hw (ct_2_kindAt hn hsh h) (mw_2_69 cx.1.2.2.2.2 ⟨Nat.le_of_ble_eq_true rfl, Nat.le_of_ble_eq_true rfl⟩) (Nat.lt_of_lt_of_le (by decide : 4 < 19) hn) ((hsh 4 (by decide) (by decide)).trans sx_4) rfl rfl hl.1 rfl (Nat.le_of_ble_eq_true rfl) d_2_without_30 ⟨Nat.zero_le _, Nat.zero_le _⟩) hL (fun r2 S2 T2 H locs h hw hL => ?_)
      refine hm_calli (hm_rV (i := 4) (As := [.int x3, .int r2]) (rest := []) cx hw (ct_2_join hn hsh h) (mw_2_59 cx.1.2.2.2.2 ⟨Nat.le_of_ble_eq_true rfl, Nat.le_of_ble_eq_true rfl⟩) (Nat.lt_of_lt_of_le (by decide : 4 < 19) hn) ((hsh 4 (by decide) (by decide)).trans sx_4) rfl rfl hl.1 rfl (Nat.le_of_ble_eq_true rfl) d_2_without_33 ⟨Nat.zero_le _, Nat.zero_le _⟩) hL (fun r3 S3 T3 H locs h hw hL => ?_)
      refine lv_istore_n (lv' := [(3, .int r3), (0, .ref (o + 4)), (1, .int x1), (2, .int x2), (4, .int x4)]) hx hb d_2_without_36 rfl hl (by decide) rfl (fun ls hl => ?_)
      exact bk_2_without_37 hn hsh cx hr hlk k5 h hw hL (lv_sub hl [1, 2, 3, 0, 4] rfl)
def wl_2_without_5 (Q : Int32 → hm_S → hm_T → Prop) : Nat → Int32 → Int32 → Int32 → Int32 → hm_S → hm_T → Prop
  | 0, _, _, _, _, _, _ => False
  | f + 1, x1, x2, x3, x4, S, T => wb_2_without_5 Q (wl_2_without_5 Q f) x1 x2 x3 x4 S T
theorem lp_2_without_5 {Q : Int32 → hm_S → hm_T → Prop} (hn : 19 ≤ n) (hsh : ∀ i, 1 ≤ i → i < 19 → sh i = shX i) (cx : hm_cx G p s m args c prog_4_method_11_code 5 "HeapGames$Layouts") (hr : meth.sig.returnType = some .int) (hlk : meth.locks = false) : ∀ (f : Nat) (x1 : Int32) (x2 : Int32) (x3 : Int32) (x4 : Int32) (S : hm_S) (T : hm_T) (H : Heap) (locs : List Loc) (ls : Array Slot), wl_2_without_5 Q f x1 x2 x3 x4 S T → hm_w G H0 o n sh S T H → hm_L o n locs → lv_has ls 5 [(0, .ref (o + 4)), (1, .int x1), (2, .int x2), (3, .int x3), (4, .int x4)] → W p l e rm_2_without s m args below meth c H locs 0 0 (MQ below (hm_Qi G H0 o n sh Q) args s 0 0 (t_fr o (o + n))) (F0 m 5 ls []) := by
  intro f
  induction f with
  | zero => intro x1 x2 x3 x4 S T H locs ls h; exact h.elim
  | succ f ih => intro x1 x2 x3 x4 S T H locs ls h hw hL hl; exact bk_2_without_5 hn hsh cx hr hlk ih h hw hL hl
def wp_2_without (x1 : Int32) (x2 : Int32) (S : hm_S) (T : hm_T) (Q : Int32 → hm_S → hm_T → Prop) : Prop :=
  ∃ f, wl_2_without_5 Q f x1 x2 0 0 S T
set_option maxHeartbeats 4000000 in
set_option maxRecDepth 20000 in
theorem bk_2_without_0 {Q : Int32 → hm_S → hm_T → Prop} (hn : 19 ≤ n) (hsh : ∀ i, 1 ≤ i → i < 19 → sh i = shX i) (cx : hm_cx G p s m args c prog_4_method_11_code 5 "HeapGames$Layouts") (hr : meth.sig.returnType = some .int) (hlk : meth.locks = false) {x1 : Int32} {x2 : Int32} {S : hm_S} {T : hm_T} {H : Heap} {locs : List Loc} {ls : Array Slot} (h : wp_2_without x1 x2 S T Q) (hw : hm_w G H0 o n sh S T H) (hL : hm_L o n locs) (hl : lv_has ls 5 [(0, .ref (o + 4)), (1, .int x1), (2, .int x2)]) : W p l e rm_2_without s m args below meth c H locs 0 0 (MQ below (hm_Qi G H0 o n sh Q) args s 0 0 (t_fr o (o + n))) (F0 m 0 ls []) := by
  have hx := cx.1.1
  have hb := cx.1.2.1
  unfold wp_2_without at h
  refine lv_iconst (v := 0) hx hb d_2_without_0 (by decide) ?_
  refine lv_istore_n (lv' := [(3, .int 0), (0, .ref (o + 4)), (1, .int x1), (2, .int x2)]) hx hb d_2_without_1 rfl hl (by decide) rfl (fun ls hl => ?_)
  refine lv_iconst (v := 0) hx hb d_2_without_2 (by decide) ?_
  refine lv_istore (lv' := [(4, .int 0), (3, .int 0), (0, .ref (o + 4)), (1, .int x1), (2, .int x2)]) hx hb d_2_without_3 hl (by decide) rfl (fun ls hl => ?_)
  obtain ⟨f, h⟩ := h
  exact lp_2_without_5 hn hsh cx hr hlk f _ _ _ _ _ _ _ _ _ h hw hL (lv_sub hl [2, 3, 4, 1, 0] rfl)
set_option maxHeartbeats 4000000 in
set_option maxRecDepth 20000 in
theorem ct_2_without {x1 : Int32} {x2 : Int32} {S : hm_S} {T : hm_T} {Q : Int32 → hm_S → hm_T → Prop} (hn : 19 ≤ n) (hsh : ∀ i, 1 ≤ i → i < 19 → sh i = shX i) (h : wp_2_without x1 x2 S T Q) : hm_M l G H0 o n sh y_2_without prog_4_method_11_code 5 (some .int) rm_2_without S T [.ref (o + 4), .int x1, .int x2] (hm_Qi G H0 o n sh Q) := by
  refine Met.ofW (cc := prog_4_method_11_code) (maxL := 5) (ret := some .int) (by decide) rfl ?_
  intro p e s m args below meth c s₁ B hml hv
  obtain ⟨rfl, hK, hw⟩ := hv
  have cx : hm_cx G p s m _ c prog_4_method_11_code 5 "HeapGames$Layouts" := ⟨⟨B.exec, B.bytes, hml, findClass_of_methodNamed B.named, fun w hq => atoms_spec (ws := hm_ws y_2_without prog_4_method_11_code 5 (some .int)) B.pre w (List.mem_cons_of_mem _ hq)⟩, hK⟩
  have hl := lv_entry ([.ref (o + 4), .int x1, .int x2]) (n := 5) (Nat.le_of_ble_eq_true rfl)
  rw [lg_entry_eq]
  generalize (lg_sl ([.ref (o + 4), .int x1, .int x2]) ++ List.replicate (5 - (lg_sl ([.ref (o + 4), .int x1, .int x2])).length) Slot.unset).toArray = ls at hl ⊢
  have hl : lv_has ls 5 [(0, .ref (o + 4)), (1, .int x1), (2, .int x2)] := hl
  exact bk_2_without_0 hn hsh cx B.returns B.notSynchronized h hw (hm_L0 _ _) hl
end WK
