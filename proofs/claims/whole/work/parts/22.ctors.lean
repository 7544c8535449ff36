section WC
variable {p : Program} {l : Launch} {e : Env} {s : State} {m : MethodId} {args : Array Value} {below : List Frame} {meth : Method} {c : Code} {G : hm_G} {H0 : Heap} {o n : Nat} {sh : hm_Sh}
/-! ===== HeapGames$Rules ===== -/
theorem d_6_init_0 : decode prog_8_method_1_code 0 = .ok (.aload_n 0, 1) := by decide +kernel
theorem d_6_init_1 : decode prog_8_method_1_code 1 = .ok (.invokespecial 3, 3) := by decide +kernel
theorem d_6_init_4 : decode prog_8_method_1_code 4 = .ok (.aload_n 0, 1) := by decide +kernel
theorem d_6_init_5 : decode prog_8_method_1_code 5 = .ok (.new 9, 3) := by decide +kernel
theorem d_6_init_8 : decode prog_8_method_1_code 8 = .ok (.dup, 1) := by decide +kernel
theorem d_6_init_9 : decode prog_8_method_1_code 9 = .ok (.bipush 11, 2) := by decide +kernel
theorem d_6_init_11 : decode prog_8_method_1_code 11 = .ok (.invokespecial 11, 3) := by decide +kernel
theorem d_6_init_14 : decode prog_8_method_1_code 14 = .ok (.putfield 14, 3) := by decide +kernel
theorem d_6_init_17 : decode prog_8_method_1_code 17 = .ok (.return_, 1) := by decide +kernel
def wp_6_init (S : hm_S) (T : hm_T) (Q : hm_S → hm_T → Prop) : Prop :=
  ((∀ k, S 2 k = 0) ∧ (∀ k, T 2 k = 0) ∧ wp_5_init 3 S T (fun S1 T1 => Q S1 T1))
set_option maxHeartbeats 4000000 in
set_option maxRecDepth 20000 in
theorem bk_6_init_0 {Q : hm_S → hm_T → Prop} (cx : hm_cx G p s m args c prog_8_method_1_code 1 "HeapGames$Rules") (hr : meth.sig.returnType = none) (hlk : meth.locks = false) (hin : meth.name = "<init>") {S : hm_S} {T : hm_T} {H : Heap} {locs : List Loc} {ls : Array Slot} (h : wp_6_init S T Q) (hw : hm_wc G H0 o lc_1 S T H) (hL : hm_Lc o locs) (hl : lv_has ls 1 [(0, .ref (o + 1))]) : W p l e rm_6_init s m args below meth c H locs 0 0 (MQ below (hm_Qcc G H0 o lc_0 Q) args s 2 12 (hm_ge o)) (F0 m 0 ls []) := by
  have hx := cx.1.1
  have hb := cx.1.2.1
  unfold wp_6_init at h
  refine lv_aload_n hx hb d_6_init_0 rfl (lv_at hl 0 rfl) ?_
  refine W.objInit hx hb cx.1.2.2.2.1 (cx.1.2.2.2.2 _ hq_105) (cx.1.2.2.2.2 _ hq_98) (cx.1.2.2.2.2 _ hq_99) rfl (hl.1.trans cx.1.2.2.1.symm) rfl d_6_init_1 (Nat.le_of_ble_eq_true rfl) (Nat.le_of_ble_eq_true rfl) ?_
  refine lv_aload_n hx hb d_6_init_4 rfl (lv_at hl 0 rfl) ?_
  obtain ⟨h0, h1, h⟩ := h
  refine hm_cnew (ci := 5) cx hw hin_5 tyX5 tyX5_ok rfl hq_106 hq_107 hq_76 [1] dfX5 h0 h1 (Nat.le_of_ble_eq_true rfl) (Nat.le_of_ble_eq_true rfl) d_6_init_5 (fun H hw => ?_)
  replace hw : hm_wc G H0 o lc_2 _ _ H := hw
  refine lv_dup hx hb d_6_init_8 rfl ?_
  refine lv_bipush (v := 11) hx hb d_6_init_9 (by decide) ?_
  refine hm_cinit (hm_rI (i := 2) (As := [.int 11]) (rest := [.ref (o + 2), .ref (o + 1)]) cx hw (ct_5_init (L := 11) rfl rfl (by decide) h) (mi_6_11 (L := 11) cx.1.2.2.2.2 ⟨Nat.le_of_ble_eq_true rfl, Nat.le_of_ble_eq_true rfl⟩) rfl hl.1 rfl (Nat.le_of_ble_eq_true rfl) d_6_init_11 ⟨Nat.le_of_ble_eq_true rfl, Nat.le_of_ble_eq_true rfl⟩) hL (fun S1 T1 H locs h hw hL => ?_)
  replace hw : hm_wc G H0 o lc_3 _ _ H := hw
  refine hm_cputF (ci := 6) cx hw hin_6 tyX6 tyX6_ok nmX6 rfl 0 (by decide) hq_120 rfl rfl hin (i := 1) (r := 2) (fs := [1, 0, 0, 0]) rfl rfl rfl (by decide) hL d_6_init_14 (fun H locs hw hL => ?_)
  replace hw : hm_wc G H0 o lc_0 _ _ H := hw
  exact W.vret hx hb hr (fun t ht _ => ⟨_, _, rfl, h, by rw [ht]; exact hw⟩) hL d_6_init_17
set_option maxHeartbeats 4000000 in
set_option maxRecDepth 20000 in
theorem ct_6_init {S : hm_S} {T : hm_T} {Q : hm_S → hm_T → Prop} (h : wp_6_init S T Q) : Met l y_6_init (hm_ws y_6_init prog_8_method_1_code 1 none) rm_6_init (hm_Pcc G H0 o lc_1 S T [.ref (o + 1)]) (hm_Qcc G H0 o lc_0 Q) 2 12 (hm_ge o) := by
  refine Met.ofW (cc := prog_8_method_1_code) (maxL := 1) (ret := none) (by decide) rfl ?_
  intro p e s m args below meth c s₁ B hml hv
  obtain ⟨rfl, hK, hw⟩ := hv
  have cx : hm_cx G p s m _ c prog_8_method_1_code 1 "HeapGames$Rules" := ⟨⟨B.exec, B.bytes, hml, findClass_of_methodNamed B.named, fun w hq => atoms_spec (ws := hm_ws y_6_init prog_8_method_1_code 1 none) B.pre w (List.mem_cons_of_mem _ hq)⟩, hK⟩
  have hl := lv_entry ([.ref (o + 1)]) (n := 1) (Nat.le_of_ble_eq_true rfl)
  rw [lg_entry_eq]
  generalize (lg_sl ([.ref (o + 1)]) ++ List.replicate (1 - (lg_sl ([.ref (o + 1)])).length) Slot.unset).toArray = ls at hl ⊢
  have hl : lv_has ls 1 [(0, .ref (o + 1))] := hl
  exact bk_6_init_0 cx B.returns B.notSynchronized (name_of_methodNamed B.named B.method).1 h hw (hm_Lc0 _) hl
/-! ===== HeapGames$Layouts ===== -/
theorem d_2_init_0 : decode prog_4_method_1_code 0 = .ok (.aload_n 0, 1) := by decide +kernel
theorem d_2_init_1 : decode prog_4_method_1_code 1 = .ok (.invokespecial 3, 3) := by decide +kernel
theorem d_2_init_4 : decode prog_4_method_1_code 4 = .ok (.aload_n 0, 1) := by decide +kernel
theorem d_2_init_5 : decode prog_4_method_1_code 5 = .ok (.new 9, 3) := by decide +kernel
theorem d_2_init_8 : decode prog_4_method_1_code 8 = .ok (.dup, 1) := by decide +kernel
theorem d_2_init_9 : decode prog_4_method_1_code 9 = .ok (.sipush 1215, 3) := by decide +kernel
theorem d_2_init_12 : decode prog_4_method_1_code 12 = .ok (.invokespecial 11, 3) := by decide +kernel
theorem d_2_init_15 : decode prog_4_method_1_code 15 = .ok (.putfield 14, 3) := by decide +kernel
theorem d_2_init_18 : decode prog_4_method_1_code 18 = .ok (.aload_n 0, 1) := by decide +kernel
theorem d_2_init_19 : decode prog_4_method_1_code 19 = .ok (.new 9, 3) := by decide +kernel
theorem d_2_init_22 : decode prog_4_method_1_code 22 = .ok (.dup, 1) := by decide +kernel
theorem d_2_init_23 : decode prog_4_method_1_code 23 = .ok (.sipush 1215, 3) := by decide +kernel
theorem d_2_init_26 : decode prog_4_method_1_code 26 = .ok (.invokespecial 11, 3) := by decide +kernel
theorem d_2_init_29 : decode prog_4_method_1_code 29 = .ok (.putfield 20, 3) := by decide +kernel
theorem d_2_init_32 : decode prog_4_method_1_code 32 = .ok (.aload_n 0, 1) := by decide +kernel
theorem d_2_init_33 : decode prog_4_method_1_code 33 = .ok (.new 9, 3) := by decide +kernel
theorem d_2_init_36 : decode prog_4_method_1_code 36 = .ok (.dup, 1) := by decide +kernel
theorem d_2_init_37 : decode prog_4_method_1_code 37 = .ok (.sipush 1215, 3) := by decide +kernel
theorem d_2_init_40 : decode prog_4_method_1_code 40 = .ok (.invokespecial 11, 3) := by decide +kernel
theorem d_2_init_43 : decode prog_4_method_1_code 43 = .ok (.putfield 23, 3) := by decide +kernel
theorem d_2_init_46 : decode prog_4_method_1_code 46 = .ok (.aload_n 0, 1) := by decide +kernel
theorem d_2_init_47 : decode prog_4_method_1_code 47 = .ok (.new 9, 3) := by decide +kernel
theorem d_2_init_50 : decode prog_4_method_1_code 50 = .ok (.dup, 1) := by decide +kernel
theorem d_2_init_51 : decode prog_4_method_1_code 51 = .ok (.sipush 1215, 3) := by decide +kernel
theorem d_2_init_54 : decode prog_4_method_1_code 54 = .ok (.invokespecial 11, 3) := by decide +kernel
theorem d_2_init_57 : decode prog_4_method_1_code 57 = .ok (.putfield 26, 3) := by decide +kernel
theorem d_2_init_60 : decode prog_4_method_1_code 60 = .ok (.aload_n 0, 1) := by decide +kernel
theorem d_2_init_61 : decode prog_4_method_1_code 61 = .ok (.new 9, 3) := by decide +kernel
theorem d_2_init_64 : decode prog_4_method_1_code 64 = .ok (.dup, 1) := by decide +kernel
theorem d_2_init_65 : decode prog_4_method_1_code 65 = .ok (.sipush 1215, 3) := by decide +kernel
theorem d_2_init_68 : decode prog_4_method_1_code 68 = .ok (.invokespecial 11, 3) := by decide +kernel
theorem d_2_init_71 : decode prog_4_method_1_code 71 = .ok (.putfield 29, 3) := by decide +kernel
theorem d_2_init_74 : decode prog_4_method_1_code 74 = .ok (.aload_n 0, 1) := by decide +kernel
theorem d_2_init_75 : decode prog_4_method_1_code 75 = .ok (.new 9, 3) := by decide +kernel
theorem d_2_init_78 : decode prog_4_method_1_code 78 = .ok (.dup, 1) := by decide +kernel
theorem d_2_init_79 : decode prog_4_method_1_code 79 = .ok (.sipush 1215, 3) := by decide +kernel
theorem d_2_init_82 : decode prog_4_method_1_code 82 = .ok (.invokespecial 11, 3) := by decide +kernel
theorem d_2_init_85 : decode prog_4_method_1_code 85 = .ok (.putfield 32, 3) := by decide +kernel
theorem d_2_init_88 : decode prog_4_method_1_code 88 = .ok (.aload_n 0, 1) := by decide +kernel
theorem d_2_init_89 : decode prog_4_method_1_code 89 = .ok (.new 9, 3) := by decide +kernel
theorem d_2_init_92 : decode prog_4_method_1_code 92 = .ok (.dup, 1) := by decide +kernel
theorem d_2_init_93 : decode prog_4_method_1_code 93 = .ok (.sipush 24300, 3) := by decide +kernel
theorem d_2_init_96 : decode prog_4_method_1_code 96 = .ok (.invokespecial 11, 3) := by decide +kernel
theorem d_2_init_99 : decode prog_4_method_1_code 99 = .ok (.putfield 35, 3) := by decide +kernel
theorem d_2_init_102 : decode prog_4_method_1_code 102 = .ok (.aload_n 0, 1) := by decide +kernel
theorem d_2_init_103 : decode prog_4_method_1_code 103 = .ok (.iconst 1, 1) := by decide +kernel
theorem d_2_init_104 : decode prog_4_method_1_code 104 = .ok (.putfield 38, 3) := by decide +kernel
theorem d_2_init_107 : decode prog_4_method_1_code 107 = .ok (.iconst 0, 1) := by decide +kernel
theorem d_2_init_108 : decode prog_4_method_1_code 108 = .ok (.istore_n 1, 1) := by decide +kernel
theorem d_2_init_109 : decode prog_4_method_1_code 109 = .ok (.iload_n 1, 1) := by decide +kernel
theorem d_2_init_110 : decode prog_4_method_1_code 110 = .ok (.aload_n 0, 1) := by decide +kernel
theorem d_2_init_111 : decode prog_4_method_1_code 111 = .ok (.getfield 38, 3) := by decide +kernel
theorem d_2_init_114 : decode prog_4_method_1_code 114 = .ok (.if_icmp .ge 21, 3) := by decide +kernel
theorem d_2_init_117 : decode prog_4_method_1_code 117 = .ok (.iload_n 1, 1) := by decide +kernel
theorem d_2_init_118 : decode prog_4_method_1_code 118 = .ok (.sipush 1215, 3) := by decide +kernel
theorem d_2_init_121 : decode prog_4_method_1_code 121 = .ok (.if_icmp .ge 14, 3) := by decide +kernel
theorem d_2_init_124 : decode prog_4_method_1_code 124 = .ok (.aload_n 0, 1) := by decide +kernel
theorem d_2_init_125 : decode prog_4_method_1_code 125 = .ok (.iload_n 1, 1) := by decide +kernel
theorem d_2_init_126 : decode prog_4_method_1_code 126 = .ok (.invokevirtual 42, 3) := by decide +kernel
theorem d_2_init_129 : decode prog_4_method_1_code 129 = .ok (.iinc 1 1, 3) := by decide +kernel
theorem d_2_init_132 : decode prog_4_method_1_code 132 = .ok (.goto (-23), 3) := by decide +kernel
theorem d_2_init_135 : decode prog_4_method_1_code 135 = .ok (.iconst 1, 1) := by decide +kernel
theorem d_2_init_136 : decode prog_4_method_1_code 136 = .ok (.istore_n 1, 1) := by decide +kernel
theorem d_2_init_137 : decode prog_4_method_1_code 137 = .ok (.iload_n 1, 1) := by decide +kernel
theorem d_2_init_138 : decode prog_4_method_1_code 138 = .ok (.sipush 1215, 3) := by decide +kernel
theorem d_2_init_141 : decode prog_4_method_1_code 141 = .ok (.if_icmp .ge 14, 3) := by decide +kernel
theorem d_2_init_144 : decode prog_4_method_1_code 144 = .ok (.aload_n 0, 1) := by decide +kernel
theorem d_2_init_145 : decode prog_4_method_1_code 145 = .ok (.iload_n 1, 1) := by decide +kernel
theorem d_2_init_146 : decode prog_4_method_1_code 146 = .ok (.invokevirtual 45, 3) := by decide +kernel
theorem d_2_init_149 : decode prog_4_method_1_code 149 = .ok (.iinc 1 1, 3) := by decide +kernel
theorem d_2_init_152 : decode prog_4_method_1_code 152 = .ok (.goto (-15), 3) := by decide +kernel
theorem d_2_init_155 : decode prog_4_method_1_code 155 = .ok (.iconst 1, 1) := by decide +kernel
theorem d_2_init_156 : decode prog_4_method_1_code 156 = .ok (.istore_n 1, 1) := by decide +kernel
theorem d_2_init_157 : decode prog_4_method_1_code 157 = .ok (.iload_n 1, 1) := by decide +kernel
theorem d_2_init_158 : decode prog_4_method_1_code 158 = .ok (.sipush 1215, 3) := by decide +kernel
theorem d_2_init_161 : decode prog_4_method_1_code 161 = .ok (.if_icmp .ge 53, 3) := by decide +kernel
theorem d_2_init_164 : decode prog_4_method_1_code 164 = .ok (.aload_n 0, 1) := by decide +kernel
theorem d_2_init_165 : decode prog_4_method_1_code 165 = .ok (.getfield 20, 3) := by decide +kernel
theorem d_2_init_168 : decode prog_4_method_1_code 168 = .ok (.iload_n 1, 1) := by decide +kernel
theorem d_2_init_169 : decode prog_4_method_1_code 169 = .ok (.invokevirtual 48, 3) := by decide +kernel
theorem d_2_init_172 : decode prog_4_method_1_code 172 = .ok (.invokestatic 52, 3) := by decide +kernel
theorem d_2_init_175 : decode prog_4_method_1_code 175 = .ok (.iconst 0, 1) := by decide +kernel
theorem d_2_init_176 : decode prog_4_method_1_code 176 = .ok (.invokestatic 55, 3) := by decide +kernel
theorem d_2_init_179 : decode prog_4_method_1_code 179 = .ok (.istore_n 2, 1) := by decide +kernel
theorem d_2_init_180 : decode prog_4_method_1_code 180 = .ok (.aload_n 0, 1) := by decide +kernel
theorem d_2_init_181 : decode prog_4_method_1_code 181 = .ok (.getfield 32, 3) := by decide +kernel
theorem d_2_init_184 : decode prog_4_method_1_code 184 = .ok (.iload_n 1, 1) := by decide +kernel
theorem d_2_init_185 : decode prog_4_method_1_code 185 = .ok (.aload_n 0, 1) := by decide +kernel
theorem d_2_init_186 : decode prog_4_method_1_code 186 = .ok (.aload_n 0, 1) := by decide +kernel
theorem d_2_init_187 : decode prog_4_method_1_code 187 = .ok (.getfield 32, 3) := by decide +kernel
theorem d_2_init_190 : decode prog_4_method_1_code 190 = .ok (.aload_n 0, 1) := by decide +kernel
theorem d_2_init_191 : decode prog_4_method_1_code 191 = .ok (.getfield 14, 3) := by decide +kernel
theorem d_2_init_194 : decode prog_4_method_1_code 194 = .ok (.iload_n 1, 1) := by decide +kernel
theorem d_2_init_195 : decode prog_4_method_1_code 195 = .ok (.invokevirtual 48, 3) := by decide +kernel
theorem d_2_init_198 : decode prog_4_method_1_code 198 = .ok (.invokevirtual 48, 3) := by decide +kernel
theorem d_2_init_201 : decode prog_4_method_1_code 201 = .ok (.iload_n 2, 1) := by decide +kernel
theorem d_2_init_202 : decode prog_4_method_1_code 202 = .ok (.invokevirtual 59, 3) := by decide +kernel
theorem d_2_init_205 : decode prog_4_method_1_code 205 = .ok (.invokevirtual 62, 3) := by decide +kernel
theorem d_2_init_208 : decode prog_4_method_1_code 208 = .ok (.iinc 1 1, 3) := by decide +kernel
theorem d_2_init_211 : decode prog_4_method_1_code 211 = .ok (.goto (-54), 3) := by decide +kernel
theorem d_2_init_214 : decode prog_4_method_1_code 214 = .ok (.return_, 1) := by decide +kernel
def wb_2_init_157 (Q : hm_S → hm_T → Prop) (K157 : Int32 → hm_S → hm_T → Prop) (x1 : Int32) (S : hm_S) (T : hm_T) : Prop :=
  (if 1215 ≤ x1 then Q S T else wp_5_get 7 1215 x1 S T (fun r8 S8 T8 => wp_10_sizeOfKind r8 S8 T8 (fun r9 S9 T9 => wp_10_kindOfHeap r9 0 S9 T9 (fun r10 S10 T10 => wp_5_get 5 1215 x1 S10 T10 (fun r11 S11 T11 => wp_5_get 15 1215 r11 S11 T11 (fun r12 S12 T12 => wp_2_join r12 r10 S12 T12 (fun r13 S13 T13 => wp_5_set 15 1215 x1 r13 S13 T13 (fun S14 T14 => K157 (x1 + 1) S14 T14))))))))
set_option maxHeartbeats 4000000 in
set_option maxRecDepth 20000 in
theorem bk_2_init_157 {Q : hm_S → hm_T → Prop} {K157 : Int32 → hm_S → hm_T → Prop} (cx : hm_cx G p s m args c prog_4_method_1_code 3 "HeapGames$Layouts") (hr : meth.sig.returnType = none) (hlk : meth.locks = false) (hin : meth.name = "<init>") (k157 : ∀ (x1 : Int32) (S : hm_S) (T : hm_T) (H : Heap) (locs : List Loc) (ls : Array Slot), K157 x1 S T → hm_wc G H0 o lc_4 S T H → hm_Lc o locs → lv_has ls 3 [(0, .ref (o + 4)), (1, .int x1)] → W p l e rm_2_init s m args below meth c H locs 14 31597 (MQ below (hm_Qcc G H0 o lc_4 Q) args s 14 31597 (hm_ge o)) (F0 m 157 ls [])) {x1 : Int32} {S : hm_S} {T : hm_T} {H : Heap} {locs : List Loc} {ls : Array Slot} (h : wb_2_init_157 Q K157 x1 S T) (hw : hm_wc G H0 o lc_4 S T H) (hL : hm_Lc o locs) (hl : lv_has ls 3 [(0, .ref (o + 4)), (1, .int x1)]) : W p l e rm_2_init s m args below meth c H locs 14 31597 (MQ below (hm_Qcc G H0 o lc_4 Q) args s 14 31597 (hm_ge o)) (F0 m 157 ls []) := by
  have hx := cx.1.1
  have hb := cx.1.2.1
  unfold wb_2_init_157 at h
  refine lv_iload_n hx hb d_2_init_157 rfl (lv_at hl 1 rfl) ?_
  refine lv_sipush (v := 1215) hx hb d_2_init_158 (by decide) ?_
  refine lv_icmp_ge (tgt := 214) hx hb d_2_init_161 (by decide) (fun hc => ?_) (fun hc => ?_)
  · replace h := hm_pos hc h
    exact W.vret hx hb hr (fun t ht _ => ⟨_, _, rfl, h, by rw [ht]; exact hw⟩) hL d_2_init_214
  · replace h := hm_neg hc h
    refine lv_aload_n hx hb d_2_init_164 rfl (lv_at hl 0 rfl) ?_
    refine gf_2_20 cx hw.w (i := 4) (r := 7) (by decide) (show hm_lsh lc_4 4 = .inr (2, [8, 10, 12, 14, 16, 18, 20, 0]) from rfl) rfl d_2_init_165 ?_
    refine lv_iload_n hx hb d_2_init_168 rfl (lv_at hl 1 rfl) ?_
    refine hm_ccalli (hr := hm_rV (i := 7) (As := [.int x1]) (rest := []) cx hw.w (ct_5_get (by decide) (show hm_lsh lc_4 7 = .inr (5, [11]) from rfl) (show hm_lsh lc_4 8 = .inl (0, 1215) from rfl) h) (mw_2_48 cx.1.2.2.2.2 ⟨Nat.le_of_ble_eq_true rfl, Nat.le_of_ble_eq_true rfl⟩) (by decide) (show hm_lsh lc_4 7 = .inr (5, [11]) from rfl) rfl rfl hl.1 rfl (Nat.le_of_ble_eq_true rfl) d_2_init_169 ⟨Nat.le_of_ble_eq_true rfl, Nat.le_of_ble_eq_true rfl⟩) hw hL (fun r8 S8 T8 H locs h hw hL => ?_)
    refine hm_ccalli (hr := hm_rN (As := [.int r8]) (rest := []) cx hw.w (ct_10_sizeOfKind h) (mw_2_52 cx ⟨Nat.le_of_ble_eq_true rfl, Nat.le_of_ble_eq_true rfl⟩) rfl hl.1 rfl (Nat.le_of_ble_eq_true rfl) d_2_init_172 ⟨Nat.le_of_ble_eq_true rfl, Nat.le_of_ble_eq_true rfl⟩) hw hL (fun r9 S9 T9 H locs h hw hL => ?_)
    refine lv_iconst (v := 0) hx hb d_2_init_175 (by decide) ?_
    refine hm_ccalli (hr := hm_rN (As := [.int r9, .int 0]) (rest := []) cx hw.w (ct_10_kindOfHeap h) (mw_2_55 cx ⟨Nat.le_of_ble_eq_true rfl, Nat.le_of_ble_eq_true rfl⟩) rfl hl.1 rfl (Nat.le_of_ble_eq_true rfl) d_2_init_176 ⟨Nat.le_of_ble_eq_true rfl, Nat.le_of_ble_eq_true rfl⟩) hw hL (fun r10 S10 T10 H locs h hw hL => ?_)
    refine lv_istore_n (lv' := [(2, .int r10), (0, .ref (o + 4)), (1, .int x1)]) hx hb d_2_init_179 rfl hl (by decide) rfl (fun ls hl => ?_)
    refine lv_aload_n hx hb d_2_init_180 rfl (lv_at hl 1 rfl) ?_
    refine gf_2_32 cx hw.w (i := 4) (r := 15) (by decide) (show hm_lsh lc_4 4 = .inr (2, [8, 10, 12, 14, 16, 18, 20, 0]) from rfl) rfl d_2_init_181 ?_
    refine lv_iload_n hx hb d_2_init_184 rfl (lv_at hl 2 rfl) ?_
    refine lv_aload_n hx hb d_2_init_185 rfl (lv_at hl 1 rfl) ?_
    refine lv_aload_n hx hb d_2_init_186 rfl (lv_at hl 1 rfl) ?_
    refine gf_2_32 cx hw.w (i := 4) (r := 15) (by decide) (show hm_lsh lc_4 4 = .inr (2, [8, 10, 12, 14, 16, 18, 20, 0]) from rfl) rfl d_2_init_187 ?_
    refine lv_aload_n hx hb d_2_init_190 rfl (lv_at hl 1 rfl) ?_
    refine gf_2_14 cx hw.w (i := 4) (r := 5) (by decide) (show hm_lsh lc_4 4 = .inr (2, [8, 10, 12, 14, 16, 18, 20, 0]) from rfl) rfl d_2_init_191 ?_
    refine lv_iload_n hx hb d_2_init_194 rfl (lv_at hl 2 rfl) ?_
    refine hm_ccalli (hr := hm_rV (i := 5) (As := [.int x1]) (rest := [.ref (o + 15), .ref (o + 4), .int x1, .ref (o + 15)]) cx hw.w (ct_5_get (by decide) (show hm_lsh lc_4 5 = .inr (5, [9]) from rfl) (show hm_lsh lc_4 6 = .inl (0, 1215) from rfl) h) (mw_2_48 cx.1.2.2.2.2 ⟨Nat.le_of_ble_eq_true rfl, Nat.le_of_ble_eq_true rfl⟩) (by decide) (show hm_lsh lc_4 5 = .inr (5, [9]) from rfl) rfl rfl hl.1 rfl (Nat.le_of_ble_eq_true rfl) d_2_init_195 ⟨Nat.le_of_ble_eq_true rfl, Nat.le_of_ble_eq_true rfl⟩) hw hL (fun r11 S11 T11 H locs h hw hL => ?_)
    refine hm_ccalli (hr := hm_rV (i := 15) (As := [.int r11]) (rest := [.ref (o + 4), .int x1, .ref (o + 15)]) cx hw.w (ct_5_get (by decide) (show hm_lsh lc_4 15 = .inr (5, [19]) from rfl) (show hm_lsh lc_4 16 = .inl (0, 1215) from rfl) h) (mw_2_48 cx.1.2.2.2.2 ⟨Nat.le_of_ble_eq_true rfl, Nat.le_of_ble_eq_true rfl⟩) (by decide) (show hm_lsh lc_4 15 = .inr (5, [19]) from rfl) rfl rfl hl.1 rfl (Nat.le_of_ble_eq_true rfl) d_2_init_198 ⟨Nat.le_of_ble_eq_true rfl, Nat.le_of_ble_eq_true rfl⟩) hw hL (fun r12 S12 T12 H locs h hw hL => ?_)
    refine lv_iload_n hx hb d_2_init_201 rfl (lv_at hl 0 rfl) ?_
    refine hm_ccalli (hr := hm_rV (i := 4) (As := [.int r12, .int r10]) (rest := [.int x1, .ref (o + 15)]) cx hw.w (ct_2_join (by decide) hsh_lc_4 h) (mw_2_59 cx.1.2.2.2.2 ⟨Nat.le_of_ble_eq_true rfl, Nat.le_of_ble_eq_true rfl⟩) (by decide) (show hm_lsh lc_4 4 = .inr (2, [8, 10, 12, 14, 16, 18, 20, 0]) from rfl) rfl rfl hl.1 rfl (Nat.le_of_ble_eq_true rfl) d_2_init_202 ⟨Nat.le_of_ble_eq_true rfl, Nat.le_of_ble_eq_true rfl⟩) hw hL (fun r13 S13 T13 H locs h hw hL => ?_)
    refine hm_ccallv (hr := hm_rV (i := 15) (As := [.int x1, .int r13]) (rest := []) cx hw.w (ct_5_set (by decide) (show hm_lsh lc_4 15 = .inr (5, [19]) from rfl) (show hm_lsh lc_4 16 = .inl (0, 1215) from rfl) h) (mw_2_62 cx.1.2.2.2.2 ⟨Nat.le_of_ble_eq_true rfl, Nat.le_of_ble_eq_true rfl⟩) (by decide) (show hm_lsh lc_4 15 = .inr (5, [19]) from rfl) rfl rfl hl.1 rfl (Nat.le_of_ble_eq_true rfl) d_2_init_205 ⟨Nat.le_of_ble_eq_true rfl, Nat.le_of_ble_eq_true rfl⟩) hw hL (fun S14 T14 H locs h hw hL => ?_)
    refine lv_iinc (v := (x1 + 1)) (lv' := [(1, .int (x1 + 1)), (2, .int r10), (0, .ref (o + 4))]) hx hb d_2_init_208 hl (k := 2) rfl rfl (by decide) rfl (fun ls hl => ?_)
    refine lv_goto (tgt := 157) hx hb d_2_init_211 (by decide) ?_
    exact k157 _ _ _ _ _ _ h hw hL (lv_sub hl [2, 0] rfl)
def wl_2_init_157 (Q : hm_S → hm_T → Prop) : Nat → Int32 → hm_S → hm_T → Prop
  | 0, _, _, _ => False
  | f + 1, x1, S, T => wb_2_init_157 Q (wl_2_init_157 Q f) x1 S T
theorem lp_2_init_157 {Q : hm_S → hm_T → Prop} (cx : hm_cx G p s m args c prog_4_method_1_code 3 "HeapGames$Layouts") (hr : meth.sig.returnType = none) (hlk : meth.locks = false) (hin : meth.name = "<init>") : ∀ (f : Nat) (x1 : Int32) (S : hm_S) (T : hm_T) (H : Heap) (locs : List Loc) (ls : Array Slot), wl_2_init_157 Q f x1 S T → hm_wc G H0 o lc_4 S T H → hm_Lc o locs → lv_has ls 3 [(0, .ref (o + 4)), (1, .int x1)] → W p l e rm_2_init s m args below meth c H locs 14 31597 (MQ below (hm_Qcc G H0 o lc_4 Q) args s 14 31597 (hm_ge o)) (F0 m 157 ls []) := by
  intro f
  induction f with
  | zero => intro x1 S T H locs ls h; exact h.elim
  | succ f ih => intro x1 S T H locs ls h hw hL hl; exact bk_2_init_157 cx hr hlk hin ih h hw hL hl
def wb_2_init_155 (Q : hm_S → hm_T → Prop) (S : hm_S) (T : hm_T) : Prop :=
  ∃ f, wl_2_init_157 Q f 1 S T
set_option maxHeartbeats 4000000 in
set_option maxRecDepth 20000 in
theorem bk_2_init_155 {Q : hm_S → hm_T → Prop} (cx : hm_cx G p s m args c prog_4_method_1_code 3 "HeapGames$Layouts") (hr : meth.sig.returnType = none) (hlk : meth.locks = false) (hin : meth.name = "<init>") {S : hm_S} {T : hm_T} {H : Heap} {locs : List Loc} {ls : Array Slot} (h : wb_2_init_155 Q S T) (hw : hm_wc G H0 o lc_4 S T H) (hL : hm_Lc o locs) (hl : lv_has ls 3 [(0, .ref (o + 4))]) : W p l e rm_2_init s m args below meth c H locs 14 31597 (MQ below (hm_Qcc G H0 o lc_4 Q) args s 14 31597 (hm_ge o)) (F0 m 155 ls []) := by
  have hx := cx.1.1
  have hb := cx.1.2.1
  unfold wb_2_init_155 at h
  refine lv_iconst (v := 1) hx hb d_2_init_155 (by decide) ?_
  refine lv_istore_n (lv' := [(1, .int 1), (0, .ref (o + 4))]) hx hb d_2_init_156 rfl hl (by decide) rfl (fun ls hl => ?_)
  obtain ⟨f, h⟩ := h
  exact lp_2_init_157 cx hr hlk hin f _ _ _ _ _ _ h hw hL (lv_sub hl [1, 0] rfl)
def wb_2_init_137 (Q : hm_S → hm_T → Prop) (K137 : Int32 → hm_S → hm_T → Prop) (x1 : Int32) (S : hm_S) (T : hm_T) : Prop :=
  (if 1215 ≤ x1 then wb_2_init_155 Q S T else wp_2_joinLesserKinds x1 S T (fun S15 T15 => K137 (x1 + 1) S15 T15))
set_option maxHeartbeats 4000000 in
set_option maxRecDepth 20000 in
theorem bk_2_init_137 {Q : hm_S → hm_T → Prop} {K137 : Int32 → hm_S → hm_T → Prop} (cx : hm_cx G p s m args c prog_4_method_1_code 3 "HeapGames$Layouts") (hr : meth.sig.returnType = none) (hlk : meth.locks = false) (hin : meth.name = "<init>") (k137 : ∀ (x1 : Int32) (S : hm_S) (T : hm_T) (H : Heap) (locs : List Loc) (ls : Array Slot), K137 x1 S T → hm_wc G H0 o lc_4 S T H → hm_Lc o locs → lv_has ls 3 [(0, .ref (o + 4)), (1, .int x1)] → W p l e rm_2_init s m args below meth c H locs 14 31597 (MQ below (hm_Qcc G H0 o lc_4 Q) args s 14 31597 (hm_ge o)) (F0 m 137 ls [])) {x1 : Int32} {S : hm_S} {T : hm_T} {H : Heap} {locs : List Loc} {ls : Array Slot} (h : wb_2_init_137 Q K137 x1 S T) (hw : hm_wc G H0 o lc_4 S T H) (hL : hm_Lc o locs) (hl : lv_has ls 3 [(0, .ref (o + 4)), (1, .int x1)]) : W p l e rm_2_init s m args below meth c H locs 14 31597 (MQ below (hm_Qcc G H0 o lc_4 Q) args s 14 31597 (hm_ge o)) (F0 m 137 ls []) := by
  have hx := cx.1.1
  have hb := cx.1.2.1
  unfold wb_2_init_137 at h
  refine lv_iload_n hx hb d_2_init_137 rfl (lv_at hl 1 rfl) ?_
  refine lv_sipush (v := 1215) hx hb d_2_init_138 (by decide) ?_
  refine lv_icmp_ge (tgt := 155) hx hb d_2_init_141 (by decide) (fun hc => ?_) (fun hc => ?_)
  · replace h := hm_pos hc h
    exact bk_2_init_155 cx hr hlk hin h hw hL (lv_sub hl [0] rfl)
  · replace h := hm_neg hc h
    refine lv_aload_n hx hb d_2_init_144 rfl (lv_at hl 0 rfl) ?_
    refine lv_iload_n hx hb d_2_init_145 rfl (lv_at hl 1 rfl) ?_
    refine hm_ccallv (hr := hm_rV (i := 4) (As := [.int x1]) (rest := []) cx hw.w (ct_2_joinLesserKinds (by decide) hsh_lc_4 h) (mw_2_45 cx.1.2.2.2.2 ⟨Nat.le_of_ble_eq_true rfl, Nat.le_of_ble_eq_true rfl⟩) (by decide) (show hm_lsh lc_4 4 = .inr (2, [8, 10, 12, 14, 16, 18, 20, 0]) from rfl) rfl rfl hl.1 rfl (Nat.le_of_ble_eq_true rfl) d_2_init_146 ⟨Nat.le_of_ble_eq_true rfl, Nat.le_of_ble_eq_true rfl⟩) hw hL (fun S15 T15 H locs h hw hL => ?_)
    refine lv_iinc (v := (x1 + 1)) (lv' := [(1, .int (x1 + 1)), (0, .ref (o + 4))]) hx hb d_2_init_149 hl (k := 1) rfl rfl (by decide) rfl (fun ls hl => ?_)
    refine lv_goto (tgt := 137) hx hb d_2_init_152 (by decide) ?_
    exact k137 _ _ _ _ _ _ h hw hL (lv_sub hl [1, 0] rfl)
def wl_2_init_137 (Q : hm_S → hm_T → Prop) : Nat → Int32 → hm_S → hm_T → Prop
  | 0, _, _, _ => False
  | f + 1, x1, S, T => wb_2_init_137 Q (wl_2_init_137 Q f) x1 S T
theorem lp_2_init_137 {Q : hm_S → hm_T → Prop} (cx : hm_cx G p s m args c prog_4_method_1_code 3 "HeapGames$Layouts") (hr : meth.sig.returnType = none) (hlk : meth.locks = false) (hin : meth.name = "<init>") : ∀ (f : Nat) (x1 : Int32) (S : hm_S) (T : hm_T) (H : Heap) (locs : List Loc) (ls : Array Slot), wl_2_init_137 Q f x1 S T → hm_wc G H0 o lc_4 S T H → hm_Lc o locs → lv_has ls 3 [(0, .ref (o + 4)), (1, .int x1)] → W p l e rm_2_init s m args below meth c H locs 14 31597 (MQ below (hm_Qcc G H0 o lc_4 Q) args s 14 31597 (hm_ge o)) (F0 m 137 ls []) := by
  intro f
  induction f with
  | zero => intro x1 S T H locs ls h; exact h.elim
  | succ f ih => intro x1 S T H locs ls h hw hL hl; exact bk_2_init_137 cx hr hlk hin ih h hw hL hl
def wb_2_init_135 (Q : hm_S → hm_T → Prop) (S : hm_S) (T : hm_T) : Prop :=
  ∃ f, wl_2_init_137 Q f 1 S T
set_option maxHeartbeats 4000000 in
set_option maxRecDepth 20000 in
theorem bk_2_init_135 {Q : hm_S → hm_T → Prop} (cx : hm_cx G p s m args c prog_4_method_1_code 3 "HeapGames$Layouts") (hr : meth.sig.returnType = none) (hlk : meth.locks = false) (hin : meth.name = "<init>") {S : hm_S} {T : hm_T} {H : Heap} {locs : List Loc} {ls : Array Slot} (h : wb_2_init_135 Q S T) (hw : hm_wc G H0 o lc_4 S T H) (hL : hm_Lc o locs) (hl : lv_has ls 3 [(0, .ref (o + 4))]) : W p l e rm_2_init s m args below meth c H locs 14 31597 (MQ below (hm_Qcc G H0 o lc_4 Q) args s 14 31597 (hm_ge o)) (F0 m 135 ls []) := by
  have hx := cx.1.1
  have hb := cx.1.2.1
  unfold wb_2_init_135 at h
  refine lv_iconst (v := 1) hx hb d_2_init_135 (by decide) ?_
  refine lv_istore_n (lv' := [(1, .int 1), (0, .ref (o + 4))]) hx hb d_2_init_136 rfl hl (by decide) rfl (fun ls hl => ?_)
  obtain ⟨f, h⟩ := h
  exact lp_2_init_137 cx hr hlk hin f _ _ _ _ _ _ h hw hL (lv_sub hl [1, 0] rfl)
def wb_2_init_109 (Q : hm_S → hm_T → Prop) (K109 : Int32 → hm_S → hm_T → Prop) (x1 : Int32) (S : hm_S) (T : hm_T) : Prop :=
  (if (S 4 7) ≤ x1 then wb_2_init_135 Q S T else (if 1215 ≤ x1 then wb_2_init_135 Q S T else wp_2_makeGreaterOnes x1 S T (fun S16 T16 => K109 (x1 + 1) S16 T16)))
set_option maxHeartbeats 4000000 in
set_option maxRecDepth 20000 in
theorem bk_2_init_109 {Q : hm_S → hm_T → Prop} {K109 : Int32 → hm_S → hm_T → Prop} (cx : hm_cx G p s m args c prog_4_method_1_code 3 "HeapGames$Layouts") (hr : meth.sig.returnType = none) (hlk : meth.locks = false) (hin : meth.name = "<init>") (k109 : ∀ (x1 : Int32) (S : hm_S) (T : hm_T) (H : Heap) (locs : List Loc) (ls : Array Slot), K109 x1 S T → hm_wc G H0 o lc_4 S T H → hm_Lc o locs → lv_has ls 3 [(0, .ref (o + 4)), (1, .int x1)] → W p l e rm_2_init s m args below meth c H locs 14 31597 (MQ below (hm_Qcc G H0 o lc_4 Q) args s 14 31597 (hm_ge o)) (F0 m 109 ls [])) {x1 : Int32} {S : hm_S} {T : hm_T} {H : Heap} {locs : List Loc} {ls : Array Slot} (h : wb_2_init_109 Q K109 x1 S T) (hw : hm_wc G H0 o lc_4 S T H) (hL : hm_Lc o locs) (hl : lv_has ls 3 [(0, .ref (o + 4)), (1, .int x1)]) : W p l e rm_2_init s m args below meth c H locs 14 31597 (MQ below (hm_Qcc G H0 o lc_4 Q) args s 14 31597 (hm_ge o)) (F0 m 109 ls []) := by
  have hx := cx.1.1
  have hb := cx.1.2.1
  unfold wb_2_init_109 at h
  refine lv_iload_n hx hb d_2_init_109 rfl (lv_at hl 1 rfl) ?_
  refine lv_aload_n hx hb d_2_init_110 rfl (lv_at hl 0 rfl) ?_
  refine gf_2_38 cx hw.w (i := 4) (by decide) (show hm_lsh lc_4 4 = .inr (2, [8, 10, 12, 14, 16, 18, 20, 0]) from rfl) rfl d_2_init_111 ?_
  refine lv_icmp_ge (tgt := 135) hx hb d_2_init_114 (by decide) (fun hc => ?_) (fun hc => ?_)
  · replace h := hm_pos hc h
    exact bk_2_init_135 cx hr hlk hin h hw hL (lv_sub hl [0] rfl)
  · replace h := hm_neg hc h
    refine lv_iload_n hx hb d_2_init_117 rfl (lv_at hl 1 rfl) ?_
    refine lv_sipush (v := 1215) hx hb d_2_init_118 (by decide) ?_
    refine lv_icmp_ge (tgt := 135) hx hb d_2_init_121 (by decide) (fun hc => ?_) (fun hc => ?_)
    · replace h := hm_pos hc h
      exact bk_2_init_135 cx hr hlk hin h hw hL (lv_sub hl [0] rfl)
    · replace h := hm_neg hc h
      refine lv_aload_n hx hb d_2_init_124 rfl (lv_at hl 0 rfl) ?_
      refine lv_iload_n hx hb d_2_init_125 rfl (lv_at hl 1 rfl) ?_
      refine hm_ccallv (hr := hm_rV (i := 4) (As := [.int x1]) (rest := []) cx hw.w (ct_2_makeGreaterOnes (by decide) hsh_lc_4 h) (mw_2_42 cx.1.2.2.2.2 ⟨Nat.le_of_ble_eq_true rfl, Nat.le_of_ble_eq_true rfl⟩) (by decide) (show hm_lsh lc_4 4 = .inr (2, [8, 10, 12, 14, 16, 18, 20, 0]) from rfl) rfl rfl hl.1 rfl (Nat.le_of_ble_eq_true rfl) d_2_init_126 ⟨Nat.le_of_ble_eq_true rfl, Nat.le_of_ble_eq_true rfl⟩) hw hL (fun S16 T16 H locs h hw hL => ?_)
      refine lv_iinc (v := (x1 + 1)) (lv' := [(1, .int (x1 + 1)), (0, .ref (o + 4))]) hx hb d_2_init_129 hl (k := 1) rfl rfl (by decide) rfl (fun ls hl => ?_)
      refine lv_goto (tgt := 109) hx hb d_2_init_132 (by decide) ?_
      exact k109 _ _ _ _ _ _ h hw hL (lv_sub hl [1, 0] rfl)
def wl_2_init_109 (Q : hm_S → hm_T → Prop) : Nat → Int32 → hm_S → hm_T → Prop
  | 0, _, _, _ => False
  | f + 1, x1, S, T => wb_2_init_109 Q (wl_2_init_109 Q f) x1 S T
theorem lp_2_init_109 {Q : hm_S → hm_T → Prop} (cx : hm_cx G p s m args c prog_4_method_1_code 3 "HeapGames$Layouts") (hr : meth.sig.returnType = none) (hlk : meth.locks = false) (hin : meth.name = "<init>") : ∀ (f : Nat) (x1 : Int32) (S : hm_S) (T : hm_T) (H : Heap) (locs : List Loc) (ls : Array Slot), wl_2_init_109 Q f x1 S T → hm_wc G H0 o lc_4 S T H → hm_Lc o locs → lv_has ls 3 [(0, .ref (o + 4)), (1, .int x1)] → W p l e rm_2_init s m args below meth c H locs 14 31597 (MQ below (hm_Qcc G H0 o lc_4 Q) args s 14 31597 (hm_ge o)) (F0 m 109 ls []) := by
  intro f
  induction f with
  | zero => intro x1 S T H locs ls h; exact h.elim
  | succ f ih => intro x1 S T H locs ls h hw hL hl; exact bk_2_init_109 cx hr hlk hin ih h hw hL hl
def wp_2_init (S : hm_S) (T : hm_T) (Q : hm_S → hm_T → Prop) : Prop :=
  ((∀ k, S 5 k = 0) ∧ (∀ k, T 5 k = 0) ∧ wp_5_init 6 S T (fun S1 T1 => ((∀ k, S1 7 k = 0) ∧ (∀ k, T1 7 k = 0) ∧ wp_5_init 8 S1 T1 (fun S2 T2 => ((∀ k, S2 9 k = 0) ∧ (∀ k, T2 9 k = 0) ∧ wp_5_init 10 S2 T2 (fun S3 T3 => ((∀ k, S3 11 k = 0) ∧ (∀ k, T3 11 k = 0) ∧ wp_5_init 12 S3 T3 (fun S4 T4 => ((∀ k, S4 13 k = 0) ∧ (∀ k, T4 13 k = 0) ∧ wp_5_init 14 S4 T4 (fun S5 T5 => ((∀ k, S5 15 k = 0) ∧ (∀ k, T5 15 k = 0) ∧ wp_5_init 16 S5 T5 (fun S6 T6 => ((∀ k, S6 17 k = 0) ∧ (∀ k, T6 17 k = 0) ∧ wp_5_init 18 S6 T6 (fun S7 T7 => ∃ f, wl_2_init_109 Q f 0 (hm_up S7 4 7 1) T7))))))))))))))
set_option maxHeartbeats 4000000 in
set_option maxRecDepth 20000 in
theorem bk_2_init_0 {Q : hm_S → hm_T → Prop} (cx : hm_cx G p s m args c prog_4_method_1_code 3 "HeapGames$Layouts") (hr : meth.sig.returnType = none) (hlk : meth.locks = false) (hin : meth.name = "<init>") {S : hm_S} {T : hm_T} {H : Heap} {locs : List Loc} {ls : Array Slot} (h : wp_2_init S T Q) (hw : hm_wc G H0 o lc_5 S T H) (hL : hm_Lc o locs) (hl : lv_has ls 3 [(0, .ref (o + 4))]) : W p l e rm_2_init s m args below meth c H locs 0 0 (MQ below (hm_Qcc G H0 o lc_4 Q) args s 14 31597 (hm_ge o)) (F0 m 0 ls []) := by
  have hx := cx.1.1
  have hb := cx.1.2.1
  unfold wp_2_init at h
  refine lv_aload_n hx hb d_2_init_0 rfl (lv_at hl 0 rfl) ?_
  refine W.objInit hx hb cx.1.2.2.2.1 (cx.1.2.2.2.2 _ hq_141) (cx.1.2.2.2.2 _ hq_98) (cx.1.2.2.2.2 _ hq_99) rfl (hl.1.trans cx.1.2.2.1.symm) rfl d_2_init_1 (Nat.le_of_ble_eq_true rfl) (Nat.le_of_ble_eq_true rfl) ?_
  refine lv_aload_n hx hb d_2_init_4 rfl (lv_at hl 0 rfl) ?_
  obtain ⟨h0, h1, h⟩ := h
  refine hm_cnew (ci := 5) cx hw hin_5 tyX5 tyX5_ok rfl hq_142 hq_107 hq_76 [1] dfX5 h0 h1 (Nat.le_of_ble_eq_true rfl) (Nat.le_of_ble_eq_true rfl) d_2_init_5 (fun H hw => ?_)
  replace hw : hm_wc G H0 o lc_6 _ _ H := hw
  refine lv_dup hx hb d_2_init_8 rfl ?_
  refine lv_sipush (v := 1215) hx hb d_2_init_9 (by decide) ?_
  refine hm_cinit (hm_rI (i := 5) (As := [.int 1215]) (rest := [.ref (o + 5), .ref (o + 4)]) cx hw (ct_5_init (L := 1215) rfl rfl (by decide) h) (mi_2_11 (L := 1215) cx.1.2.2.2.2 ⟨Nat.le_of_ble_eq_true rfl, Nat.le_of_ble_eq_true rfl⟩) rfl hl.1 rfl (Nat.le_of_ble_eq_true rfl) d_2_init_12 ⟨Nat.le_of_ble_eq_true rfl, Nat.le_of_ble_eq_true rfl⟩) hL (fun S1 T1 H locs h hw hL => ?_)
  replace hw : hm_wc G H0 o lc_7 _ _ H := hw
  refine hm_cputF (ci := 2) cx hw hin_2 tyX2 tyX2_ok nmX2 rfl 0 (by decide) hq_173 rfl rfl hin (i := 4) (r := 5) (fs := [1, 1, 1, 1, 1, 1, 1, 0]) rfl rfl rfl (by decide) hL d_2_init_15 (fun H locs hw hL => ?_)
  replace hw : hm_wc G H0 o lc_8 _ _ H := hw
  refine lv_aload_n hx hb d_2_init_18 rfl (lv_at hl 0 rfl) ?_
  obtain ⟨h0, h1, h⟩ := h
  refine hm_cnew (ci := 5) cx hw hin_5 tyX5 tyX5_ok rfl hq_142 hq_107 hq_76 [1] dfX5 h0 h1 (Nat.le_of_ble_eq_true rfl) (Nat.le_of_ble_eq_true rfl) d_2_init_19 (fun H hw => ?_)
  replace hw : hm_wc G H0 o lc_9 _ _ H := hw
  refine lv_dup hx hb d_2_init_22 rfl ?_
  refine lv_sipush (v := 1215) hx hb d_2_init_23 (by decide) ?_
  refine hm_cinit (hm_rI (i := 7) (As := [.int 1215]) (rest := [.ref (o + 7), .ref (o + 4)]) cx hw (ct_5_init (L := 1215) rfl rfl (by decide) h) (mi_2_11 (L := 1215) cx.1.2.2.2.2 ⟨Nat.le_of_ble_eq_true rfl, Nat.le_of_ble_eq_true rfl⟩) rfl hl.1 rfl (Nat.le_of_ble_eq_true rfl) d_2_init_26 ⟨Nat.le_of_ble_eq_true rfl, Nat.le_of_ble_eq_true rfl⟩) hL (fun S2 T2 H locs h hw hL => ?_)
  replace hw : hm_wc G H0 o lc_10 _ _ H := hw
  refine hm_cputF (ci := 2) cx hw hin_2 tyX2 tyX2_ok nmX2 rfl 1 (by decide) hq_174 rfl rfl hin (i := 4) (r := 7) (fs := [8, 1, 1, 1, 1, 1, 1, 0]) rfl rfl rfl (by decide) hL d_2_init_29 (fun H locs hw hL => ?_)
  replace hw : hm_wc G H0 o lc_11 _ _ H := hw
  refine lv_aload_n hx hb d_2_init_32 rfl (lv_at hl 0 rfl) ?_
  obtain ⟨h0, h1, h⟩ := h
  refine hm_cnew (ci := 5) cx hw hin_5 tyX5 tyX5_ok rfl hq_142 hq_107 hq_76 [1] dfX5 h0 h1 (Nat.le_of_ble_eq_true rfl) (Nat.le_of_ble_eq_true rfl) d_2_init_33 (fun H hw => ?_)
  replace hw : hm_wc G H0 o lc_12 _ _ H := hw
  refine lv_dup hx hb d_2_init_36 rfl ?_
  refine lv_sipush (v := 1215) hx hb d_2_init_37 (by decide) ?_
  refine hm_cinit (hm_rI (i := 9) (As := [.int 1215]) (rest := [.ref (o + 9), .ref (o + 4)]) cx hw (ct_5_init (L := 1215) rfl rfl (by decide) h) (mi_2_11 (L := 1215) cx.1.2.2.2.2 ⟨Nat.le_of_ble_eq_true rfl, Nat.le_of_ble_eq_true rfl⟩) rfl hl.1 rfl (Nat.le_of_ble_eq_true rfl) d_2_init_40 ⟨Nat.le_of_ble_eq_true rfl, Nat.le_of_ble_eq_true rfl⟩) hL (fun S3 T3 H locs h hw hL => ?_)
  replace hw : hm_wc G H0 o lc_13 _ _ H := hw
  refine hm_cputF (ci := 2) cx hw hin_2 tyX2 tyX2_ok nmX2 rfl 2 (by decide) hq_175 rfl rfl hin (i := 4) (r := 9) (fs := [8, 10, 1, 1, 1, 1, 1, 0]) rfl rfl rfl (by decide) hL d_2_init_43 (fun H locs hw hL => ?_)
  replace hw : hm_wc G H0 o lc_14 _ _ H := hw
  refine lv_aload_n hx hb d_2_init_46 rfl (lv_at hl 0 rfl) ?_
  obtain ⟨h0, h1, h⟩ := h
  refine hm_cnew (ci := 5) cx hw hin_5 tyX5 tyX5_ok rfl hq_142 hq_107 hq_76 [1] dfX5 h0 h1 (Nat.le_of_ble_eq_true rfl) (Nat.le_of_ble_eq_true rfl) d_2_init_47 (fun H hw => ?_)
  replace hw : hm_wc G H0 o lc_15 _ _ H := hw
  refine lv_dup hx hb d_2_init_50 rfl ?_
  refine lv_sipush (v := 1215) hx hb d_2_init_51 (by decide) ?_
  refine hm_cinit (hm_rI (i := 11) (As := [.int 1215]) (rest := [.ref (o + 11), .ref (o + 4)]) cx hw (ct_5_init (L := 1215) rfl rfl (by decide) h) (mi_2_11 (L := 1215) cx.1.2.2.2.2 ⟨Nat.le_of_ble_eq_true rfl, Nat.le_of_ble_eq_true rfl⟩) rfl hl.1 rfl (Nat.le_of_ble_eq_true rfl) d_2_init_54 ⟨Nat.le_of_ble_eq_true rfl, Nat.le_of_ble_eq_true rfl⟩) hL (fun S4 T4 H locs h hw hL => ?_)
  replace hw : hm_wc G H0 o lc_16 _ _ H := hw
  refine hm_cputF (ci := 2) cx hw hin_2 tyX2 tyX2_ok nmX2 rfl 3 (by decide) hq_176 rfl rfl hin (i := 4) (r := 11) (fs := [8, 10, 12, 1, 1, 1, 1, 0]) rfl rfl rfl (by decide) hL d_2_init_57 (fun H locs hw hL => ?_)
  replace hw : hm_wc G H0 o lc_17 _ _ H := hw
  refine lv_aload_n hx hb d_2_init_60 rfl (lv_at hl 0 rfl) ?_
  obtain ⟨h0, h1, h⟩ := h
  refine hm_cnew (ci := 5) cx hw hin_5 tyX5 tyX5_ok rfl hq_142 hq_107 hq_76 [1] dfX5 h0 h1 (Nat.le_of_ble_eq_true rfl) (Nat.le_of_ble_eq_true rfl) d_2_init_61 (fun H hw => ?_)
  replace hw : hm_wc G H0 o lc_18 _ _ H := hw
  refine lv_dup hx hb d_2_init_64 rfl ?_
  refine lv_sipush (v := 1215) hx hb d_2_init_65 (by decide) ?_
  refine hm_cinit (hm_rI (i := 13) (As := [.int 1215]) (rest := [.ref (o + 13), .ref (o + 4)]) cx hw (ct_5_init (L := 1215) rfl rfl (by decide) h) (mi_2_11 (L := 1215) cx.1.2.2.2.2 ⟨Nat.le_of_ble_eq_true rfl, Nat.le_of_ble_eq_true rfl⟩) rfl hl.1 rfl (Nat.le_of_ble_eq_true rfl) d_2_init_68 ⟨Nat.le_of_ble_eq_true rfl, Nat.le_of_ble_eq_true rfl⟩) hL (fun S5 T5 H locs h hw hL => ?_)
  replace hw : hm_wc G H0 o lc_19 _ _ H := hw
  refine hm_cputF (ci := 2) cx hw hin_2 tyX2 tyX2_ok nmX2 rfl 4 (by decide) hq_177 rfl rfl hin (i := 4) (r := 13) (fs := [8, 10, 12, 14, 1, 1, 1, 0]) rfl rfl rfl (by decide) hL d_2_init_71 (fun H locs hw hL => ?_)
  replace hw : hm_wc G H0 o lc_20 _ _ H := hw
  refine lv_aload_n hx hb d_2_init_74 rfl (lv_at hl 0 rfl) ?_
  obtain ⟨h0, h1, h⟩ := h
  refine hm_cnew (ci := 5) cx hw hin_5 tyX5 tyX5_ok rfl hq_142 hq_107 hq_76 [1] dfX5 h0 h1 (Nat.le_of_ble_eq_true rfl) (Nat.le_of_ble_eq_true rfl) d_2_init_75 (fun H hw => ?_)
  replace hw : hm_wc G H0 o lc_21 _ _ H := hw
  refine lv_dup hx hb d_2_init_78 rfl ?_
  refine lv_sipush (v := 1215) hx hb d_2_init_79 (by decide) ?_
  refine hm_cinit (hm_rI (i := 15) (As := [.int 1215]) (rest := [.ref (o + 15), .ref (o + 4)]) cx hw (ct_5_init (L := 1215) rfl rfl (by decide) h) (mi_2_11 (L := 1215) cx.1.2.2.2.2 ⟨Nat.le_of_ble_eq_true rfl, Nat.le_of_ble_eq_true rfl⟩) rfl hl.1 rfl (Nat.le_of_ble_eq_true rfl) d_2_init_82 ⟨Nat.le_of_ble_eq_true rfl, Nat.le_of_ble_eq_true rfl⟩) hL (fun S6 T6 H locs h hw hL => ?_)
  replace hw : hm_wc G H0 o lc_22 _ _ H := hw
  refine hm_cputF (ci := 2) cx hw hin_2 tyX2 tyX2_ok nmX2 rfl 5 (by decide) hq_178 rfl rfl hin (i := 4) (r := 15) (fs := [8, 10, 12, 14, 16, 1, 1, 0]) rfl rfl rfl (by decide) hL d_2_init_85 (fun H locs hw hL => ?_)
  replace hw : hm_wc G H0 o lc_23 _ _ H := hw
  refine lv_aload_n hx hb d_2_init_88 rfl (lv_at hl 0 rfl) ?_
  obtain ⟨h0, h1, h⟩ := h
  refine hm_cnew (ci := 5) cx hw hin_5 tyX5 tyX5_ok rfl hq_142 hq_107 hq_76 [1] dfX5 h0 h1 (Nat.le_of_ble_eq_true rfl) (Nat.le_of_ble_eq_true rfl) d_2_init_89 (fun H hw => ?_)
  replace hw : hm_wc G H0 o lc_24 _ _ H := hw
  refine lv_dup hx hb d_2_init_92 rfl ?_
  refine lv_sipush (v := 24300) hx hb d_2_init_93 (by decide) ?_
  refine hm_cinit (hm_rI (i := 17) (As := [.int 24300]) (rest := [.ref (o + 17), .ref (o + 4)]) cx hw (ct_5_init (L := 24300) rfl rfl (by decide) h) (mi_2_11 (L := 24300) cx.1.2.2.2.2 ⟨Nat.le_of_ble_eq_true rfl, Nat.le_of_ble_eq_true rfl⟩) rfl hl.1 rfl (Nat.le_of_ble_eq_true rfl) d_2_init_96 ⟨Nat.le_of_ble_eq_true rfl, Nat.le_of_ble_eq_true rfl⟩) hL (fun S7 T7 H locs h hw hL => ?_)
  replace hw : hm_wc G H0 o lc_25 _ _ H := hw
  refine hm_cputF (ci := 2) cx hw hin_2 tyX2 tyX2_ok nmX2 rfl 6 (by decide) hq_179 rfl rfl hin (i := 4) (r := 17) (fs := [8, 10, 12, 14, 16, 18, 1, 0]) rfl rfl rfl (by decide) hL d_2_init_99 (fun H locs hw hL => ?_)
  replace hw : hm_wc G H0 o lc_4 _ _ H := hw
  refine lv_aload_n hx hb d_2_init_102 rfl (lv_at hl 0 rfl) ?_
  refine lv_iconst (v := 1) hx hb d_2_init_103 (by decide) ?_
  refine hm_cputi (ci := 2) cx hw hin_2 tyX2 tyX2_ok nmX2 rfl 7 (by decide) hq_180 rfl rfl (i := 4) (fs := [8, 10, 12, 14, 16, 18, 20, 0]) rfl rfl (v := 1) rfl rfl hL d_2_init_104 (fun H locs hw hL => ?_)
  refine lv_iconst (v := 0) hx hb d_2_init_107 (by decide) ?_
  refine lv_istore_n (lv' := [(1, .int 0), (0, .ref (o + 4))]) hx hb d_2_init_108 rfl hl (by decide) rfl (fun ls hl => ?_)
  obtain ⟨f, h⟩ := h
  exact lp_2_init_109 cx hr hlk hin f _ _ _ _ _ _ h hw hL (lv_sub hl [1, 0] rfl)
set_option maxHeartbeats 4000000 in
set_option maxRecDepth 20000 in
theorem ct_2_init {S : hm_S} {T : hm_T} {Q : hm_S → hm_T → Prop} (h : wp_2_init S T Q) : Met l y_2_init (hm_ws y_2_init prog_4_method_1_code 3 none) rm_2_init (hm_Pcc G H0 o lc_5 S T [.ref (o + 4)]) (hm_Qcc G H0 o lc_4 Q) 14 31597 (hm_ge o) := by
  refine Met.ofW (cc := prog_4_method_1_code) (maxL := 3) (ret := none) (by decide) rfl ?_
  intro p e s m args below meth c s₁ B hml hv
  obtain ⟨rfl, hK, hw⟩ := hv
  have cx : hm_cx G p s m _ c prog_4_method_1_code 3 "HeapGames$Layouts" := ⟨⟨B.exec, B.bytes, hml, findClass_of_methodNamed B.named, fun w hq => atoms_spec (ws := hm_ws y_2_init prog_4_method_1_code 3 none) B.pre w (List.mem_cons_of_mem _ hq)⟩, hK⟩
  have hl := lv_entry ([.ref (o + 4)]) (n := 3) (Nat.le_of_ble_eq_true rfl)
  rw [lg_entry_eq]
  generalize (lg_sl ([.ref (o + 4)]) ++ List.replicate (3 - (lg_sl ([.ref (o + 4)])).length) Slot.unset).toArray = ls at hl ⊢
  have hl : lv_has ls 3 [(0, .ref (o + 4))] := hl
  exact bk_2_init_0 cx B.returns B.notSynchronized (name_of_methodNamed B.named B.method).1 h hw (hm_Lc0 _) hl
/-! ===== HeapGames$Moves ===== -/
theorem d_3_init_0 : decode prog_5_method_1_code 0 = .ok (.aload_n 0, 1) := by decide +kernel
theorem d_3_init_1 : decode prog_5_method_1_code 1 = .ok (.invokespecial 3, 3) := by decide +kernel
theorem d_3_init_4 : decode prog_5_method_1_code 4 = .ok (.aload_n 0, 1) := by decide +kernel
theorem d_3_init_5 : decode prog_5_method_1_code 5 = .ok (.new 9, 3) := by decide +kernel
theorem d_3_init_8 : decode prog_5_method_1_code 8 = .ok (.dup, 1) := by decide +kernel
theorem d_3_init_9 : decode prog_5_method_1_code 9 = .ok (.bipush 31, 2) := by decide +kernel
theorem d_3_init_11 : decode prog_5_method_1_code 11 = .ok (.invokespecial 11, 3) := by decide +kernel
theorem d_3_init_14 : decode prog_5_method_1_code 14 = .ok (.putfield 14, 3) := by decide +kernel
theorem d_3_init_17 : decode prog_5_method_1_code 17 = .ok (.aload_n 0, 1) := by decide +kernel
theorem d_3_init_18 : decode prog_5_method_1_code 18 = .ok (.new 9, 3) := by decide +kernel
theorem d_3_init_21 : decode prog_5_method_1_code 21 = .ok (.dup, 1) := by decide +kernel
theorem d_3_init_22 : decode prog_5_method_1_code 22 = .ok (.bipush 31, 2) := by decide +kernel
theorem d_3_init_24 : decode prog_5_method_1_code 24 = .ok (.invokespecial 11, 3) := by decide +kernel
theorem d_3_init_27 : decode prog_5_method_1_code 27 = .ok (.putfield 20, 3) := by decide +kernel
theorem d_3_init_30 : decode prog_5_method_1_code 30 = .ok (.aload_n 0, 1) := by decide +kernel
theorem d_3_init_31 : decode prog_5_method_1_code 31 = .ok (.new 9, 3) := by decide +kernel
theorem d_3_init_34 : decode prog_5_method_1_code 34 = .ok (.dup, 1) := by decide +kernel
theorem d_3_init_35 : decode prog_5_method_1_code 35 = .ok (.bipush 31, 2) := by decide +kernel
theorem d_3_init_37 : decode prog_5_method_1_code 37 = .ok (.invokespecial 11, 3) := by decide +kernel
theorem d_3_init_40 : decode prog_5_method_1_code 40 = .ok (.putfield 23, 3) := by decide +kernel
theorem d_3_init_43 : decode prog_5_method_1_code 43 = .ok (.aload_n 0, 1) := by decide +kernel
theorem d_3_init_44 : decode prog_5_method_1_code 44 = .ok (.new 9, 3) := by decide +kernel
theorem d_3_init_47 : decode prog_5_method_1_code 47 = .ok (.dup, 1) := by decide +kernel
theorem d_3_init_48 : decode prog_5_method_1_code 48 = .ok (.bipush 31, 2) := by decide +kernel
theorem d_3_init_50 : decode prog_5_method_1_code 50 = .ok (.invokespecial 11, 3) := by decide +kernel
theorem d_3_init_53 : decode prog_5_method_1_code 53 = .ok (.putfield 26, 3) := by decide +kernel
theorem d_3_init_56 : decode prog_5_method_1_code 56 = .ok (.aload_n 0, 1) := by decide +kernel
theorem d_3_init_57 : decode prog_5_method_1_code 57 = .ok (.new 9, 3) := by decide +kernel
theorem d_3_init_60 : decode prog_5_method_1_code 60 = .ok (.dup, 1) := by decide +kernel
theorem d_3_init_61 : decode prog_5_method_1_code 61 = .ok (.bipush 31, 2) := by decide +kernel
theorem d_3_init_63 : decode prog_5_method_1_code 63 = .ok (.invokespecial 11, 3) := by decide +kernel
theorem d_3_init_66 : decode prog_5_method_1_code 66 = .ok (.putfield 29, 3) := by decide +kernel
theorem d_3_init_69 : decode prog_5_method_1_code 69 = .ok (.aload_n 0, 1) := by decide +kernel
theorem d_3_init_70 : decode prog_5_method_1_code 70 = .ok (.new 9, 3) := by decide +kernel
theorem d_3_init_73 : decode prog_5_method_1_code 73 = .ok (.dup, 1) := by decide +kernel
theorem d_3_init_74 : decode prog_5_method_1_code 74 = .ok (.bipush 31, 2) := by decide +kernel
theorem d_3_init_76 : decode prog_5_method_1_code 76 = .ok (.invokespecial 11, 3) := by decide +kernel
theorem d_3_init_79 : decode prog_5_method_1_code 79 = .ok (.putfield 32, 3) := by decide +kernel
theorem d_3_init_82 : decode prog_5_method_1_code 82 = .ok (.aload_n 0, 1) := by decide +kernel
theorem d_3_init_83 : decode prog_5_method_1_code 83 = .ok (.new 9, 3) := by decide +kernel
theorem d_3_init_86 : decode prog_5_method_1_code 86 = .ok (.dup, 1) := by decide +kernel
theorem d_3_init_87 : decode prog_5_method_1_code 87 = .ok (.bipush 10, 2) := by decide +kernel
theorem d_3_init_89 : decode prog_5_method_1_code 89 = .ok (.invokespecial 11, 3) := by decide +kernel
theorem d_3_init_92 : decode prog_5_method_1_code 92 = .ok (.putfield 35, 3) := by decide +kernel
theorem d_3_init_95 : decode prog_5_method_1_code 95 = .ok (.aload_n 0, 1) := by decide +kernel
theorem d_3_init_96 : decode prog_5_method_1_code 96 = .ok (.new 9, 3) := by decide +kernel
theorem d_3_init_99 : decode prog_5_method_1_code 99 = .ok (.dup, 1) := by decide +kernel
theorem d_3_init_100 : decode prog_5_method_1_code 100 = .ok (.bipush 10, 2) := by decide +kernel
theorem d_3_init_102 : decode prog_5_method_1_code 102 = .ok (.invokespecial 11, 3) := by decide +kernel
theorem d_3_init_105 : decode prog_5_method_1_code 105 = .ok (.putfield 38, 3) := by decide +kernel
theorem d_3_init_108 : decode prog_5_method_1_code 108 = .ok (.aload_n 0, 1) := by decide +kernel
theorem d_3_init_109 : decode prog_5_method_1_code 109 = .ok (.iconst (-1), 1) := by decide +kernel
theorem d_3_init_110 : decode prog_5_method_1_code 110 = .ok (.putfield 41, 3) := by decide +kernel
theorem d_3_init_113 : decode prog_5_method_1_code 113 = .ok (.aload_n 0, 1) := by decide +kernel
theorem d_3_init_114 : decode prog_5_method_1_code 114 = .ok (.aload_n 1, 1) := by decide +kernel
theorem d_3_init_115 : decode prog_5_method_1_code 115 = .ok (.putfield 45, 3) := by decide +kernel
theorem d_3_init_118 : decode prog_5_method_1_code 118 = .ok (.aload_n 0, 1) := by decide +kernel
theorem d_3_init_119 : decode prog_5_method_1_code 119 = .ok (.aload_n 2, 1) := by decide +kernel
theorem d_3_init_120 : decode prog_5_method_1_code 120 = .ok (.putfield 49, 3) := by decide +kernel
theorem d_3_init_123 : decode prog_5_method_1_code 123 = .ok (.return_, 1) := by decide +kernel
def wp_3_init (S : hm_S) (T : hm_T) (Q : hm_S → hm_T → Prop) : Prop :=
  ((∀ k, S 20 k = 0) ∧ (∀ k, T 20 k = 0) ∧ wp_5_init 21 S T (fun S1 T1 => ((∀ k, S1 22 k = 0) ∧ (∀ k, T1 22 k = 0) ∧ wp_5_init 23 S1 T1 (fun S2 T2 => ((∀ k, S2 24 k = 0) ∧ (∀ k, T2 24 k = 0) ∧ wp_5_init 25 S2 T2 (fun S3 T3 => ((∀ k, S3 26 k = 0) ∧ (∀ k, T3 26 k = 0) ∧ wp_5_init 27 S3 T3 (fun S4 T4 => ((∀ k, S4 28 k = 0) ∧ (∀ k, T4 28 k = 0) ∧ wp_5_init 29 S4 T4 (fun S5 T5 => ((∀ k, S5 30 k = 0) ∧ (∀ k, T5 30 k = 0) ∧ wp_5_init 31 S5 T5 (fun S6 T6 => ((∀ k, S6 32 k = 0) ∧ (∀ k, T6 32 k = 0) ∧ wp_5_init 33 S6 T6 (fun S7 T7 => ((∀ k, S7 34 k = 0) ∧ (∀ k, T7 34 k = 0) ∧ wp_5_init 35 S7 T7 (fun S8 T8 => Q (hm_up S8 19 12 (-1)) T8))))))))))))))))
set_option maxHeartbeats 4000000 in
set_option maxRecDepth 20000 in
theorem bk_3_init_0 {Q : hm_S → hm_T → Prop} (cx : hm_cx G p s m args c prog_5_method_1_code 3 "HeapGames$Moves") (hr : meth.sig.returnType = none) (hlk : meth.locks = false) (hin : meth.name = "<init>") {S : hm_S} {T : hm_T} {H : Heap} {locs : List Loc} {ls : Array Slot} (h : wp_3_init S T Q) (hw : hm_wc G H0 o lc_27 S T H) (hL : hm_Lc o locs) (hl : lv_has ls 3 [(0, .ref (o + 19)), (1, .ref (o + 1)), (2, .ref (o + 4))]) : W p l e rm_3_init s m args below meth c H locs 0 0 (MQ below (hm_Qcc G H0 o lc_26 Q) args s 16 214 (hm_ge o)) (F0 m 0 ls []) := by
  have hx := cx.1.1
  have hb := cx.1.2.1
  unfold wp_3_init at h
  refine lv_aload_n hx hb d_3_init_0 rfl (lv_at hl 0 rfl) ?_
  refine W.objInit hx hb cx.1.2.2.2.1 (cx.1.2.2.2.2 _ hq_203) (cx.1.2.2.2.2 _ hq_98) (cx.1.2.2.2.2 _ hq_99) rfl (hl.1.trans cx.1.2.2.1.symm) rfl d_3_init_1 (Nat.le_of_ble_eq_true rfl) (Nat.le_of_ble_eq_true rfl) ?_
  refine lv_aload_n hx hb d_3_init_4 rfl (lv_at hl 0 rfl) ?_
  obtain ⟨h0, h1, h⟩ := h
  refine hm_cnew (ci := 5) cx hw hin_5 tyX5 tyX5_ok rfl hq_204 hq_107 hq_76 [1] dfX5 h0 h1 (Nat.le_of_ble_eq_true rfl) (Nat.le_of_ble_eq_true rfl) d_3_init_5 (fun H hw => ?_)
  replace hw : hm_wc G H0 o lc_28 _ _ H := hw
  refine lv_dup hx hb d_3_init_8 rfl ?_
  refine lv_bipush (v := 31) hx hb d_3_init_9 (by decide) ?_
  refine hm_cinit (hm_rI (i := 20) (As := [.int 31]) (rest := [.ref (o + 20), .ref (o + 19)]) cx hw (ct_5_init (L := 31) rfl rfl (by decide) h) (mi_3_11 (L := 31) cx.1.2.2.2.2 ⟨Nat.le_of_ble_eq_true rfl, Nat.le_of_ble_eq_true rfl⟩) rfl hl.1 rfl (Nat.le_of_ble_eq_true rfl) d_3_init_11 ⟨Nat.le_of_ble_eq_true rfl, Nat.le_of_ble_eq_true rfl⟩) hL (fun S1 T1 H locs h hw hL => ?_)
  replace hw : hm_wc G H0 o lc_29 _ _ H := hw
  refine hm_cputF (ci := 3) cx hw hin_3 tyX3 tyX3_ok nmX3 rfl 2 (by decide) hq_208 rfl rfl hin (i := 19) (r := 20) (fs := [1, 1, 1, 1, 1, 1, 1, 1, 1, 1, 0, 0, 0]) rfl rfl rfl (by decide) hL d_3_init_14 (fun H locs hw hL => ?_)
  replace hw : hm_wc G H0 o lc_30 _ _ H := hw
  refine lv_aload_n hx hb d_3_init_17 rfl (lv_at hl 0 rfl) ?_
  obtain ⟨h0, h1, h⟩ := h
  refine hm_cnew (ci := 5) cx hw hin_5 tyX5 tyX5_ok rfl hq_204 hq_107 hq_76 [1] dfX5 h0 h1 (Nat.le_of_ble_eq_true rfl) (Nat.le_of_ble_eq_true rfl) d_3_init_18 (fun H hw => ?_)
  replace hw : hm_wc G H0 o lc_31 _ _ H := hw
  refine lv_dup hx hb d_3_init_21 rfl ?_
  refine lv_bipush (v := 31) hx hb d_3_init_22 (by decide) ?_
  refine hm_cinit (hm_rI (i := 22) (As := [.int 31]) (rest := [.ref (o + 22), .ref (o + 19)]) cx hw (ct_5_init (L := 31) rfl rfl (by decide) h) (mi_3_11 (L := 31) cx.1.2.2.2.2 ⟨Nat.le_of_ble_eq_true rfl, Nat.le_of_ble_eq_true rfl⟩) rfl hl.1 rfl (Nat.le_of_ble_eq_true rfl) d_3_init_24 ⟨Nat.le_of_ble_eq_true rfl, Nat.le_of_ble_eq_true rfl⟩) hL (fun S2 T2 H locs h hw hL => ?_)
  replace hw : hm_wc G H0 o lc_32 _ _ H := hw
  refine hm_cputF (ci := 3) cx hw hin_3 tyX3 tyX3_ok nmX3 rfl 3 (by decide) hq_210 rfl rfl hin (i := 19) (r := 22) (fs := [1, 1, 23, 1, 1, 1, 1, 1, 1, 1, 0, 0, 0]) rfl rfl rfl (by decide) hL d_3_init_27 (fun H locs hw hL => ?_)
  replace hw : hm_wc G H0 o lc_33 _ _ H := hw
  refine lv_aload_n hx hb d_3_init_30 rfl (lv_at hl 0 rfl) ?_
  obtain ⟨h0, h1, h⟩ := h
  refine hm_cnew (ci := 5) cx hw hin_5 tyX5 tyX5_ok rfl hq_204 hq_107 hq_76 [1] dfX5 h0 h1 (Nat.le_of_ble_eq_true rfl) (Nat.le_of_ble_eq_true rfl) d_3_init_31 (fun H hw => ?_)
  replace hw : hm_wc G H0 o lc_34 _ _ H := hw
  refine lv_dup hx hb d_3_init_34 rfl ?_
  refine lv_bipush (v := 31) hx hb d_3_init_35 (by decide) ?_
  refine hm_cinit (hm_rI (i := 24) (As := [.int 31]) (rest := [.ref (o + 24), .ref (o + 19)]) cx hw (ct_5_init (L := 31) rfl rfl (by decide) h) (mi_3_11 (L := 31) cx.1.2.2.2.2 ⟨Nat.le_of_ble_eq_true rfl, Nat.le_of_ble_eq_true rfl⟩) rfl hl.1 rfl (Nat.le_of_ble_eq_true rfl) d_3_init_37 ⟨Nat.le_of_ble_eq_true rfl, Nat.le_of_ble_eq_true rfl⟩) hL (fun S3 T3 H locs h hw hL => ?_)
  replace hw : hm_wc G H0 o lc_35 _ _ H := hw
  refine hm_cputF (ci := 3) cx hw hin_3 tyX3 tyX3_ok nmX3 rfl 4 (by decide) hq_212 rfl rfl hin (i := 19) (r := 24) (fs := [1, 1, 23, 25, 1, 1, 1, 1, 1, 1, 0, 0, 0]) rfl rfl rfl (by decide) hL d_3_init_40 (fun H locs hw hL => ?_)
  replace hw : hm_wc G H0 o lc_36 _ _ H := hw
  refine lv_aload_n hx hb d_3_init_43 rfl (lv_at hl 0 rfl) ?_
  obtain ⟨h0, h1, h⟩ := h
  refine hm_cnew (ci := 5) cx hw hin_5 tyX5 tyX5_ok rfl hq_204 hq_107 hq_76 [1] dfX5 h0 h1 (Nat.le_of_ble_eq_true rfl) (Nat.le_of_ble_eq_true rfl) d_3_init_44 (fun H hw => ?_)
  replace hw : hm_wc G H0 o lc_37 _ _ H := hw
  refine lv_dup hx hb d_3_init_47 rfl ?_
  refine lv_bipush (v := 31) hx hb d_3_init_48 (by decide) ?_
  refine hm_cinit (hm_rI (i := 26) (As := [.int 31]) (rest := [.ref (o + 26), .ref (o + 19)]) cx hw (ct_5_init (L := 31) rfl rfl (by decide) h) (mi_3_11 (L := 31) cx.1.2.2.2.2 ⟨Nat.le_of_ble_eq_true rfl, Nat.le_of_ble_eq_true rfl⟩) rfl hl.1 rfl (Nat.le_of_ble_eq_true rfl) d_3_init_50 ⟨Nat.le_of_ble_eq_true rfl, Nat.le_of_ble_eq_true rfl⟩) hL (fun S4 T4 H locs h hw hL => ?_)
  replace hw : hm_wc G H0 o lc_38 _ _ H := hw
  refine hm_cputF (ci := 3) cx hw hin_3 tyX3 tyX3_ok nmX3 rfl 5 (by decide) hq_214 rfl rfl hin (i := 19) (r := 26) (fs := [1, 1, 23, 25, 27, 1, 1, 1, 1, 1, 0, 0, 0]) rfl rfl rfl (by decide) hL d_3_init_53 (fun H locs hw hL => ?_)
  replace hw : hm_wc G H0 o lc_39 _ _ H := hw
  refine lv_aload_n hx hb d_3_init_56 rfl (lv_at hl 0 rfl) ?_
  obtain ⟨h0, h1, h⟩ := h
  refine hm_cnew (ci := 5) cx hw hin_5 tyX5 tyX5_ok rfl hq_204 hq_107 hq_76 [1] dfX5 h0 h1 (Nat.le_of_ble_eq_true rfl) (Nat.le_of_ble_eq_true rfl) d_3_init_57 (fun H hw => ?_)
  replace hw : hm_wc G H0 o lc_40 _ _ H := hw
  refine lv_dup hx hb d_3_init_60 rfl ?_
  refine lv_bipush (v := 31) hx hb d_3_init_61 (by decide) ?_
  refine hm_cinit (hm_rI (i := 28) (As := [.int 31]) (rest := [.ref (o + 28), .ref (o + 19)]) cx hw (ct_5_init (L := 31) rfl rfl (by decide) h) (mi_3_11 (L := 31) cx.1.2.2.2.2 ⟨Nat.le_of_ble_eq_true rfl, Nat.le_of_ble_eq_true rfl⟩) rfl hl.1 rfl (Nat.le_of_ble_eq_true rfl) d_3_init_63 ⟨Nat.le_of_ble_eq_true rfl, Nat.le_of_ble_eq_true rfl⟩) hL (fun S5 T5 H locs h hw hL => ?_)
  replace hw : hm_wc G H0 o lc_41 _ _ H := hw
  refine hm_cputF (ci := 3) cx hw hin_3 tyX3 tyX3_ok nmX3 rfl 6 (by decide) hq_216 rfl rfl hin (i := 19) (r := 28) (fs := [1, 1, 23, 25, 27, 29, 1, 1, 1, 1, 0, 0, 0]) rfl rfl rfl (by decide) hL d_3_init_66 (fun H locs hw hL => ?_)
  replace hw : hm_wc G H0 o lc_42 _ _ H := hw
  refine lv_aload_n hx hb d_3_init_69 rfl (lv_at hl 0 rfl) ?_
  obtain ⟨h0, h1, h⟩ := h
  refine hm_cnew (ci := 5) cx hw hin_5 tyX5 tyX5_ok rfl hq_204 hq_107 hq_76 [1] dfX5 h0 h1 (Nat.le_of_ble_eq_true rfl) (Nat.le_of_ble_eq_true rfl) d_3_init_70 (fun H hw => ?_)
  replace hw : hm_wc G H0 o lc_43 _ _ H := hw
  refine lv_dup hx hb d_3_init_73 rfl ?_
  refine lv_bipush (v := 31) hx hb d_3_init_74 (by decide) ?_
  refine hm_cinit (hm_rI (i := 30) (As := [.int 31]) (rest := [.ref (o + 30), .ref (o + 19)]) cx hw (ct_5_init (L := 31) rfl rfl (by decide) h) (mi_3_11 (L := 31) cx.1.2.2.2.2 ⟨Nat.le_of_ble_eq_true rfl, Nat.le_of_ble_eq_true rfl⟩) rfl hl.1 rfl (Nat.le_of_ble_eq_true rfl) d_3_init_76 ⟨Nat.le_of_ble_eq_true rfl, Nat.le_of_ble_eq_true rfl⟩) hL (fun S6 T6 H locs h hw hL => ?_)
  replace hw : hm_wc G H0 o lc_44 _ _ H := hw
  refine hm_cputF (ci := 3) cx hw hin_3 tyX3 tyX3_ok nmX3 rfl 7 (by decide) hq_218 rfl rfl hin (i := 19) (r := 30) (fs := [1, 1, 23, 25, 27, 29, 31, 1, 1, 1, 0, 0, 0]) rfl rfl rfl (by decide) hL d_3_init_79 (fun H locs hw hL => ?_)
  replace hw : hm_wc G H0 o lc_45 _ _ H := hw
  refine lv_aload_n hx hb d_3_init_82 rfl (lv_at hl 0 rfl) ?_
  obtain ⟨h0, h1, h⟩ := h
  refine hm_cnew (ci := 5) cx hw hin_5 tyX5 tyX5_ok rfl hq_204 hq_107 hq_76 [1] dfX5 h0 h1 (Nat.le_of_ble_eq_true rfl) (Nat.le_of_ble_eq_true rfl) d_3_init_83 (fun H hw => ?_)
  replace hw : hm_wc G H0 o lc_46 _ _ H := hw
  refine lv_dup hx hb d_3_init_86 rfl ?_
  refine lv_bipush (v := 10) hx hb d_3_init_87 (by decide) ?_
  refine hm_cinit (hm_rI (i := 32) (As := [.int 10]) (rest := [.ref (o + 32), .ref (o + 19)]) cx hw (ct_5_init (L := 10) rfl rfl (by decide) h) (mi_3_11 (L := 10) cx.1.2.2.2.2 ⟨Nat.le_of_ble_eq_true rfl, Nat.le_of_ble_eq_true rfl⟩) rfl hl.1 rfl (Nat.le_of_ble_eq_true rfl) d_3_init_89 ⟨Nat.le_of_ble_eq_true rfl, Nat.le_of_ble_eq_true rfl⟩) hL (fun S7 T7 H locs h hw hL => ?_)
  replace hw : hm_wc G H0 o lc_47 _ _ H := hw
  refine hm_cputF (ci := 3) cx hw hin_3 tyX3 tyX3_ok nmX3 rfl 8 (by decide) hq_219 rfl rfl hin (i := 19) (r := 32) (fs := [1, 1, 23, 25, 27, 29, 31, 33, 1, 1, 0, 0, 0]) rfl rfl rfl (by decide) hL d_3_init_92 (fun H locs hw hL => ?_)
  replace hw : hm_wc G H0 o lc_48 _ _ H := hw
  refine lv_aload_n hx hb d_3_init_95 rfl (lv_at hl 0 rfl) ?_
  obtain ⟨h0, h1, h⟩ := h
  refine hm_cnew (ci := 5) cx hw hin_5 tyX5 tyX5_ok rfl hq_204 hq_107 hq_76 [1] dfX5 h0 h1 (Nat.le_of_ble_eq_true rfl) (Nat.le_of_ble_eq_true rfl) d_3_init_96 (fun H hw => ?_)
  replace hw : hm_wc G H0 o lc_49 _ _ H := hw
  refine lv_dup hx hb d_3_init_99 rfl ?_
  refine lv_bipush (v := 10) hx hb d_3_init_100 (by decide) ?_
  refine hm_cinit (hm_rI (i := 34) (As := [.int 10]) (rest := [.ref (o + 34), .ref (o + 19)]) cx hw (ct_5_init (L := 10) rfl rfl (by decide) h) (mi_3_11 (L := 10) cx.1.2.2.2.2 ⟨Nat.le_of_ble_eq_true rfl, Nat.le_of_ble_eq_true rfl⟩) rfl hl.1 rfl (Nat.le_of_ble_eq_true rfl) d_3_init_102 ⟨Nat.le_of_ble_eq_true rfl, Nat.le_of_ble_eq_true rfl⟩) hL (fun S8 T8 H locs h hw hL => ?_)
  replace hw : hm_wc G H0 o lc_50 _ _ H := hw
  refine hm_cputF (ci := 3) cx hw hin_3 tyX3 tyX3_ok nmX3 rfl 9 (by decide) hq_220 rfl rfl hin (i := 19) (r := 34) (fs := [1, 1, 23, 25, 27, 29, 31, 33, 35, 1, 0, 0, 0]) rfl rfl rfl (by decide) hL d_3_init_105 (fun H locs hw hL => ?_)
  replace hw : hm_wc G H0 o lc_51 _ _ H := hw
  refine lv_aload_n hx hb d_3_init_108 rfl (lv_at hl 0 rfl) ?_
  refine lv_iconst (v := (-1)) hx hb d_3_init_109 (by decide) ?_
  refine hm_cputi (ci := 3) cx hw hin_3 tyX3 tyX3_ok nmX3 rfl 12 (by decide) hq_225 rfl rfl (i := 19) (fs := [1, 1, 23, 25, 27, 29, 31, 33, 35, 37, 0, 0, 0]) rfl rfl (v := (-1)) rfl rfl hL d_3_init_110 (fun H locs hw hL => ?_)
  refine lv_aload_n hx hb d_3_init_113 rfl (lv_at hl 0 rfl) ?_
  refine lv_aload_n hx hb d_3_init_114 rfl (lv_at hl 1 rfl) ?_
  refine hm_cputF (ci := 3) cx hw hin_3 tyX3 tyX3_ok nmX3 rfl 0 (by decide) hq_206 rfl rfl hin (i := 19) (r := 1) (fs := [1, 1, 23, 25, 27, 29, 31, 33, 35, 37, 0, 0, 0]) rfl rfl rfl (by decide) hL d_3_init_115 (fun H locs hw hL => ?_)
  replace hw : hm_wc G H0 o lc_52 _ _ H := hw
  refine lv_aload_n hx hb d_3_init_118 rfl (lv_at hl 0 rfl) ?_
  refine lv_aload_n hx hb d_3_init_119 rfl (lv_at hl 2 rfl) ?_
  refine hm_cputF (ci := 3) cx hw hin_3 tyX3 tyX3_ok nmX3 rfl 1 (by decide) hq_207 rfl rfl hin (i := 19) (r := 4) (fs := [4, 1, 23, 25, 27, 29, 31, 33, 35, 37, 0, 0, 0]) rfl rfl rfl (by decide) hL d_3_init_120 (fun H locs hw hL => ?_)
  replace hw : hm_wc G H0 o lc_26 _ _ H := hw
  exact W.vret hx hb hr (fun t ht _ => ⟨_, _, rfl, h, by rw [ht]; exact hw⟩) hL d_3_init_123
set_option maxHeartbeats 4000000 in
set_option maxRecDepth 20000 in
theorem ct_3_init {S : hm_S} {T : hm_T} {Q : hm_S → hm_T → Prop} (h : wp_3_init S T Q) : Met l y_3_init (hm_ws y_3_init prog_5_method_1_code 3 none) rm_3_init (hm_Pcc G H0 o lc_27 S T [.ref (o + 19), .ref (o + 1), .ref (o + 4)]) (hm_Qcc G H0 o lc_26 Q) 16 214 (hm_ge o) := by
  refine Met.ofW (cc := prog_5_method_1_code) (maxL := 3) (ret := none) (by decide) rfl ?_
  intro p e s m args below meth c s₁ B hml hv
  obtain ⟨rfl, hK, hw⟩ := hv
  have cx : hm_cx G p s m _ c prog_5_method_1_code 3 "HeapGames$Moves" := ⟨⟨B.exec, B.bytes, hml, findClass_of_methodNamed B.named, fun w hq => atoms_spec (ws := hm_ws y_3_init prog_5_method_1_code 3 none) B.pre w (List.mem_cons_of_mem _ hq)⟩, hK⟩
  have hl := lv_entry ([.ref (o + 19), .ref (o + 1), .ref (o + 4)]) (n := 3) (Nat.le_of_ble_eq_true rfl)
  rw [lg_entry_eq]
  generalize (lg_sl ([.ref (o + 19), .ref (o + 1), .ref (o + 4)]) ++ List.replicate (3 - (lg_sl ([.ref (o + 19), .ref (o + 1), .ref (o + 4)])).length) Slot.unset).toArray = ls at hl ⊢
  have hl : lv_has ls 3 [(0, .ref (o + 19)), (1, .ref (o + 1)), (2, .ref (o + 4))] := hl
  exact bk_3_init_0 cx B.returns B.notSynchronized (name_of_methodNamed B.named B.method).1 h hw (hm_Lc0 _) hl
/-! ===== HeapGames$Solver ===== -/
theorem d_8_init_0 : decode prog_10_method_1_code 0 = .ok (.aload_n 0, 1) := by decide +kernel
theorem d_8_init_1 : decode prog_10_method_1_code 1 = .ok (.invokespecial 3, 3) := by decide +kernel
theorem d_8_init_4 : decode prog_10_method_1_code 4 = .ok (.aload_n 0, 1) := by decide +kernel
theorem d_8_init_5 : decode prog_10_method_1_code 5 = .ok (.new 9, 3) := by decide +kernel
theorem d_8_init_8 : decode prog_10_method_1_code 8 = .ok (.dup, 1) := by decide +kernel
theorem d_8_init_9 : decode prog_10_method_1_code 9 = .ok (.sipush 2430, 3) := by decide +kernel
theorem d_8_init_12 : decode prog_10_method_1_code 12 = .ok (.invokespecial 11, 3) := by decide +kernel
theorem d_8_init_15 : decode prog_10_method_1_code 15 = .ok (.putfield 14, 3) := by decide +kernel
theorem d_8_init_18 : decode prog_10_method_1_code 18 = .ok (.aload_n 0, 1) := by decide +kernel
theorem d_8_init_19 : decode prog_10_method_1_code 19 = .ok (.new 9, 3) := by decide +kernel
theorem d_8_init_22 : decode prog_10_method_1_code 22 = .ok (.dup, 1) := by decide +kernel
theorem d_8_init_23 : decode prog_10_method_1_code 23 = .ok (.sipush 2430, 3) := by decide +kernel
theorem d_8_init_26 : decode prog_10_method_1_code 26 = .ok (.invokespecial 11, 3) := by decide +kernel
theorem d_8_init_29 : decode prog_10_method_1_code 29 = .ok (.putfield 20, 3) := by decide +kernel
theorem d_8_init_32 : decode prog_10_method_1_code 32 = .ok (.aload_n 0, 1) := by decide +kernel
theorem d_8_init_33 : decode prog_10_method_1_code 33 = .ok (.new 9, 3) := by decide +kernel
theorem d_8_init_36 : decode prog_10_method_1_code 36 = .ok (.dup, 1) := by decide +kernel
theorem d_8_init_37 : decode prog_10_method_1_code 37 = .ok (.sipush 2431, 3) := by decide +kernel
theorem d_8_init_40 : decode prog_10_method_1_code 40 = .ok (.invokespecial 11, 3) := by decide +kernel
theorem d_8_init_43 : decode prog_10_method_1_code 43 = .ok (.putfield 23, 3) := by decide +kernel
theorem d_8_init_46 : decode prog_10_method_1_code 46 = .ok (.aload_n 0, 1) := by decide +kernel
theorem d_8_init_47 : decode prog_10_method_1_code 47 = .ok (.new 9, 3) := by decide +kernel
theorem d_8_init_50 : decode prog_10_method_1_code 50 = .ok (.dup, 1) := by decide +kernel
theorem d_8_init_51 : decode prog_10_method_1_code 51 = .ok (.sipush 15010, 3) := by decide +kernel
theorem d_8_init_54 : decode prog_10_method_1_code 54 = .ok (.invokespecial 11, 3) := by decide +kernel
theorem d_8_init_57 : decode prog_10_method_1_code 57 = .ok (.putfield 26, 3) := by decide +kernel
theorem d_8_init_60 : decode prog_10_method_1_code 60 = .ok (.aload_n 0, 1) := by decide +kernel
theorem d_8_init_61 : decode prog_10_method_1_code 61 = .ok (.new 9, 3) := by decide +kernel
theorem d_8_init_64 : decode prog_10_method_1_code 64 = .ok (.dup, 1) := by decide +kernel
theorem d_8_init_65 : decode prog_10_method_1_code 65 = .ok (.sipush 2431, 3) := by decide +kernel
theorem d_8_init_68 : decode prog_10_method_1_code 68 = .ok (.invokespecial 11, 3) := by decide +kernel
theorem d_8_init_71 : decode prog_10_method_1_code 71 = .ok (.putfield 29, 3) := by decide +kernel
theorem d_8_init_74 : decode prog_10_method_1_code 74 = .ok (.aload_n 0, 1) := by decide +kernel
theorem d_8_init_75 : decode prog_10_method_1_code 75 = .ok (.new 9, 3) := by decide +kernel
theorem d_8_init_78 : decode prog_10_method_1_code 78 = .ok (.dup, 1) := by decide +kernel
theorem d_8_init_79 : decode prog_10_method_1_code 79 = .ok (.sipush 15010, 3) := by decide +kernel
theorem d_8_init_82 : decode prog_10_method_1_code 82 = .ok (.invokespecial 11, 3) := by decide +kernel
theorem d_8_init_85 : decode prog_10_method_1_code 85 = .ok (.putfield 32, 3) := by decide +kernel
theorem d_8_init_88 : decode prog_10_method_1_code 88 = .ok (.aload_n 0, 1) := by decide +kernel
theorem d_8_init_89 : decode prog_10_method_1_code 89 = .ok (.new 9, 3) := by decide +kernel
theorem d_8_init_92 : decode prog_10_method_1_code 92 = .ok (.dup, 1) := by decide +kernel
theorem d_8_init_93 : decode prog_10_method_1_code 93 = .ok (.sipush 2430, 3) := by decide +kernel
theorem d_8_init_96 : decode prog_10_method_1_code 96 = .ok (.invokespecial 11, 3) := by decide +kernel
theorem d_8_init_99 : decode prog_10_method_1_code 99 = .ok (.putfield 35, 3) := by decide +kernel
theorem d_8_init_102 : decode prog_10_method_1_code 102 = .ok (.aload_n 0, 1) := by decide +kernel
theorem d_8_init_103 : decode prog_10_method_1_code 103 = .ok (.new 9, 3) := by decide +kernel
theorem d_8_init_106 : decode prog_10_method_1_code 106 = .ok (.dup, 1) := by decide +kernel
theorem d_8_init_107 : decode prog_10_method_1_code 107 = .ok (.sipush 2430, 3) := by decide +kernel
theorem d_8_init_110 : decode prog_10_method_1_code 110 = .ok (.invokespecial 11, 3) := by decide +kernel
theorem d_8_init_113 : decode prog_10_method_1_code 113 = .ok (.putfield 38, 3) := by decide +kernel
theorem d_8_init_116 : decode prog_10_method_1_code 116 = .ok (.aload_n 0, 1) := by decide +kernel
theorem d_8_init_117 : decode prog_10_method_1_code 117 = .ok (.new 9, 3) := by decide +kernel
theorem d_8_init_120 : decode prog_10_method_1_code 120 = .ok (.dup, 1) := by decide +kernel
theorem d_8_init_121 : decode prog_10_method_1_code 121 = .ok (.sipush 2430, 3) := by decide +kernel
theorem d_8_init_124 : decode prog_10_method_1_code 124 = .ok (.invokespecial 11, 3) := by decide +kernel
theorem d_8_init_127 : decode prog_10_method_1_code 127 = .ok (.putfield 41, 3) := by decide +kernel
theorem d_8_init_130 : decode prog_10_method_1_code 130 = .ok (.aload_n 0, 1) := by decide +kernel
theorem d_8_init_131 : decode prog_10_method_1_code 131 = .ok (.new 9, 3) := by decide +kernel
theorem d_8_init_134 : decode prog_10_method_1_code 134 = .ok (.dup, 1) := by decide +kernel
theorem d_8_init_135 : decode prog_10_method_1_code 135 = .ok (.sipush 2430, 3) := by decide +kernel
theorem d_8_init_138 : decode prog_10_method_1_code 138 = .ok (.invokespecial 11, 3) := by decide +kernel
theorem d_8_init_141 : decode prog_10_method_1_code 141 = .ok (.putfield 44, 3) := by decide +kernel
theorem d_8_init_144 : decode prog_10_method_1_code 144 = .ok (.aload_n 0, 1) := by decide +kernel
theorem d_8_init_145 : decode prog_10_method_1_code 145 = .ok (.new 9, 3) := by decide +kernel
theorem d_8_init_148 : decode prog_10_method_1_code 148 = .ok (.dup, 1) := by decide +kernel
theorem d_8_init_149 : decode prog_10_method_1_code 149 = .ok (.sipush 2430, 3) := by decide +kernel
theorem d_8_init_152 : decode prog_10_method_1_code 152 = .ok (.invokespecial 11, 3) := by decide +kernel
theorem d_8_init_155 : decode prog_10_method_1_code 155 = .ok (.putfield 47, 3) := by decide +kernel
theorem d_8_init_158 : decode prog_10_method_1_code 158 = .ok (.aload_n 0, 1) := by decide +kernel
theorem d_8_init_159 : decode prog_10_method_1_code 159 = .ok (.aload_n 1, 1) := by decide +kernel
theorem d_8_init_160 : decode prog_10_method_1_code 160 = .ok (.putfield 50, 3) := by decide +kernel
theorem d_8_init_163 : decode prog_10_method_1_code 163 = .ok (.aload_n 0, 1) := by decide +kernel
theorem d_8_init_164 : decode prog_10_method_1_code 164 = .ok (.aload_n 2, 1) := by decide +kernel
theorem d_8_init_165 : decode prog_10_method_1_code 165 = .ok (.putfield 54, 3) := by decide +kernel
theorem d_8_init_168 : decode prog_10_method_1_code 168 = .ok (.return_, 1) := by decide +kernel
def wp_8_init (S : hm_S) (T : hm_T) (Q : hm_S → hm_T → Prop) : Prop :=
  ((∀ k, S 37 k = 0) ∧ (∀ k, T 37 k = 0) ∧ wp_5_init 38 S T (fun S1 T1 => ((∀ k, S1 39 k = 0) ∧ (∀ k, T1 39 k = 0) ∧ wp_5_init 40 S1 T1 (fun S2 T2 => ((∀ k, S2 41 k = 0) ∧ (∀ k, T2 41 k = 0) ∧ wp_5_init 42 S2 T2 (fun S3 T3 => ((∀ k, S3 43 k = 0) ∧ (∀ k, T3 43 k = 0) ∧ wp_5_init 44 S3 T3 (fun S4 T4 => ((∀ k, S4 45 k = 0) ∧ (∀ k, T4 45 k = 0) ∧ wp_5_init 46 S4 T4 (fun S5 T5 => ((∀ k, S5 47 k = 0) ∧ (∀ k, T5 47 k = 0) ∧ wp_5_init 48 S5 T5 (fun S6 T6 => ((∀ k, S6 49 k = 0) ∧ (∀ k, T6 49 k = 0) ∧ wp_5_init 50 S6 T6 (fun S7 T7 => ((∀ k, S7 51 k = 0) ∧ (∀ k, T7 51 k = 0) ∧ wp_5_init 52 S7 T7 (fun S8 T8 => ((∀ k, S8 53 k = 0) ∧ (∀ k, T8 53 k = 0) ∧ wp_5_init 54 S8 T8 (fun S9 T9 => ((∀ k, S9 55 k = 0) ∧ (∀ k, T9 55 k = 0) ∧ wp_5_init 56 S9 T9 (fun S10 T10 => ((∀ k, S10 57 k = 0) ∧ (∀ k, T10 57 k = 0) ∧ wp_5_init 58 S10 T10 (fun S11 T11 => Q S11 T11))))))))))))))))))))))
set_option maxHeartbeats 4000000 in
set_option maxRecDepth 20000 in
theorem bk_8_init_0 {Q : hm_S → hm_T → Prop} (cx : hm_cx G p s m args c prog_10_method_1_code 3 "HeapGames$Solver") (hr : meth.sig.returnType = none) (hlk : meth.locks = false) (hin : meth.name = "<init>") {S : hm_S} {T : hm_T} {H : Heap} {locs : List Loc} {ls : Array Slot} (h : wp_8_init S T Q) (hw : hm_wc G H0 o lc_54 S T H) (hL : hm_Lc o locs) (hl : lv_has ls 3 [(0, .ref (o + 36)), (1, .ref (o + 1)), (2, .ref (o + 19))]) : W p l e rm_8_init s m args below meth c H locs 0 0 (MQ below (hm_Qcc G H0 o lc_53 Q) args s 22 51903 (hm_ge o)) (F0 m 0 ls []) := by
  have hx := cx.1.1
  have hb := cx.1.2.1
  unfold wp_8_init at h
  refine lv_aload_n hx hb d_8_init_0 rfl (lv_at hl 0 rfl) ?_
  refine W.objInit hx hb cx.1.2.2.2.1 (cx.1.2.2.2.2 _ hq_258) (cx.1.2.2.2.2 _ hq_98) (cx.1.2.2.2.2 _ hq_99) rfl (hl.1.trans cx.1.2.2.1.symm) rfl d_8_init_1 (Nat.le_of_ble_eq_true rfl) (Nat.le_of_ble_eq_true rfl) ?_
  refine lv_aload_n hx hb d_8_init_4 rfl (lv_at hl 0 rfl) ?_
  obtain ⟨h0, h1, h⟩ := h
  refine hm_cnew (ci := 5) cx hw hin_5 tyX5 tyX5_ok rfl hq_259 hq_107 hq_76 [1] dfX5 h0 h1 (Nat.le_of_ble_eq_true rfl) (Nat.le_of_ble_eq_true rfl) d_8_init_5 (fun H hw => ?_)
  replace hw : hm_wc G H0 o lc_55 _ _ H := hw
  refine lv_dup hx hb d_8_init_8 rfl ?_
  refine lv_sipush (v := 2430) hx hb d_8_init_9 (by decide) ?_
  refine hm_cinit (hm_rI (i := 37) (As := [.int 2430]) (rest := [.ref (o + 37), .ref (o + 36)]) cx hw (ct_5_init (L := 2430) rfl rfl (by decide) h) (mi_8_11 (L := 2430) cx.1.2.2.2.2 ⟨Nat.le_of_ble_eq_true rfl, Nat.le_of_ble_eq_true rfl⟩) rfl hl.1 rfl (Nat.le_of_ble_eq_true rfl) d_8_init_12 ⟨Nat.le_of_ble_eq_true rfl, Nat.le_of_ble_eq_true rfl⟩) hL (fun S1 T1 H locs h hw hL => ?_)
  replace hw : hm_wc G H0 o lc_56 _ _ H := hw
  refine hm_cputF (ci := 8) cx hw hin_8 tyX8 tyX8_ok nmX8 rfl 2 (by decide) hq_263 rfl rfl hin (i := 36) (r := 37) (fs := [1, 1, 1, 1, 1, 1, 1, 1, 1, 1, 1, 1, 1, 0, 0, 0]) rfl rfl rfl (by decide) hL d_8_init_15 (fun H locs hw hL => ?_)
  replace hw : hm_wc G H0 o lc_57 _ _ H := hw
  refine lv_aload_n hx hb d_8_init_18 rfl (lv_at hl 0 rfl) ?_
  obtain ⟨h0, h1, h⟩ := h
  refine hm_cnew (ci := 5) cx hw hin_5 tyX5 tyX5_ok rfl hq_259 hq_107 hq_76 [1] dfX5 h0 h1 (Nat.le_of_ble_eq_true rfl) (Nat.le_of_ble_eq_true rfl) d_8_init_19 (fun H hw => ?_)
  replace hw : hm_wc G H0 o lc_58 _ _ H := hw
  refine lv_dup hx hb d_8_init_22 rfl ?_
  refine lv_sipush (v := 2430) hx hb d_8_init_23 (by decide) ?_
  refine hm_cinit (hm_rI (i := 39) (As := [.int 2430]) (rest := [.ref (o + 39), .ref (o + 36)]) cx hw (ct_5_init (L := 2430) rfl rfl (by decide) h) (mi_8_11 (L := 2430) cx.1.2.2.2.2 ⟨Nat.le_of_ble_eq_true rfl, Nat.le_of_ble_eq_true rfl⟩) rfl hl.1 rfl (Nat.le_of_ble_eq_true rfl) d_8_init_26 ⟨Nat.le_of_ble_eq_true rfl, Nat.le_of_ble_eq_true rfl⟩) hL (fun S2 T2 H locs h hw hL => ?_)
  replace hw : hm_wc G H0 o lc_59 _ _ H := hw
  refine hm_cputF (ci := 8) cx hw hin_8 tyX8 tyX8_ok nmX8 rfl 3 (by decide) hq_264 rfl rfl hin (i := 36) (r := 39) (fs := [1, 1, 40, 1, 1, 1, 1, 1, 1, 1, 1, 1, 1, 0, 0, 0]) rfl rfl rfl (by decide) hL d_8_init_29 (fun H locs hw hL => ?_)
  replace hw : hm_wc G H0 o lc_60 _ _ H := hw
  refine lv_aload_n hx hb d_8_init_32 rfl (lv_at hl 0 rfl) ?_
  obtain ⟨h0, h1, h⟩ := h
  refine hm_cnew (ci := 5) cx hw hin_5 tyX5 tyX5_ok rfl hq_259 hq_107 hq_76 [1] dfX5 h0 h1 (Nat.le_of_ble_eq_true rfl) (Nat.le_of_ble_eq_true rfl) d_8_init_33 (fun H hw => ?_)
  replace hw : hm_wc G H0 o lc_61 _ _ H := hw
  refine lv_dup hx hb d_8_init_36 rfl ?_
  refine lv_sipush (v := 2431) hx hb d_8_init_37 (by decide) ?_
  refine hm_cinit (hm_rI (i := 41) (As := [.int 2431]) (rest := [.ref (o + 41), .ref (o + 36)]) cx hw (ct_5_init (L := 2431) rfl rfl (by decide) h) (mi_8_11 (L := 2431) cx.1.2.2.2.2 ⟨Nat.le_of_ble_eq_true rfl, Nat.le_of_ble_eq_true rfl⟩) rfl hl.1 rfl (Nat.le_of_ble_eq_true rfl) d_8_init_40 ⟨Nat.le_of_ble_eq_true rfl, Nat.le_of_ble_eq_true rfl⟩) hL (fun S3 T3 H locs h hw hL => ?_)
  replace hw : hm_wc G H0 o lc_62 _ _ H := hw
  refine hm_cputF (ci := 8) cx hw hin_8 tyX8 tyX8_ok nmX8 rfl 4 (by decide) hq_265 rfl rfl hin (i := 36) (r := 41) (fs := [1, 1, 40, 42, 1, 1, 1, 1, 1, 1, 1, 1, 1, 0, 0, 0]) rfl rfl rfl (by decide) hL d_8_init_43 (fun H locs hw hL => ?_)
  replace hw : hm_wc G H0 o lc_63 _ _ H := hw
  refine lv_aload_n hx hb d_8_init_46 rfl (lv_at hl 0 rfl) ?_
  obtain ⟨h0, h1, h⟩ := h
  refine hm_cnew (ci := 5) cx hw hin_5 tyX5 tyX5_ok rfl hq_259 hq_107 hq_76 [1] dfX5 h0 h1 (Nat.le_of_ble_eq_true rfl) (Nat.le_of_ble_eq_true rfl) d_8_init_47 (fun H hw => ?_)
  replace hw : hm_wc G H0 o lc_64 _ _ H := hw
  refine lv_dup hx hb d_8_init_50 rfl ?_
  refine lv_sipush (v := 15010) hx hb d_8_init_51 (by decide) ?_
  refine hm_cinit (hm_rI (i := 43) (As := [.int 15010]) (rest := [.ref (o + 43), .ref (o + 36)]) cx hw (ct_5_init (L := 15010) rfl rfl (by decide) h) (mi_8_11 (L := 15010) cx.1.2.2.2.2 ⟨Nat.le_of_ble_eq_true rfl, Nat.le_of_ble_eq_true rfl⟩) rfl hl.1 rfl (Nat.le_of_ble_eq_true rfl) d_8_init_54 ⟨Nat.le_of_ble_eq_true rfl, Nat.le_of_ble_eq_true rfl⟩) hL (fun S4 T4 H locs h hw hL => ?_)
  replace hw : hm_wc G H0 o lc_65 _ _ H := hw
  refine hm_cputF (ci := 8) cx hw hin_8 tyX8 tyX8_ok nmX8 rfl 5 (by decide) hq_266 rfl rfl hin (i := 36) (r := 43) (fs := [1, 1, 40, 42, 44, 1, 1, 1, 1, 1, 1, 1, 1, 0, 0, 0]) rfl rfl rfl (by decide) hL d_8_init_57 (fun H locs hw hL => ?_)
  replace hw : hm_wc G H0 o lc_66 _ _ H := hw
  refine lv_aload_n hx hb d_8_init_60 rfl (lv_at hl 0 rfl) ?_
  obtain ⟨h0, h1, h⟩ := h
  refine hm_cnew (ci := 5) cx hw hin_5 tyX5 tyX5_ok rfl hq_259 hq_107 hq_76 [1] dfX5 h0 h1 (Nat.le_of_ble_eq_true rfl) (Nat.le_of_ble_eq_true rfl) d_8_init_61 (fun H hw => ?_)
  replace hw : hm_wc G H0 o lc_67 _ _ H := hw
  refine lv_dup hx hb d_8_init_64 rfl ?_
  refine lv_sipush (v := 2431) hx hb d_8_init_65 (by decide) ?_
  refine hm_cinit (hm_rI (i := 45) (As := [.int 2431]) (rest := [.ref (o + 45), .ref (o + 36)]) cx hw (ct_5_init (L := 2431) rfl rfl (by decide) h) (mi_8_11 (L := 2431) cx.1.2.2.2.2 ⟨Nat.le_of_ble_eq_true rfl, Nat.le_of_ble_eq_true rfl⟩) rfl hl.1 rfl (Nat.le_of_ble_eq_true rfl) d_8_init_68 ⟨Nat.le_of_ble_eq_true rfl, Nat.le_of_ble_eq_true rfl⟩) hL (fun S5 T5 H locs h hw hL => ?_)
  replace hw : hm_wc G H0 o lc_68 _ _ H := hw
  refine hm_cputF (ci := 8) cx hw hin_8 tyX8 tyX8_ok nmX8 rfl 6 (by decide) hq_267 rfl rfl hin (i := 36) (r := 45) (fs := [1, 1, 40, 42, 44, 46, 1, 1, 1, 1, 1, 1, 1, 0, 0, 0]) rfl rfl rfl (by decide) hL d_8_init_71 (fun H locs hw hL => ?_)
  replace hw : hm_wc G H0 o lc_69 _ _ H := hw
  refine lv_aload_n hx hb d_8_init_74 rfl (lv_at hl 0 rfl) ?_
  obtain ⟨h0, h1, h⟩ := h
  refine hm_cnew (ci := 5) cx hw hin_5 tyX5 tyX5_ok rfl hq_259 hq_107 hq_76 [1] dfX5 h0 h1 (Nat.le_of_ble_eq_true rfl) (Nat.le_of_ble_eq_true rfl) d_8_init_75 (fun H hw => ?_)
  replace hw : hm_wc G H0 o lc_70 _ _ H := hw
  refine lv_dup hx hb d_8_init_78 rfl ?_
  refine lv_sipush (v := 15010) hx hb d_8_init_79 (by decide) ?_
  refine hm_cinit (hm_rI (i := 47) (As := [.int 15010]) (rest := [.ref (o + 47), .ref (o + 36)]) cx hw (ct_5_init (L := 15010) rfl rfl (by decide) h) (mi_8_11 (L := 15010) cx.1.2.2.2.2 ⟨Nat.le_of_ble_eq_true rfl, Nat.le_of_ble_eq_true rfl⟩) rfl hl.1 rfl (Nat.le_of_ble_eq_true rfl) d_8_init_82 ⟨Nat.le_of_ble_eq_true rfl, Nat.le_of_ble_eq_true rfl⟩) hL (fun S6 T6 H locs h hw hL => ?_)
  replace hw : hm_wc G H0 o lc_71 _ _ H := hw
  refine hm_cputF (ci := 8) cx hw hin_8 tyX8 tyX8_ok nmX8 rfl 7 (by decide) hq_268 rfl rfl hin (i := 36) (r := 47) (fs := [1, 1, 40, 42, 44, 46, 48, 1, 1, 1, 1, 1, 1, 0, 0, 0]) rfl rfl rfl (by decide) hL d_8_init_85 (fun H locs hw hL => ?_)
  replace hw : hm_wc G H0 o lc_72 _ _ H := hw
  refine lv_aload_n hx hb d_8_init_88 rfl (lv_at hl 0 rfl) ?_
  obtain ⟨h0, h1, h⟩ := h
  refine hm_cnew (ci := 5) cx hw hin_5 tyX5 tyX5_ok rfl hq_259 hq_107 hq_76 [1] dfX5 h0 h1 (Nat.le_of_ble_eq_true rfl) (Nat.le_of_ble_eq_true rfl) d_8_init_89 (fun H hw => ?_)
  replace hw : hm_wc G H0 o lc_73 _ _ H := hw
  refine lv_dup hx hb d_8_init_92 rfl ?_
  refine lv_sipush (v := 2430) hx hb d_8_init_93 (by decide) ?_
  refine hm_cinit (hm_rI (i := 49) (As := [.int 2430]) (rest := [.ref (o + 49), .ref (o + 36)]) cx hw (ct_5_init (L := 2430) rfl rfl (by decide) h) (mi_8_11 (L := 2430) cx.1.2.2.2.2 ⟨Nat.le_of_ble_eq_true rfl, Nat.le_of_ble_eq_true rfl⟩) rfl hl.1 rfl (Nat.le_of_ble_eq_true rfl) d_8_init_96 ⟨Nat.le_of_ble_eq_true rfl, Nat.le_of_ble_eq_true rfl⟩) hL (fun S7 T7 H locs h hw hL => ?_)
  replace hw : hm_wc G H0 o lc_74 _ _ H := hw
  refine hm_cputF (ci := 8) cx hw hin_8 tyX8 tyX8_ok nmX8 rfl 8 (by decide) hq_269 rfl rfl hin (i := 36) (r := 49) (fs := [1, 1, 40, 42, 44, 46, 48, 50, 1, 1, 1, 1, 1, 0, 0, 0]) rfl rfl rfl (by decide) hL d_8_init_99 (fun H locs hw hL => ?_)
  replace hw : hm_wc G H0 o lc_75 _ _ H := hw
  refine lv_aload_n hx hb d_8_init_102 rfl (lv_at hl 0 rfl) ?_
  obtain ⟨h0, h1, h⟩ := h
  refine hm_cnew (ci := 5) cx hw hin_5 tyX5 tyX5_ok rfl hq_259 hq_107 hq_76 [1] dfX5 h0 h1 (Nat.le_of_ble_eq_true rfl) (Nat.le_of_ble_eq_true rfl) d_8_init_103 (fun H hw => ?_)
  replace hw : hm_wc G H0 o lc_76 _ _ H := hw
  refine lv_dup hx hb d_8_init_106 rfl ?_
  refine lv_sipush (v := 2430) hx hb d_8_init_107 (by decide) ?_
  refine hm_cinit (hm_rI (i := 51) (As := [.int 2430]) (rest := [.ref (o + 51), .ref (o + 36)]) cx hw (ct_5_init (L := 2430) rfl rfl (by decide) h) (mi_8_11 (L := 2430) cx.1.2.2.2.2 ⟨Nat.le_of_ble_eq_true rfl, Nat.le_of_ble_eq_true rfl⟩) rfl hl.1 rfl (Nat.le_of_ble_eq_true rfl) d_8_init_110 ⟨Nat.le_of_ble_eq_true rfl, Nat.le_of_ble_eq_true rfl⟩) hL (fun S8 T8 H locs h hw hL => ?_)
  replace hw : hm_wc G H0 o lc_77 _ _ H := hw
  refine hm_cputF (ci := 8) cx hw hin_8 tyX8 tyX8_ok nmX8 rfl 9 (by decide) hq_270 rfl rfl hin (i := 36) (r := 51) (fs := [1, 1, 40, 42, 44, 46, 48, 50, 52, 1, 1, 1, 1, 0, 0, 0]) rfl rfl rfl (by decide) hL d_8_init_113 (fun H locs hw hL => ?_)
  replace hw : hm_wc G H0 o lc_78 _ _ H := hw
  refine lv_aload_n hx hb d_8_init_116 rfl (lv_at hl 0 rfl) ?_
  obtain ⟨h0, h1, h⟩ := h
  refine hm_cnew (ci := 5) cx hw hin_5 tyX5 tyX5_ok rfl hq_259 hq_107 hq_76 [1] dfX5 h0 h1 (Nat.le_of_ble_eq_true rfl) (Nat.le_of_ble_eq_true rfl) d_8_init_117 (fun H hw => ?_)
  replace hw : hm_wc G H0 o lc_79 _ _ H := hw
  refine lv_dup hx hb d_8_init_120 rfl ?_
  refine lv_sipush (v := 2430) hx hb d_8_init_121 (by decide) ?_
  refine hm_cinit (hm_rI (i := 53) (As := [.int 2430]) (rest := [.ref (o + 53), .ref (o + 36)]) cx hw (ct_5_init (L := 2430) rfl rfl (by decide) h) (mi_8_11 (L := 2430) cx.1.2.2.2.2 ⟨Nat.le_of_ble_eq_true rfl, Nat.le_of_ble_eq_true rfl⟩) rfl hl.1 rfl (Nat.le_of_ble_eq_true rfl) d_8_init_124 ⟨Nat.le_of_ble_eq_true rfl, Nat.le_of_ble_eq_true rfl⟩) hL (fun S9 T9 H locs h hw hL => ?_)
  replace hw : hm_wc G H0 o lc_80 _ _ H := hw
  refine hm_cputF (ci := 8) cx hw hin_8 tyX8 tyX8_ok nmX8 rfl 10 (by decide) hq_271 rfl rfl hin (i := 36) (r := 53) (fs := [1, 1, 40, 42, 44, 46, 48, 50, 52, 54, 1, 1, 1, 0, 0, 0]) rfl rfl rfl (by decide) hL d_8_init_127 (fun H locs hw hL => ?_)
  replace hw : hm_wc G H0 o lc_81 _ _ H := hw
  refine lv_aload_n hx hb d_8_init_130 rfl (lv_at hl 0 rfl) ?_
  obtain ⟨h0, h1, h⟩ := h
  refine hm_cnew (ci := 5) cx hw hin_5 tyX5 tyX5_ok rfl hq_259 hq_107 hq_76 [1] dfX5 h0 h1 (Nat.le_of_ble_eq_true rfl) (Nat.le_of_ble_eq_true rfl) d_8_init_131 (fun H hw => ?_)
  replace hw : hm_wc G H0 o lc_82 _ _ H := hw
  refine lv_dup hx hb d_8_init_134 rfl ?_
  refine lv_sipush (v := 2430) hx hb d_8_init_135 (by decide) ?_
  refine hm_cinit (hm_rI (i := 55) (As := [.int 2430]) (rest := [.ref (o + 55), .ref (o + 36)]) cx hw (ct_5_init (L := 2430) rfl rfl (by decide) h) (mi_8_11 (L := 2430) cx.1.2.2.2.2 ⟨Nat.le_of_ble_eq_true rfl, Nat.le_of_ble_eq_true rfl⟩) rfl hl.1 rfl (Nat.le_of_ble_eq_true rfl) d_8_init_138 ⟨Nat.le_of_ble_eq_true rfl, Nat.le_of_ble_eq_true rfl⟩) hL (fun S10 T10 H locs h hw hL => ?_)
  replace hw : hm_wc G H0 o lc_83 _ _ H := hw
  refine hm_cputF (ci := 8) cx hw hin_8 tyX8 tyX8_ok nmX8 rfl 11 (by decide) hq_272 rfl rfl hin (i := 36) (r := 55) (fs := [1, 1, 40, 42, 44, 46, 48, 50, 52, 54, 56, 1, 1, 0, 0, 0]) rfl rfl rfl (by decide) hL d_8_init_141 (fun H locs hw hL => ?_)
  replace hw : hm_wc G H0 o lc_84 _ _ H := hw
  refine lv_aload_n hx hb d_8_init_144 rfl (lv_at hl 0 rfl) ?_
  obtain ⟨h0, h1, h⟩ := h
  refine hm_cnew (ci := 5) cx hw hin_5 tyX5 tyX5_ok rfl hq_259 hq_107 hq_76 [1] dfX5 h0 h1 (Nat.le_of_ble_eq_true rfl) (Nat.le_of_ble_eq_true rfl) d_8_init_145 (fun H hw => ?_)
  replace hw : hm_wc G H0 o lc_85 _ _ H := hw
  refine lv_dup hx hb d_8_init_148 rfl ?_
  refine lv_sipush (v := 2430) hx hb d_8_init_149 (by decide) ?_
  refine hm_cinit (hm_rI (i := 57) (As := [.int 2430]) (rest := [.ref (o + 57), .ref (o + 36)]) cx hw (ct_5_init (L := 2430) rfl rfl (by decide) h) (mi_8_11 (L := 2430) cx.1.2.2.2.2 ⟨Nat.le_of_ble_eq_true rfl, Nat.le_of_ble_eq_true rfl⟩) rfl hl.1 rfl (Nat.le_of_ble_eq_true rfl) d_8_init_152 ⟨Nat.le_of_ble_eq_true rfl, Nat.le_of_ble_eq_true rfl⟩) hL (fun S11 T11 H locs h hw hL => ?_)
  replace hw : hm_wc G H0 o lc_86 _ _ H := hw
  refine hm_cputF (ci := 8) cx hw hin_8 tyX8 tyX8_ok nmX8 rfl 12 (by decide) hq_273 rfl rfl hin (i := 36) (r := 57) (fs := [1, 1, 40, 42, 44, 46, 48, 50, 52, 54, 56, 58, 1, 0, 0, 0]) rfl rfl rfl (by decide) hL d_8_init_155 (fun H locs hw hL => ?_)
  replace hw : hm_wc G H0 o lc_87 _ _ H := hw
  refine lv_aload_n hx hb d_8_init_158 rfl (lv_at hl 0 rfl) ?_
  refine lv_aload_n hx hb d_8_init_159 rfl (lv_at hl 1 rfl) ?_
  refine hm_cputF (ci := 8) cx hw hin_8 tyX8 tyX8_ok nmX8 rfl 0 (by decide) hq_261 rfl rfl hin (i := 36) (r := 1) (fs := [1, 1, 40, 42, 44, 46, 48, 50, 52, 54, 56, 58, 60, 0, 0, 0]) rfl rfl rfl (by decide) hL d_8_init_160 (fun H locs hw hL => ?_)
  replace hw : hm_wc G H0 o lc_88 _ _ H := hw
  refine lv_aload_n hx hb d_8_init_163 rfl (lv_at hl 0 rfl) ?_
  refine lv_aload_n hx hb d_8_init_164 rfl (lv_at hl 2 rfl) ?_
  refine hm_cputF (ci := 8) cx hw hin_8 tyX8 tyX8_ok nmX8 rfl 1 (by decide) hq_262 rfl rfl hin (i := 36) (r := 19) (fs := [4, 1, 40, 42, 44, 46, 48, 50, 52, 54, 56, 58, 60, 0, 0, 0]) rfl rfl rfl (by decide) hL d_8_init_165 (fun H locs hw hL => ?_)
  replace hw : hm_wc G H0 o lc_53 _ _ H := hw
  exact W.vret hx hb hr (fun t ht _ => ⟨_, _, rfl, h, by rw [ht]; exact hw⟩) hL d_8_init_168
set_option maxHeartbeats 4000000 in
set_option maxRecDepth 20000 in
theorem ct_8_init {S : hm_S} {T : hm_T} {Q : hm_S → hm_T → Prop} (h : wp_8_init S T Q) : Met l y_8_init (hm_ws y_8_init prog_10_method_1_code 3 none) rm_8_init (hm_Pcc G H0 o lc_54 S T [.ref (o + 36), .ref (o + 1), .ref (o + 19)]) (hm_Qcc G H0 o lc_53 Q) 22 51903 (hm_ge o) := by
  refine Met.ofW (cc := prog_10_method_1_code) (maxL := 3) (ret := none) (by decide) rfl ?_
  intro p e s m args below meth c s₁ B hml hv
  obtain ⟨rfl, hK, hw⟩ := hv
  have cx : hm_cx G p s m _ c prog_10_method_1_code 3 "HeapGames$Solver" := ⟨⟨B.exec, B.bytes, hml, findClass_of_methodNamed B.named, fun w hq => atoms_spec (ws := hm_ws y_8_init prog_10_method_1_code 3 none) B.pre w (List.mem_cons_of_mem _ hq)⟩, hK⟩
  have hl := lv_entry ([.ref (o + 36), .ref (o + 1), .ref (o + 19)]) (n := 3) (Nat.le_of_ble_eq_true rfl)
  rw [lg_entry_eq]
  generalize (lg_sl ([.ref (o + 36), .ref (o + 1), .ref (o + 19)]) ++ List.replicate (3 - (lg_sl ([.ref (o + 36), .ref (o + 1), .ref (o + 19)])).length) Slot.unset).toArray = ls at hl ⊢
  have hl : lv_has ls 3 [(0, .ref (o + 36)), (1, .ref (o + 1)), (2, .ref (o + 19))] := hl
  exact bk_8_init_0 cx B.returns B.notSynchronized (name_of_methodNamed B.named B.method).1 h hw (hm_Lc0 _) hl
/-! ===== HeapGames$GrundyValues ===== -/
theorem d_0_init_0 : decode prog_2_method_1_code 0 = .ok (.aload_n 0, 1) := by decide +kernel
theorem d_0_init_1 : decode prog_2_method_1_code 1 = .ok (.invokespecial 3, 3) := by decide +kernel
theorem d_0_init_4 : decode prog_2_method_1_code 4 = .ok (.aload_n 0, 1) := by decide +kernel
theorem d_0_init_5 : decode prog_2_method_1_code 5 = .ok (.new 9, 3) := by decide +kernel
theorem d_0_init_8 : decode prog_2_method_1_code 8 = .ok (.dup, 1) := by decide +kernel
theorem d_0_init_9 : decode prog_2_method_1_code 9 = .ok (.bipush 61, 2) := by decide +kernel
theorem d_0_init_11 : decode prog_2_method_1_code 11 = .ok (.invokespecial 11, 3) := by decide +kernel
theorem d_0_init_14 : decode prog_2_method_1_code 14 = .ok (.putfield 14, 3) := by decide +kernel
theorem d_0_init_17 : decode prog_2_method_1_code 17 = .ok (.aload_n 0, 1) := by decide +kernel
theorem d_0_init_18 : decode prog_2_method_1_code 18 = .ok (.new 9, 3) := by decide +kernel
theorem d_0_init_21 : decode prog_2_method_1_code 21 = .ok (.dup, 1) := by decide +kernel
theorem d_0_init_22 : decode prog_2_method_1_code 22 = .ok (.sipush 512, 3) := by decide +kernel
theorem d_0_init_25 : decode prog_2_method_1_code 25 = .ok (.invokespecial 11, 3) := by decide +kernel
theorem d_0_init_28 : decode prog_2_method_1_code 28 = .ok (.putfield 20, 3) := by decide +kernel
theorem d_0_init_31 : decode prog_2_method_1_code 31 = .ok (.aload_n 0, 1) := by decide +kernel
theorem d_0_init_32 : decode prog_2_method_1_code 32 = .ok (.aload_n 1, 1) := by decide +kernel
theorem d_0_init_33 : decode prog_2_method_1_code 33 = .ok (.putfield 23, 3) := by decide +kernel
theorem d_0_init_36 : decode prog_2_method_1_code 36 = .ok (.return_, 1) := by decide +kernel
def wp_0_init (S : hm_S) (T : hm_T) (Q : hm_S → hm_T → Prop) : Prop :=
  ((∀ k, S 60 k = 0) ∧ (∀ k, T 60 k = 0) ∧ wp_5_init 61 S T (fun S1 T1 => ((∀ k, S1 62 k = 0) ∧ (∀ k, T1 62 k = 0) ∧ wp_5_init 63 S1 T1 (fun S2 T2 => Q S2 T2))))
set_option maxHeartbeats 4000000 in
set_option maxRecDepth 20000 in
theorem bk_0_init_0 {Q : hm_S → hm_T → Prop} (cx : hm_cx G p s m args c prog_2_method_1_code 2 "HeapGames$GrundyValues") (hr : meth.sig.returnType = none) (hlk : meth.locks = false) (hin : meth.name = "<init>") {S : hm_S} {T : hm_T} {H : Heap} {locs : List Loc} {ls : Array Slot} (h : wp_0_init S T Q) (hw : hm_wc G H0 o lc_90 S T H) (hL : hm_Lc o locs) (hl : lv_has ls 2 [(0, .ref (o + 59)), (1, .ref (o + 1))]) : W p l e rm_0_init s m args below meth c H locs 0 0 (MQ below (hm_Qcc G H0 o lc_89 Q) args s 4 575 (hm_ge o)) (F0 m 0 ls []) := by
  have hx := cx.1.1
  have hb := cx.1.2.1
  unfold wp_0_init at h
  refine lv_aload_n hx hb d_0_init_0 rfl (lv_at hl 0 rfl) ?_
  refine W.objInit hx hb cx.1.2.2.2.1 (cx.1.2.2.2.2 _ hq_315) (cx.1.2.2.2.2 _ hq_98) (cx.1.2.2.2.2 _ hq_99) rfl (hl.1.trans cx.1.2.2.1.symm) rfl d_0_init_1 (Nat.le_of_ble_eq_true rfl) (Nat.le_of_ble_eq_true rfl) ?_
  refine lv_aload_n hx hb d_0_init_4 rfl (lv_at hl 0 rfl) ?_
  obtain ⟨h0, h1, h⟩ := h
  refine hm_cnew (ci := 5) cx hw hin_5 tyX5 tyX5_ok rfl hq_316 hq_107 hq_76 [1] dfX5 h0 h1 (Nat.le_of_ble_eq_true rfl) (Nat.le_of_ble_eq_true rfl) d_0_init_5 (fun H hw => ?_)
  replace hw : hm_wc G H0 o lc_91 _ _ H := hw
  refine lv_dup hx hb d_0_init_8 rfl ?_
  refine lv_bipush (v := 61) hx hb d_0_init_9 (by decide) ?_
  refine hm_cinit (hm_rI (i := 60) (As := [.int 61]) (rest := [.ref (o + 60), .ref (o + 59)]) cx hw (ct_5_init (L := 61) rfl rfl (by decide) h) (mi_0_11 (L := 61) cx.1.2.2.2.2 ⟨Nat.le_of_ble_eq_true rfl, Nat.le_of_ble_eq_true rfl⟩) rfl hl.1 rfl (Nat.le_of_ble_eq_true rfl) d_0_init_11 ⟨Nat.le_of_ble_eq_true rfl, Nat.le_of_ble_eq_true rfl⟩) hL (fun S1 T1 H locs h hw hL => ?_)
  replace hw : hm_wc G H0 o lc_92 _ _ H := hw
  refine hm_cputF (ci := 0) cx hw hin_0 tyX0 tyX0_ok nmX0 rfl 1 (by decide) hq_319 rfl rfl hin (i := 59) (r := 60) (fs := [1, 1, 1, 0, 0, 0]) rfl rfl rfl (by decide) hL d_0_init_14 (fun H locs hw hL => ?_)
  replace hw : hm_wc G H0 o lc_93 _ _ H := hw
  refine lv_aload_n hx hb d_0_init_17 rfl (lv_at hl 0 rfl) ?_
  obtain ⟨h0, h1, h⟩ := h
  refine hm_cnew (ci := 5) cx hw hin_5 tyX5 tyX5_ok rfl hq_316 hq_107 hq_76 [1] dfX5 h0 h1 (Nat.le_of_ble_eq_true rfl) (Nat.le_of_ble_eq_true rfl) d_0_init_18 (fun H hw => ?_)
  replace hw : hm_wc G H0 o lc_94 _ _ H := hw
  refine lv_dup hx hb d_0_init_21 rfl ?_
  refine lv_sipush (v := 512) hx hb d_0_init_22 (by decide) ?_
  refine hm_cinit (hm_rI (i := 62) (As := [.int 512]) (rest := [.ref (o + 62), .ref (o + 59)]) cx hw (ct_5_init (L := 512) rfl rfl (by decide) h) (mi_0_11 (L := 512) cx.1.2.2.2.2 ⟨Nat.le_of_ble_eq_true rfl, Nat.le_of_ble_eq_true rfl⟩) rfl hl.1 rfl (Nat.le_of_ble_eq_true rfl) d_0_init_25 ⟨Nat.le_of_ble_eq_true rfl, Nat.le_of_ble_eq_true rfl⟩) hL (fun S2 T2 H locs h hw hL => ?_)
  replace hw : hm_wc G H0 o lc_95 _ _ H := hw
  refine hm_cputF (ci := 0) cx hw hin_0 tyX0 tyX0_ok nmX0 rfl 2 (by decide) hq_320 rfl rfl hin (i := 59) (r := 62) (fs := [1, 63, 1, 0, 0, 0]) rfl rfl rfl (by decide) hL d_0_init_28 (fun H locs hw hL => ?_)
  replace hw : hm_wc G H0 o lc_96 _ _ H := hw
  refine lv_aload_n hx hb d_0_init_31 rfl (lv_at hl 0 rfl) ?_
  refine lv_aload_n hx hb d_0_init_32 rfl (lv_at hl 1 rfl) ?_
  refine hm_cputF (ci := 0) cx hw hin_0 tyX0 tyX0_ok nmX0 rfl 0 (by decide) hq_318 rfl rfl hin (i := 59) (r := 1) (fs := [1, 63, 65, 0, 0, 0]) rfl rfl rfl (by decide) hL d_0_init_33 (fun H locs hw hL => ?_)
  replace hw : hm_wc G H0 o lc_89 _ _ H := hw
  exact W.vret hx hb hr (fun t ht _ => ⟨_, _, rfl, h, by rw [ht]; exact hw⟩) hL d_0_init_36
set_option maxHeartbeats 4000000 in
set_option maxRecDepth 20000 in
theorem ct_0_init {S : hm_S} {T : hm_T} {Q : hm_S → hm_T → Prop} (h : wp_0_init S T Q) : Met l y_0_init (hm_ws y_0_init prog_2_method_1_code 2 none) rm_0_init (hm_Pcc G H0 o lc_90 S T [.ref (o + 59), .ref (o + 1)]) (hm_Qcc G H0 o lc_89 Q) 4 575 (hm_ge o) := by
  refine Met.ofW (cc := prog_2_method_1_code) (maxL := 2) (ret := none) (by decide) rfl ?_
  intro p e s m args below meth c s₁ B hml hv
  obtain ⟨rfl, hK, hw⟩ := hv
  have cx : hm_cx G p s m _ c prog_2_method_1_code 2 "HeapGames$GrundyValues" := ⟨⟨B.exec, B.bytes, hml, findClass_of_methodNamed B.named, fun w hq => atoms_spec (ws := hm_ws y_0_init prog_2_method_1_code 2 none) B.pre w (List.mem_cons_of_mem _ hq)⟩, hK⟩
  have hl := lv_entry ([.ref (o + 59), .ref (o + 1)]) (n := 2) (Nat.le_of_ble_eq_true rfl)
  rw [lg_entry_eq]
  generalize (lg_sl ([.ref (o + 59), .ref (o + 1)]) ++ List.replicate (2 - (lg_sl ([.ref (o + 59), .ref (o + 1)])).length) Slot.unset).toArray = ls at hl ⊢
  have hl : lv_has ls 2 [(0, .ref (o + 59)), (1, .ref (o + 1))] := hl
  exact bk_0_init_0 cx B.returns B.notSynchronized (name_of_methodNamed B.named B.method).1 h hw (hm_Lc0 _) hl
/-! ===== HeapGames$Text ===== -/
theorem d_9_init_0 : decode prog_11_method_1_code 0 = .ok (.aload_n 0, 1) := by decide +kernel
theorem d_9_init_1 : decode prog_11_method_1_code 1 = .ok (.invokespecial 3, 3) := by decide +kernel
theorem d_9_init_4 : decode prog_11_method_1_code 4 = .ok (.aload_n 0, 1) := by decide +kernel
theorem d_9_init_5 : decode prog_11_method_1_code 5 = .ok (.new 9, 3) := by decide +kernel
theorem d_9_init_8 : decode prog_11_method_1_code 8 = .ok (.dup, 1) := by decide +kernel
theorem d_9_init_9 : decode prog_11_method_1_code 9 = .ok (.bipush 40, 2) := by decide +kernel
theorem d_9_init_11 : decode prog_11_method_1_code 11 = .ok (.invokespecial 11, 3) := by decide +kernel
theorem d_9_init_14 : decode prog_11_method_1_code 14 = .ok (.putfield 14, 3) := by decide +kernel
theorem d_9_init_17 : decode prog_11_method_1_code 17 = .ok (.return_, 1) := by decide +kernel
def wp_9_init (S : hm_S) (T : hm_T) (Q : hm_S → hm_T → Prop) : Prop :=
  ((∀ k, S 65 k = 0) ∧ (∀ k, T 65 k = 0) ∧ wp_5_init 66 S T (fun S1 T1 => Q S1 T1))
set_option maxHeartbeats 4000000 in
set_option maxRecDepth 20000 in
theorem bk_9_init_0 {Q : hm_S → hm_T → Prop} (cx : hm_cx G p s m args c prog_11_method_1_code 1 "HeapGames$Text") (hr : meth.sig.returnType = none) (hlk : meth.locks = false) (hin : meth.name = "<init>") {S : hm_S} {T : hm_T} {H : Heap} {locs : List Loc} {ls : Array Slot} (h : wp_9_init S T Q) (hw : hm_wc G H0 o lc_98 S T H) (hL : hm_Lc o locs) (hl : lv_has ls 1 [(0, .ref (o + 64))]) : W p l e rm_9_init s m args below meth c H locs 0 0 (MQ below (hm_Qcc G H0 o lc_97 Q) args s 2 41 (hm_ge o)) (F0 m 0 ls []) := by
  have hx := cx.1.1
  have hb := cx.1.2.1
  unfold wp_9_init at h
  refine lv_aload_n hx hb d_9_init_0 rfl (lv_at hl 0 rfl) ?_
  refine W.objInit hx hb cx.1.2.2.2.1 (cx.1.2.2.2.2 _ hq_342) (cx.1.2.2.2.2 _ hq_98) (cx.1.2.2.2.2 _ hq_99) rfl (hl.1.trans cx.1.2.2.1.symm) rfl d_9_init_1 (Nat.le_of_ble_eq_true rfl) (Nat.le_of_ble_eq_true rfl) ?_
  refine lv_aload_n hx hb d_9_init_4 rfl (lv_at hl 0 rfl) ?_
  obtain ⟨h0, h1, h⟩ := h
  refine hm_cnew (ci := 5) cx hw hin_5 tyX5 tyX5_ok rfl hq_343 hq_107 hq_76 [1] dfX5 h0 h1 (Nat.le_of_ble_eq_true rfl) (Nat.le_of_ble_eq_true rfl) d_9_init_5 (fun H hw => ?_)
  replace hw : hm_wc G H0 o lc_99 _ _ H := hw
  refine lv_dup hx hb d_9_init_8 rfl ?_
  refine lv_bipush (v := 40) hx hb d_9_init_9 (by decide) ?_
  refine hm_cinit (hm_rI (i := 65) (As := [.int 40]) (rest := [.ref (o + 65), .ref (o + 64)]) cx hw (ct_5_init (L := 40) rfl rfl (by decide) h) (mi_9_11 (L := 40) cx.1.2.2.2.2 ⟨Nat.le_of_ble_eq_true rfl, Nat.le_of_ble_eq_true rfl⟩) rfl hl.1 rfl (Nat.le_of_ble_eq_true rfl) d_9_init_11 ⟨Nat.le_of_ble_eq_true rfl, Nat.le_of_ble_eq_true rfl⟩) hL (fun S1 T1 H locs h hw hL => ?_)
  replace hw : hm_wc G H0 o lc_100 _ _ H := hw
  refine hm_cputF (ci := 9) cx hw hin_9 tyX9 tyX9_ok nmX9 rfl 0 (by decide) hq_345 rfl rfl hin (i := 64) (r := 65) (fs := [1, 0, 0]) rfl rfl rfl (by decide) hL d_9_init_14 (fun H locs hw hL => ?_)
  replace hw : hm_wc G H0 o lc_97 _ _ H := hw
  exact W.vret hx hb hr (fun t ht _ => ⟨_, _, rfl, h, by rw [ht]; exact hw⟩) hL d_9_init_17
set_option maxHeartbeats 4000000 in
set_option maxRecDepth 20000 in
theorem ct_9_init {S : hm_S} {T : hm_T} {Q : hm_S → hm_T → Prop} (h : wp_9_init S T Q) : Met l y_9_init (hm_ws y_9_init prog_11_method_1_code 1 none) rm_9_init (hm_Pcc G H0 o lc_98 S T [.ref (o + 64)]) (hm_Qcc G H0 o lc_97 Q) 2 41 (hm_ge o) := by
  refine Met.ofW (cc := prog_11_method_1_code) (maxL := 1) (ret := none) (by decide) rfl ?_
  intro p e s m args below meth c s₁ B hml hv
  obtain ⟨rfl, hK, hw⟩ := hv
  have cx : hm_cx G p s m _ c prog_11_method_1_code 1 "HeapGames$Text" := ⟨⟨B.exec, B.bytes, hml, findClass_of_methodNamed B.named, fun w hq => atoms_spec (ws := hm_ws y_9_init prog_11_method_1_code 1 none) B.pre w (List.mem_cons_of_mem _ hq)⟩, hK⟩
  have hl := lv_entry ([.ref (o + 64)]) (n := 1) (Nat.le_of_ble_eq_true rfl)
  rw [lg_entry_eq]
  generalize (lg_sl ([.ref (o + 64)]) ++ List.replicate (1 - (lg_sl ([.ref (o + 64)])).length) Slot.unset).toArray = ls at hl ⊢
  have hl : lv_has ls 1 [(0, .ref (o + 64))] := hl
  exact bk_9_init_0 cx B.returns B.notSynchronized (name_of_methodNamed B.named B.method).1 h hw (hm_Lc0 _) hl
/-! ===== HeapGames$RulesReader ===== -/
theorem d_7_init_0 : decode prog_9_method_1_code 0 = .ok (.aload_n 0, 1) := by decide +kernel
theorem d_7_init_1 : decode prog_9_method_1_code 1 = .ok (.invokespecial 3, 3) := by decide +kernel
theorem d_7_init_4 : decode prog_9_method_1_code 4 = .ok (.aload_n 0, 1) := by decide +kernel
theorem d_7_init_5 : decode prog_9_method_1_code 5 = .ok (.new 9, 3) := by decide +kernel
theorem d_7_init_8 : decode prog_9_method_1_code 8 = .ok (.dup, 1) := by decide +kernel
theorem d_7_init_9 : decode prog_9_method_1_code 9 = .ok (.bipush 11, 2) := by decide +kernel
theorem d_7_init_11 : decode prog_9_method_1_code 11 = .ok (.invokespecial 11, 3) := by decide +kernel
theorem d_7_init_14 : decode prog_9_method_1_code 14 = .ok (.putfield 14, 3) := by decide +kernel
theorem d_7_init_17 : decode prog_9_method_1_code 17 = .ok (.return_, 1) := by decide +kernel
def wp_7_init (S : hm_S) (T : hm_T) (Q : hm_S → hm_T → Prop) : Prop :=
  ((∀ k, S 68 k = 0) ∧ (∀ k, T 68 k = 0) ∧ wp_5_init 69 S T (fun S1 T1 => Q S1 T1))
set_option maxHeartbeats 4000000 in
set_option maxRecDepth 20000 in
theorem bk_7_init_0 {Q : hm_S → hm_T → Prop} (cx : hm_cx G p s m args c prog_9_method_1_code 1 "HeapGames$RulesReader") (hr : meth.sig.returnType = none) (hlk : meth.locks = false) (hin : meth.name = "<init>") {S : hm_S} {T : hm_T} {H : Heap} {locs : List Loc} {ls : Array Slot} (h : wp_7_init S T Q) (hw : hm_wc G H0 o lc_102 S T H) (hL : hm_Lc o locs) (hl : lv_has ls 1 [(0, .ref (o + 67))]) : W p l e rm_7_init s m args below meth c H locs 0 0 (MQ below (hm_Qcc G H0 o lc_101 Q) args s 2 12 (hm_ge o)) (F0 m 0 ls []) := by
  have hx := cx.1.1
  have hb := cx.1.2.1
  unfold wp_7_init at h
  refine lv_aload_n hx hb d_7_init_0 rfl (lv_at hl 0 rfl) ?_
  refine W.objInit hx hb cx.1.2.2.2.1 (cx.1.2.2.2.2 _ hq_364) (cx.1.2.2.2.2 _ hq_98) (cx.1.2.2.2.2 _ hq_99) rfl (hl.1.trans cx.1.2.2.1.symm) rfl d_7_init_1 (Nat.le_of_ble_eq_true rfl) (Nat.le_of_ble_eq_true rfl) ?_
  refine lv_aload_n hx hb d_7_init_4 rfl (lv_at hl 0 rfl) ?_
  obtain ⟨h0, h1, h⟩ := h
  refine hm_cnew (ci := 5) cx hw hin_5 tyX5 tyX5_ok rfl hq_365 hq_107 hq_76 [1] dfX5 h0 h1 (Nat.le_of_ble_eq_true rfl) (Nat.le_of_ble_eq_true rfl) d_7_init_5 (fun H hw => ?_)
  replace hw : hm_wc G H0 o lc_103 _ _ H := hw
  refine lv_dup hx hb d_7_init_8 rfl ?_
  refine lv_bipush (v := 11) hx hb d_7_init_9 (by decide) ?_
  refine hm_cinit (hm_rI (i := 68) (As := [.int 11]) (rest := [.ref (o + 68), .ref (o + 67)]) cx hw (ct_5_init (L := 11) rfl rfl (by decide) h) (mi_7_11 (L := 11) cx.1.2.2.2.2 ⟨Nat.le_of_ble_eq_true rfl, Nat.le_of_ble_eq_true rfl⟩) rfl hl.1 rfl (Nat.le_of_ble_eq_true rfl) d_7_init_11 ⟨Nat.le_of_ble_eq_true rfl, Nat.le_of_ble_eq_true rfl⟩) hL (fun S1 T1 H locs h hw hL => ?_)
  replace hw : hm_wc G H0 o lc_104 _ _ H := hw
  refine hm_cputF (ci := 7) cx hw hin_7 tyX7 tyX7_ok nmX7 rfl 0 (by decide) hq_367 rfl rfl hin (i := 67) (r := 68) (fs := [1]) rfl rfl rfl (by decide) hL d_7_init_14 (fun H locs hw hL => ?_)
  replace hw : hm_wc G H0 o lc_101 _ _ H := hw
  exact W.vret hx hb hr (fun t ht _ => ⟨_, _, rfl, h, by rw [ht]; exact hw⟩) hL d_7_init_17
set_option maxHeartbeats 4000000 in
set_option maxRecDepth 20000 in
theorem ct_7_init {S : hm_S} {T : hm_T} {Q : hm_S → hm_T → Prop} (h : wp_7_init S T Q) : Met l y_7_init (hm_ws y_7_init prog_9_method_1_code 1 none) rm_7_init (hm_Pcc G H0 o lc_102 S T [.ref (o + 67)]) (hm_Qcc G H0 o lc_101 Q) 2 12 (hm_ge o) := by
  refine Met.ofW (cc := prog_9_method_1_code) (maxL := 1) (ret := none) (by decide) rfl ?_
  intro p e s m args below meth c s₁ B hml hv
  obtain ⟨rfl, hK, hw⟩ := hv
  have cx : hm_cx G p s m _ c prog_9_method_1_code 1 "HeapGames$RulesReader" := ⟨⟨B.exec, B.bytes, hml, findClass_of_methodNamed B.named, fun w hq => atoms_spec (ws := hm_ws y_7_init prog_9_method_1_code 1 none) B.pre w (List.mem_cons_of_mem _ hq)⟩, hK⟩
  have hl := lv_entry ([.ref (o + 67)]) (n := 1) (Nat.le_of_ble_eq_true rfl)
  rw [lg_entry_eq]
  generalize (lg_sl ([.ref (o + 67)]) ++ List.replicate (1 - (lg_sl ([.ref (o + 67)])).length) Slot.unset).toArray = ls at hl ⊢
  have hl : lv_has ls 1 [(0, .ref (o + 67))] := hl
  exact bk_7_init_0 cx B.returns B.notSynchronized (name_of_methodNamed B.named B.method).1 h hw (hm_Lc0 _) hl
/-! ===== HeapGames$PositionReader ===== -/
theorem d_4_init_0 : decode prog_6_method_1_code 0 = .ok (.aload_n 0, 1) := by decide +kernel
theorem d_4_init_1 : decode prog_6_method_1_code 1 = .ok (.invokespecial 3, 3) := by decide +kernel
theorem d_4_init_4 : decode prog_6_method_1_code 4 = .ok (.aload_n 0, 1) := by decide +kernel
theorem d_4_init_5 : decode prog_6_method_1_code 5 = .ok (.aload_n 1, 1) := by decide +kernel
theorem d_4_init_6 : decode prog_6_method_1_code 6 = .ok (.putfield 9, 3) := by decide +kernel
theorem d_4_init_9 : decode prog_6_method_1_code 9 = .ok (.return_, 1) := by decide +kernel
def wp_4_init (S : hm_S) (T : hm_T) (Q : hm_S → hm_T → Prop) : Prop :=
  Q S T
set_option maxHeartbeats 4000000 in
set_option maxRecDepth 20000 in
theorem bk_4_init_0 {Q : hm_S → hm_T → Prop} (cx : hm_cx G p s m args c prog_6_method_1_code 2 "HeapGames$PositionReader") (hr : meth.sig.returnType = none) (hlk : meth.locks = false) (hin : meth.name = "<init>") {S : hm_S} {T : hm_T} {H : Heap} {locs : List Loc} {ls : Array Slot} (h : wp_4_init S T Q) (hw : hm_wc G H0 o lc_106 S T H) (hL : hm_Lc o locs) (hl : lv_has ls 2 [(0, .ref (o + 70)), (1, .ref (o + 4))]) : W p l e rm_4_init s m args below meth c H locs 0 0 (MQ below (hm_Qcc G H0 o lc_105 Q) args s 0 0 (hm_ge o)) (F0 m 0 ls []) := by
  have hx := cx.1.1
  have hb := cx.1.2.1
  unfold wp_4_init at h
  refine lv_aload_n hx hb d_4_init_0 rfl (lv_at hl 0 rfl) ?_
  refine W.objInit hx hb cx.1.2.2.2.1 (cx.1.2.2.2.2 _ hq_376) (cx.1.2.2.2.2 _ hq_98) (cx.1.2.2.2.2 _ hq_99) rfl (hl.1.trans cx.1.2.2.1.symm) rfl d_4_init_1 (Nat.le_of_ble_eq_true rfl) (Nat.le_of_ble_eq_true rfl) ?_
  refine lv_aload_n hx hb d_4_init_4 rfl (lv_at hl 0 rfl) ?_
  refine lv_aload_n hx hb d_4_init_5 rfl (lv_at hl 1 rfl) ?_
  refine hm_cputF (ci := 4) cx hw hin_4 tyX4 tyX4_ok nmX4 rfl 0 (by decide) hq_377 rfl rfl hin (i := 70) (r := 4) (fs := [1, 0, 0]) rfl rfl rfl (by decide) hL d_4_init_6 (fun H locs hw hL => ?_)
  replace hw : hm_wc G H0 o lc_105 _ _ H := hw
  exact W.vret hx hb hr (fun t ht _ => ⟨_, _, rfl, h, by rw [ht]; exact hw⟩) hL d_4_init_9
set_option maxHeartbeats 4000000 in
set_option maxRecDepth 20000 in
theorem ct_4_init {S : hm_S} {T : hm_T} {Q : hm_S → hm_T → Prop} (h : wp_4_init S T Q) : Met l y_4_init (hm_ws y_4_init prog_6_method_1_code 2 none) rm_4_init (hm_Pcc G H0 o lc_106 S T [.ref (o + 70), .ref (o + 4)]) (hm_Qcc G H0 o lc_105 Q) 0 0 (hm_ge o) := by
  refine Met.ofW (cc := prog_6_method_1_code) (maxL := 2) (ret := none) (by decide) rfl ?_
  intro p e s m args below meth c s₁ B hml hv
  obtain ⟨rfl, hK, hw⟩ := hv
  have cx : hm_cx G p s m _ c prog_6_method_1_code 2 "HeapGames$PositionReader" := ⟨⟨B.exec, B.bytes, hml, findClass_of_methodNamed B.named, fun w hq => atoms_spec (ws := hm_ws y_4_init prog_6_method_1_code 2 none) B.pre w (List.mem_cons_of_mem _ hq)⟩, hK⟩
  have hl := lv_entry ([.ref (o + 70), .ref (o + 4)]) (n := 2) (Nat.le_of_ble_eq_true rfl)
  rw [lg_entry_eq]
  generalize (lg_sl ([.ref (o + 70), .ref (o + 4)]) ++ List.replicate (2 - (lg_sl ([.ref (o + 70), .ref (o + 4)])).length) Slot.unset).toArray = ls at hl ⊢
  have hl : lv_has ls 2 [(0, .ref (o + 70)), (1, .ref (o + 4))] := hl
  exact bk_4_init_0 cx B.returns B.notSynchronized (name_of_methodNamed B.named B.method).1 h hw (hm_Lc0 _) hl
/-! ===== HeapGames$History ===== -/
theorem d_1_init_0 : decode prog_3_method_1_code 0 = .ok (.aload_n 0, 1) := by decide +kernel
theorem d_1_init_1 : decode prog_3_method_1_code 1 = .ok (.invokespecial 3, 3) := by decide +kernel
theorem d_1_init_4 : decode prog_3_method_1_code 4 = .ok (.aload_n 0, 1) := by decide +kernel
theorem d_1_init_5 : decode prog_3_method_1_code 5 = .ok (.new 9, 3) := by decide +kernel
theorem d_1_init_8 : decode prog_3_method_1_code 8 = .ok (.dup, 1) := by decide +kernel
theorem d_1_init_9 : decode prog_3_method_1_code 9 = .ok (.bipush 30, 2) := by decide +kernel
theorem d_1_init_11 : decode prog_3_method_1_code 11 = .ok (.invokespecial 11, 3) := by decide +kernel
theorem d_1_init_14 : decode prog_3_method_1_code 14 = .ok (.putfield 14, 3) := by decide +kernel
theorem d_1_init_17 : decode prog_3_method_1_code 17 = .ok (.return_, 1) := by decide +kernel
def wp_1_init (S : hm_S) (T : hm_T) (Q : hm_S → hm_T → Prop) : Prop :=
  ((∀ k, S 72 k = 0) ∧ (∀ k, T 72 k = 0) ∧ wp_5_init 73 S T (fun S1 T1 => Q S1 T1))
set_option maxHeartbeats 4000000 in
set_option maxRecDepth 20000 in
theorem bk_1_init_0 {Q : hm_S → hm_T → Prop} (cx : hm_cx G p s m args c prog_3_method_1_code 1 "HeapGames$History") (hr : meth.sig.returnType = none) (hlk : meth.locks = false) (hin : meth.name = "<init>") {S : hm_S} {T : hm_T} {H : Heap} {locs : List Loc} {ls : Array Slot} (h : wp_1_init S T Q) (hw : hm_wc G H0 o lc_108 S T H) (hL : hm_Lc o locs) (hl : lv_has ls 1 [(0, .ref (o + 71))]) : W p l e rm_1_init s m args below meth c H locs 0 0 (MQ below (hm_Qcc G H0 o lc_107 Q) args s 2 31 (hm_ge o)) (F0 m 0 ls []) := by
  have hx := cx.1.1
  have hb := cx.1.2.1
  unfold wp_1_init at h
  refine lv_aload_n hx hb d_1_init_0 rfl (lv_at hl 0 rfl) ?_
  refine W.objInit hx hb cx.1.2.2.2.1 (cx.1.2.2.2.2 _ hq_392) (cx.1.2.2.2.2 _ hq_98) (cx.1.2.2.2.2 _ hq_99) rfl (hl.1.trans cx.1.2.2.1.symm) rfl d_1_init_1 (Nat.le_of_ble_eq_true rfl) (Nat.le_of_ble_eq_true rfl) ?_
  refine lv_aload_n hx hb d_1_init_4 rfl (lv_at hl 0 rfl) ?_
  obtain ⟨h0, h1, h⟩ := h
  refine hm_cnew (ci := 5) cx hw hin_5 tyX5 tyX5_ok rfl hq_393 hq_107 hq_76 [1] dfX5 h0 h1 (Nat.le_of_ble_eq_true rfl) (Nat.le_of_ble_eq_true rfl) d_1_init_5 (fun H hw => ?_)
  replace hw : hm_wc G H0 o lc_109 _ _ H := hw
  refine lv_dup hx hb d_1_init_8 rfl ?_
  refine lv_bipush (v := 30) hx hb d_1_init_9 (by decide) ?_
  refine hm_cinit (hm_rI (i := 72) (As := [.int 30]) (rest := [.ref (o + 72), .ref (o + 71)]) cx hw (ct_5_init (L := 30) rfl rfl (by decide) h) (mi_1_11 (L := 30) cx.1.2.2.2.2 ⟨Nat.le_of_ble_eq_true rfl, Nat.le_of_ble_eq_true rfl⟩) rfl hl.1 rfl (Nat.le_of_ble_eq_true rfl) d_1_init_11 ⟨Nat.le_of_ble_eq_true rfl, Nat.le_of_ble_eq_true rfl⟩) hL (fun S1 T1 H locs h hw hL => ?_)
  replace hw : hm_wc G H0 o lc_110 _ _ H := hw
  refine hm_cputF (ci := 1) cx hw hin_1 tyX1 tyX1_ok nmX1 rfl 0 (by decide) hq_395 rfl rfl hin (i := 71) (r := 72) (fs := [1, 0, 0]) rfl rfl rfl (by decide) hL d_1_init_14 (fun H locs hw hL => ?_)
  replace hw : hm_wc G H0 o lc_107 _ _ H := hw
  exact W.vret hx hb hr (fun t ht _ => ⟨_, _, rfl, h, by rw [ht]; exact hw⟩) hL d_1_init_17
set_option maxHeartbeats 4000000 in
set_option maxRecDepth 20000 in
theorem ct_1_init {S : hm_S} {T : hm_T} {Q : hm_S → hm_T → Prop} (h : wp_1_init S T Q) : Met l y_1_init (hm_ws y_1_init prog_3_method_1_code 1 none) rm_1_init (hm_Pcc G H0 o lc_108 S T [.ref (o + 71)]) (hm_Qcc G H0 o lc_107 Q) 2 31 (hm_ge o) := by
  refine Met.ofW (cc := prog_3_method_1_code) (maxL := 1) (ret := none) (by decide) rfl ?_
  intro p e s m args below meth c s₁ B hml hv
  obtain ⟨rfl, hK, hw⟩ := hv
  have cx : hm_cx G p s m _ c prog_3_method_1_code 1 "HeapGames$History" := ⟨⟨B.exec, B.bytes, hml, findClass_of_methodNamed B.named, fun w hq => atoms_spec (ws := hm_ws y_1_init prog_3_method_1_code 1 none) B.pre w (List.mem_cons_of_mem _ hq)⟩, hK⟩
  have hl := lv_entry ([.ref (o + 71)]) (n := 1) (Nat.le_of_ble_eq_true rfl)
  rw [lg_entry_eq]
  generalize (lg_sl ([.ref (o + 71)]) ++ List.replicate (1 - (lg_sl ([.ref (o + 71)])).length) Slot.unset).toArray = ls at hl ⊢
  have hl : lv_has ls 1 [(0, .ref (o + 71))] := hl
  exact bk_1_init_0 cx B.returns B.notSynchronized (name_of_methodNamed B.named B.method).1 h hw (hm_Lc0 _) hl
/-! ===== HeapGames ===== -/
theorem d_10_init_0 : decode prog_1_method_1_code 0 = .ok (.aload_n 0, 1) := by decide +kernel
theorem d_10_init_1 : decode prog_1_method_1_code 1 = .ok (.invokespecial 3, 3) := by decide +kernel
theorem d_10_init_4 : decode prog_1_method_1_code 4 = .ok (.new 9, 3) := by decide +kernel
theorem d_10_init_7 : decode prog_1_method_1_code 7 = .ok (.dup, 1) := by decide +kernel
theorem d_10_init_8 : decode prog_1_method_1_code 8 = .ok (.invokespecial 11, 3) := by decide +kernel
theorem d_10_init_11 : decode prog_1_method_1_code 11 = .ok (.astore_n 1, 1) := by decide +kernel
theorem d_10_init_12 : decode prog_1_method_1_code 12 = .ok (.new 12, 3) := by decide +kernel
theorem d_10_init_15 : decode prog_1_method_1_code 15 = .ok (.dup, 1) := by decide +kernel
theorem d_10_init_16 : decode prog_1_method_1_code 16 = .ok (.invokespecial 14, 3) := by decide +kernel
theorem d_10_init_19 : decode prog_1_method_1_code 19 = .ok (.astore_n 2, 1) := by decide +kernel
theorem d_10_init_20 : decode prog_1_method_1_code 20 = .ok (.new 15, 3) := by decide +kernel
theorem d_10_init_23 : decode prog_1_method_1_code 23 = .ok (.dup, 1) := by decide +kernel
theorem d_10_init_24 : decode prog_1_method_1_code 24 = .ok (.aload_n 1, 1) := by decide +kernel
theorem d_10_init_25 : decode prog_1_method_1_code 25 = .ok (.aload_n 2, 1) := by decide +kernel
theorem d_10_init_26 : decode prog_1_method_1_code 26 = .ok (.invokespecial 17, 3) := by decide +kernel
theorem d_10_init_29 : decode prog_1_method_1_code 29 = .ok (.astore_n 3, 1) := by decide +kernel
theorem d_10_init_30 : decode prog_1_method_1_code 30 = .ok (.aload_n 0, 1) := by decide +kernel
theorem d_10_init_31 : decode prog_1_method_1_code 31 = .ok (.aload_n 1, 1) := by decide +kernel
theorem d_10_init_32 : decode prog_1_method_1_code 32 = .ok (.putfield 20, 3) := by decide +kernel
theorem d_10_init_35 : decode prog_1_method_1_code 35 = .ok (.aload_n 0, 1) := by decide +kernel
theorem d_10_init_36 : decode prog_1_method_1_code 36 = .ok (.aload_n 2, 1) := by decide +kernel
theorem d_10_init_37 : decode prog_1_method_1_code 37 = .ok (.putfield 24, 3) := by decide +kernel
theorem d_10_init_40 : decode prog_1_method_1_code 40 = .ok (.aload_n 0, 1) := by decide +kernel
theorem d_10_init_41 : decode prog_1_method_1_code 41 = .ok (.aload_n 3, 1) := by decide +kernel
theorem d_10_init_42 : decode prog_1_method_1_code 42 = .ok (.putfield 28, 3) := by decide +kernel
theorem d_10_init_45 : decode prog_1_method_1_code 45 = .ok (.aload_n 0, 1) := by decide +kernel
theorem d_10_init_46 : decode prog_1_method_1_code 46 = .ok (.new 32, 3) := by decide +kernel
theorem d_10_init_49 : decode prog_1_method_1_code 49 = .ok (.dup, 1) := by decide +kernel
theorem d_10_init_50 : decode prog_1_method_1_code 50 = .ok (.aload_n 1, 1) := by decide +kernel
theorem d_10_init_51 : decode prog_1_method_1_code 51 = .ok (.aload_n 3, 1) := by decide +kernel
theorem d_10_init_52 : decode prog_1_method_1_code 52 = .ok (.invokespecial 34, 3) := by decide +kernel
theorem d_10_init_55 : decode prog_1_method_1_code 55 = .ok (.putfield 37, 3) := by decide +kernel
theorem d_10_init_58 : decode prog_1_method_1_code 58 = .ok (.aload_n 0, 1) := by decide +kernel
theorem d_10_init_59 : decode prog_1_method_1_code 59 = .ok (.new 41, 3) := by decide +kernel
theorem d_10_init_62 : decode prog_1_method_1_code 62 = .ok (.dup, 1) := by decide +kernel
theorem d_10_init_63 : decode prog_1_method_1_code 63 = .ok (.aload_n 1, 1) := by decide +kernel
theorem d_10_init_64 : decode prog_1_method_1_code 64 = .ok (.invokespecial 43, 3) := by decide +kernel
theorem d_10_init_67 : decode prog_1_method_1_code 67 = .ok (.putfield 46, 3) := by decide +kernel
theorem d_10_init_70 : decode prog_1_method_1_code 70 = .ok (.aload_n 0, 1) := by decide +kernel
theorem d_10_init_71 : decode prog_1_method_1_code 71 = .ok (.new 50, 3) := by decide +kernel
theorem d_10_init_74 : decode prog_1_method_1_code 74 = .ok (.dup, 1) := by decide +kernel
theorem d_10_init_75 : decode prog_1_method_1_code 75 = .ok (.invokespecial 52, 3) := by decide +kernel
theorem d_10_init_78 : decode prog_1_method_1_code 78 = .ok (.putfield 53, 3) := by decide +kernel
theorem d_10_init_81 : decode prog_1_method_1_code 81 = .ok (.aload_n 0, 1) := by decide +kernel
theorem d_10_init_82 : decode prog_1_method_1_code 82 = .ok (.new 57, 3) := by decide +kernel
theorem d_10_init_85 : decode prog_1_method_1_code 85 = .ok (.dup, 1) := by decide +kernel
theorem d_10_init_86 : decode prog_1_method_1_code 86 = .ok (.invokespecial 59, 3) := by decide +kernel
theorem d_10_init_89 : decode prog_1_method_1_code 89 = .ok (.putfield 60, 3) := by decide +kernel
theorem d_10_init_92 : decode prog_1_method_1_code 92 = .ok (.aload_n 0, 1) := by decide +kernel
theorem d_10_init_93 : decode prog_1_method_1_code 93 = .ok (.new 64, 3) := by decide +kernel
theorem d_10_init_96 : decode prog_1_method_1_code 96 = .ok (.dup, 1) := by decide +kernel
theorem d_10_init_97 : decode prog_1_method_1_code 97 = .ok (.aload_n 2, 1) := by decide +kernel
theorem d_10_init_98 : decode prog_1_method_1_code 98 = .ok (.invokespecial 66, 3) := by decide +kernel
theorem d_10_init_101 : decode prog_1_method_1_code 101 = .ok (.putfield 69, 3) := by decide +kernel
theorem d_10_init_104 : decode prog_1_method_1_code 104 = .ok (.aload_n 0, 1) := by decide +kernel
theorem d_10_init_105 : decode prog_1_method_1_code 105 = .ok (.new 73, 3) := by decide +kernel
theorem d_10_init_108 : decode prog_1_method_1_code 108 = .ok (.dup, 1) := by decide +kernel
theorem d_10_init_109 : decode prog_1_method_1_code 109 = .ok (.invokespecial 75, 3) := by decide +kernel
theorem d_10_init_112 : decode prog_1_method_1_code 112 = .ok (.putfield 76, 3) := by decide +kernel
theorem d_10_init_115 : decode prog_1_method_1_code 115 = .ok (.aload_n 0, 1) := by decide +kernel
theorem d_10_init_116 : decode prog_1_method_1_code 116 = .ok (.iconst 0, 1) := by decide +kernel
theorem d_10_init_117 : decode prog_1_method_1_code 117 = .ok (.putfield 80, 3) := by decide +kernel
theorem d_10_init_120 : decode prog_1_method_1_code 120 = .ok (.return_, 1) := by decide +kernel
def wp_10_init (S : hm_S) (T : hm_T) (Q : hm_S → hm_T → Prop) : Prop :=
  ((∀ k, S 1 k = 0) ∧ (∀ k, T 1 k = 0) ∧ wp_6_init S T (fun S1 T1 => ((∀ k, S1 4 k = 0) ∧ (∀ k, T1 4 k = 0) ∧ wp_2_init S1 T1 (fun S2 T2 => ((∀ k, S2 19 k = 0) ∧ (∀ k, T2 19 k = 0) ∧ wp_3_init S2 T2 (fun S3 T3 => ((∀ k, S3 36 k = 0) ∧ (∀ k, T3 36 k = 0) ∧ wp_8_init S3 T3 (fun S4 T4 => ((∀ k, S4 59 k = 0) ∧ (∀ k, T4 59 k = 0) ∧ wp_0_init S4 T4 (fun S5 T5 => ((∀ k, S5 64 k = 0) ∧ (∀ k, T5 64 k = 0) ∧ wp_9_init S5 T5 (fun S6 T6 => ((∀ k, S6 67 k = 0) ∧ (∀ k, T6 67 k = 0) ∧ wp_7_init S6 T6 (fun S7 T7 => ((∀ k, S7 70 k = 0) ∧ (∀ k, T7 70 k = 0) ∧ wp_4_init S7 T7 (fun S8 T8 => ((∀ k, S8 71 k = 0) ∧ (∀ k, T8 71 k = 0) ∧ wp_1_init S8 T8 (fun S9 T9 => Q (hm_up S9 0 9 0) T9))))))))))))))))))
set_option maxHeartbeats 4000000 in
set_option maxRecDepth 20000 in
theorem bk_10_init_0 {Q : hm_S → hm_T → Prop} (cx : hm_cx G p s m args c prog_1_method_1_code 4 "HeapGames") (hr : meth.sig.returnType = none) (hlk : meth.locks = false) (hin : meth.name = "<init>") {S : hm_S} {T : hm_T} {H : Heap} {locs : List Loc} {ls : Array Slot} (h : wp_10_init S T Q) (hw : hm_wc G H0 o lc_112 S T H) (hL : hm_Lc o locs) (hl : lv_has ls 4 [(0, .ref (o + 0))]) : W p l e rm_10_init s m args below meth c H locs 0 0 (MQ below (hm_Qcc G H0 o lc_111 Q) args s 73 84442 (hm_ge o)) (F0 m 0 ls []) := by
  have hx := cx.1.1
  have hb := cx.1.2.1
  unfold wp_10_init at h
  refine lv_aload_n hx hb d_10_init_0 rfl (lv_at hl 0 rfl) ?_
  refine W.objInit hx hb cx.1.2.2.2.1 (cx.1.2.2.2.2 _ hq_97) (cx.1.2.2.2.2 _ hq_98) (cx.1.2.2.2.2 _ hq_99) rfl (hl.1.trans cx.1.2.2.1.symm) rfl d_10_init_1 (Nat.le_of_ble_eq_true rfl) (Nat.le_of_ble_eq_true rfl) ?_
  obtain ⟨h0, h1, h⟩ := h
  refine hm_cnew (ci := 6) cx hw hin_6 tyX6 tyX6_ok rfl hq_100 hq_101 hq_75 [1, 0, 0, 0] dfX6 h0 h1 (Nat.le_of_ble_eq_true rfl) (Nat.le_of_ble_eq_true rfl) d_10_init_4 (fun H hw => ?_)
  replace hw : hm_wc G H0 o lc_1 _ _ H := hw
  refine lv_dup hx hb d_10_init_7 rfl ?_
  refine hm_cinit (hm_rIN (i := 1) (As := []) (rest := [.ref (o + 1)]) cx hw (ct_6_init h) (mi_10_11 cx ⟨Nat.le_of_ble_eq_true rfl, Nat.le_of_ble_eq_true rfl⟩) rfl hl.1 rfl (Nat.le_of_ble_eq_true rfl) d_10_init_8 ⟨Nat.le_of_ble_eq_true rfl, Nat.le_of_ble_eq_true rfl⟩) hL (fun S1 T1 H locs h hw hL => ?_)
  replace hw : hm_wc G H0 o lc_0 _ _ H := hw
  refine lv_astore_n (lv' := [(1, .ref (o + 1)), (0, .ref (o + 0))]) hx hb d_10_init_11 rfl hl (by decide) rfl (fun ls hl => ?_)
  obtain ⟨h0, h1, h⟩ := h
  refine hm_cnew (ci := 2) cx hw hin_2 tyX2 tyX2_ok rfl hq_136 hq_137 hq_78 [1, 1, 1, 1, 1, 1, 1, 0] dfX2 h0 h1 (Nat.le_of_ble_eq_true rfl) (Nat.le_of_ble_eq_true rfl) d_10_init_12 (fun H hw => ?_)
  replace hw : hm_wc G H0 o lc_5 _ _ H := hw
  refine lv_dup hx hb d_10_init_15 rfl ?_
  refine hm_cinit (hm_rI (i := 4) (As := []) (rest := [.ref (o + 4)]) cx hw (ct_2_init h) (mi_10_14 cx.1.2.2.2.2 ⟨Nat.le_of_ble_eq_true rfl, Nat.le_of_ble_eq_true rfl⟩) rfl hl.1 rfl (Nat.le_of_ble_eq_true rfl) d_10_init_16 ⟨Nat.le_of_ble_eq_true rfl, Nat.le_of_ble_eq_true rfl⟩) hL (fun S2 T2 H locs h hw hL => ?_)
  replace hw : hm_wc G H0 o lc_4 _ _ H := hw
  refine lv_astore_n (lv' := [(2, .ref (o + 4)), (1, .ref (o + 1)), (0, .ref (o + 0))]) hx hb d_10_init_19 rfl hl (by decide) rfl (fun ls hl => ?_)
  obtain ⟨h0, h1, h⟩ := h
  refine hm_cnew (ci := 3) cx hw hin_3 tyX3 tyX3_ok rfl hq_198 hq_199 hq_79 [1, 1, 1, 1, 1, 1, 1, 1, 1, 1, 0, 0, 0] dfX3 h0 h1 (Nat.le_of_ble_eq_true rfl) (Nat.le_of_ble_eq_true rfl) d_10_init_20 (fun H hw => ?_)
  replace hw : hm_wc G H0 o lc_27 _ _ H := hw
  refine lv_dup hx hb d_10_init_23 rfl ?_
  refine lv_aload_n hx hb d_10_init_24 rfl (lv_at hl 1 rfl) ?_
  refine lv_aload_n hx hb d_10_init_25 rfl (lv_at hl 0 rfl) ?_
  refine hm_cinit (hm_rI (i := 19) (As := [.ref (o + 1), .ref (o + 4)]) (rest := [.ref (o + 19)]) cx hw (ct_3_init h) (mi_10_17 cx.1.2.2.2.2 ⟨Nat.le_of_ble_eq_true rfl, Nat.le_of_ble_eq_true rfl⟩) rfl hl.1 rfl (Nat.le_of_ble_eq_true rfl) d_10_init_26 ⟨Nat.le_of_ble_eq_true rfl, Nat.le_of_ble_eq_true rfl⟩) hL (fun S3 T3 H locs h hw hL => ?_)
  replace hw : hm_wc G H0 o lc_26 _ _ H := hw
  refine lv_astore_n (lv' := [(3, .ref (o + 19)), (2, .ref (o + 4)), (1, .ref (o + 1)), (0, .ref (o + 0))]) hx hb d_10_init_29 rfl hl (by decide) rfl (fun ls hl => ?_)
  refine lv_aload_n hx hb d_10_init_30 rfl (lv_at hl 3 rfl) ?_
  refine lv_aload_n hx hb d_10_init_31 rfl (lv_at hl 2 rfl) ?_
  refine hm_cputF (ci := 10) cx hw hin_10 tyX10 tyX10_ok nmX10 rfl 0 (by decide) hq_406 rfl rfl hin (i := 0) (r := 1) (fs := [1, 1, 1, 1, 1, 1, 1, 1, 1, 0]) rfl rfl rfl (by decide) hL d_10_init_32 (fun H locs hw hL => ?_)
  replace hw : hm_wc G H0 o lc_113 _ _ H := hw
  refine lv_aload_n hx hb d_10_init_35 rfl (lv_at hl 3 rfl) ?_
  refine lv_aload_n hx hb d_10_init_36 rfl (lv_at hl 1 rfl) ?_
  refine hm_cputF (ci := 10) cx hw hin_10 tyX10 tyX10_ok nmX10 rfl 1 (by decide) hq_407 rfl rfl hin (i := 0) (r := 4) (fs := [4, 1, 1, 1, 1, 1, 1, 1, 1, 0]) rfl rfl rfl (by decide) hL d_10_init_37 (fun H locs hw hL => ?_)
  replace hw : hm_wc G H0 o lc_114 _ _ H := hw
  refine lv_aload_n hx hb d_10_init_40 rfl (lv_at hl 3 rfl) ?_
  refine lv_aload_n hx hb d_10_init_41 rfl (lv_at hl 0 rfl) ?_
  refine hm_cputF (ci := 10) cx hw hin_10 tyX10 tyX10_ok nmX10 rfl 2 (by decide) hq_408 rfl rfl hin (i := 0) (r := 19) (fs := [4, 7, 1, 1, 1, 1, 1, 1, 1, 0]) rfl rfl rfl (by decide) hL d_10_init_42 (fun H locs hw hL => ?_)
  replace hw : hm_wc G H0 o lc_115 _ _ H := hw
  refine lv_aload_n hx hb d_10_init_45 rfl (lv_at hl 3 rfl) ?_
  obtain ⟨h0, h1, h⟩ := h
  refine hm_cnew (ci := 8) cx hw hin_8 tyX8 tyX8_ok rfl hq_253 hq_254 hq_80 [1, 1, 1, 1, 1, 1, 1, 1, 1, 1, 1, 1, 1, 0, 0, 0] dfX8 h0 h1 (Nat.le_of_ble_eq_true rfl) (Nat.le_of_ble_eq_true rfl) d_10_init_46 (fun H hw => ?_)
  replace hw : hm_wc G H0 o lc_54 _ _ H := hw
  refine lv_dup hx hb d_10_init_49 rfl ?_
  refine lv_aload_n hx hb d_10_init_50 rfl (lv_at hl 2 rfl) ?_
  refine lv_aload_n hx hb d_10_init_51 rfl (lv_at hl 0 rfl) ?_
  refine hm_cinit (hm_rI (i := 36) (As := [.ref (o + 1), .ref (o + 19)]) (rest := [.ref (o + 36), .ref (o + 0)]) cx hw (ct_8_init h) (mi_10_34 cx.1.2.2.2.2 ⟨Nat.le_of_ble_eq_true rfl, Nat.le_of_ble_eq_true rfl⟩) rfl hl.1 rfl (Nat.le_of_ble_eq_true rfl) d_10_init_52 ⟨Nat.le_of_ble_eq_true rfl, Nat.le_of_ble_eq_true rfl⟩) hL (fun S4 T4 H locs h hw hL => ?_)
  replace hw : hm_wc G H0 o lc_53 _ _ H := hw
  refine hm_cputF (ci := 10) cx hw hin_10 tyX10 tyX10_ok nmX10 rfl 3 (by decide) hq_409 rfl rfl hin (i := 0) (r := 36) (fs := [4, 7, 22, 1, 1, 1, 1, 1, 1, 0]) rfl rfl rfl (by decide) hL d_10_init_55 (fun H locs hw hL => ?_)
  replace hw : hm_wc G H0 o lc_116 _ _ H := hw
  refine lv_aload_n hx hb d_10_init_58 rfl (lv_at hl 3 rfl) ?_
  obtain ⟨h0, h1, h⟩ := h
  refine hm_cnew (ci := 0) cx hw hin_0 tyX0 tyX0_ok rfl hq_310 hq_311 hq_81 [1, 1, 1, 0, 0, 0] dfX0 h0 h1 (Nat.le_of_ble_eq_true rfl) (Nat.le_of_ble_eq_true rfl) d_10_init_59 (fun H hw => ?_)
  replace hw : hm_wc G H0 o lc_90 _ _ H := hw
  refine lv_dup hx hb d_10_init_62 rfl ?_
  refine lv_aload_n hx hb d_10_init_63 rfl (lv_at hl 2 rfl) ?_
  refine hm_cinit (hm_rI (i := 59) (As := [.ref (o + 1)]) (rest := [.ref (o + 59), .ref (o + 0)]) cx hw (ct_0_init h) (mi_10_43 cx.1.2.2.2.2 ⟨Nat.le_of_ble_eq_true rfl, Nat.le_of_ble_eq_true rfl⟩) rfl hl.1 rfl (Nat.le_of_ble_eq_true rfl) d_10_init_64 ⟨Nat.le_of_ble_eq_true rfl, Nat.le_of_ble_eq_true rfl⟩) hL (fun S5 T5 H locs h hw hL => ?_)
  replace hw : hm_wc G H0 o lc_89 _ _ H := hw
  refine hm_cputF (ci := 10) cx hw hin_10 tyX10 tyX10_ok nmX10 rfl 4 (by decide) hq_410 rfl rfl hin (i := 0) (r := 59) (fs := [4, 7, 22, 39, 1, 1, 1, 1, 1, 0]) rfl rfl rfl (by decide) hL d_10_init_67 (fun H locs hw hL => ?_)
  replace hw : hm_wc G H0 o lc_117 _ _ H := hw
  refine lv_aload_n hx hb d_10_init_70 rfl (lv_at hl 3 rfl) ?_
  obtain ⟨h0, h1, h⟩ := h
  refine hm_cnew (ci := 9) cx hw hin_9 tyX9 tyX9_ok rfl hq_337 hq_338 hq_82 [1, 0, 0] dfX9 h0 h1 (Nat.le_of_ble_eq_true rfl) (Nat.le_of_ble_eq_true rfl) d_10_init_71 (fun H hw => ?_)
  replace hw : hm_wc G H0 o lc_98 _ _ H := hw
  refine lv_dup hx hb d_10_init_74 rfl ?_
  refine hm_cinit (hm_rIN (i := 64) (As := []) (rest := [.ref (o + 64), .ref (o + 0)]) cx hw (ct_9_init h) (mi_10_52 cx ⟨Nat.le_of_ble_eq_true rfl, Nat.le_of_ble_eq_true rfl⟩) rfl hl.1 rfl (Nat.le_of_ble_eq_true rfl) d_10_init_75 ⟨Nat.le_of_ble_eq_true rfl, Nat.le_of_ble_eq_true rfl⟩) hL (fun S6 T6 H locs h hw hL => ?_)
  replace hw : hm_wc G H0 o lc_97 _ _ H := hw
  refine hm_cputF (ci := 10) cx hw hin_10 tyX10 tyX10_ok nmX10 rfl 5 (by decide) hq_411 rfl rfl hin (i := 0) (r := 64) (fs := [4, 7, 22, 39, 62, 1, 1, 1, 1, 0]) rfl rfl rfl (by decide) hL d_10_init_78 (fun H locs hw hL => ?_)
  replace hw : hm_wc G H0 o lc_118 _ _ H := hw
  refine lv_aload_n hx hb d_10_init_81 rfl (lv_at hl 3 rfl) ?_
  obtain ⟨h0, h1, h⟩ := h
  refine hm_cnew (ci := 7) cx hw hin_7 tyX7 tyX7_ok rfl hq_359 hq_360 hq_83 [1] dfX7 h0 h1 (Nat.le_of_ble_eq_true rfl) (Nat.le_of_ble_eq_true rfl) d_10_init_82 (fun H hw => ?_)
  replace hw : hm_wc G H0 o lc_102 _ _ H := hw
  refine lv_dup hx hb d_10_init_85 rfl ?_
  refine hm_cinit (hm_rIN (i := 67) (As := []) (rest := [.ref (o + 67), .ref (o + 0)]) cx hw (ct_7_init h) (mi_10_59 cx ⟨Nat.le_of_ble_eq_true rfl, Nat.le_of_ble_eq_true rfl⟩) rfl hl.1 rfl (Nat.le_of_ble_eq_true rfl) d_10_init_86 ⟨Nat.le_of_ble_eq_true rfl, Nat.le_of_ble_eq_true rfl⟩) hL (fun S7 T7 H locs h hw hL => ?_)
  replace hw : hm_wc G H0 o lc_101 _ _ H := hw
  refine hm_cputF (ci := 10) cx hw hin_10 tyX10 tyX10_ok nmX10 rfl 6 (by decide) hq_412 rfl rfl hin (i := 0) (r := 67) (fs := [4, 7, 22, 39, 62, 67, 1, 1, 1, 0]) rfl rfl rfl (by decide) hL d_10_init_89 (fun H locs hw hL => ?_)
  replace hw : hm_wc G H0 o lc_119 _ _ H := hw
  refine lv_aload_n hx hb d_10_init_92 rfl (lv_at hl 3 rfl) ?_
  obtain ⟨h0, h1, h⟩ := h
  refine hm_cnew (ci := 4) cx hw hin_4 tyX4 tyX4_ok rfl hq_371 hq_372 hq_84 [1, 0, 0] dfX4 h0 h1 (Nat.le_of_ble_eq_true rfl) (Nat.le_of_ble_eq_true rfl) d_10_init_93 (fun H hw => ?_)
  replace hw : hm_wc G H0 o lc_106 _ _ H := hw
  refine lv_dup hx hb d_10_init_96 rfl ?_
  refine lv_aload_n hx hb d_10_init_97 rfl (lv_at hl 1 rfl) ?_
  refine hm_cinit (hm_rI (i := 70) (As := [.ref (o + 4)]) (rest := [.ref (o + 70), .ref (o + 0)]) cx hw (ct_4_init h) (mi_10_66 cx.1.2.2.2.2 ⟨Nat.le_of_ble_eq_true rfl, Nat.le_of_ble_eq_true rfl⟩) rfl hl.1 rfl (Nat.le_of_ble_eq_true rfl) d_10_init_98 ⟨Nat.le_of_ble_eq_true rfl, Nat.le_of_ble_eq_true rfl⟩) hL (fun S8 T8 H locs h hw hL => ?_)
  replace hw : hm_wc G H0 o lc_105 _ _ H := hw
  refine hm_cputF (ci := 10) cx hw hin_10 tyX10 tyX10_ok nmX10 rfl 7 (by decide) hq_413 rfl rfl hin (i := 0) (r := 70) (fs := [4, 7, 22, 39, 62, 67, 70, 1, 1, 0]) rfl rfl rfl (by decide) hL d_10_init_101 (fun H locs hw hL => ?_)
  replace hw : hm_wc G H0 o lc_120 _ _ H := hw
  refine lv_aload_n hx hb d_10_init_104 rfl (lv_at hl 3 rfl) ?_
  obtain ⟨h0, h1, h⟩ := h
  refine hm_cnew (ci := 1) cx hw hin_1 tyX1 tyX1_ok rfl hq_387 hq_388 hq_85 [1, 0, 0] dfX1 h0 h1 (Nat.le_of_ble_eq_true rfl) (Nat.le_of_ble_eq_true rfl) d_10_init_105 (fun H hw => ?_)
  replace hw : hm_wc G H0 o lc_108 _ _ H := hw
  refine lv_dup hx hb d_10_init_108 rfl ?_
  refine hm_cinit (hm_rIN (i := 71) (As := []) (rest := [.ref (o + 71), .ref (o + 0)]) cx hw (ct_1_init h) (mi_10_75 cx ⟨Nat.le_of_ble_eq_true rfl, Nat.le_of_ble_eq_true rfl⟩) rfl hl.1 rfl (Nat.le_of_ble_eq_true rfl) d_10_init_109 ⟨Nat.le_of_ble_eq_true rfl, Nat.le_of_ble_eq_true rfl⟩) hL (fun S9 T9 H locs h hw hL => ?_)
  replace hw : hm_wc G H0 o lc_107 _ _ H := hw
  refine hm_cputF (ci := 10) cx hw hin_10 tyX10 tyX10_ok nmX10 rfl 8 (by decide) hq_414 rfl rfl hin (i := 0) (r := 71) (fs := [4, 7, 22, 39, 62, 67, 70, 73, 1, 0]) rfl rfl rfl (by decide) hL d_10_init_112 (fun H locs hw hL => ?_)
  replace hw : hm_wc G H0 o lc_111 _ _ H := hw
  refine lv_aload_n hx hb d_10_init_115 rfl (lv_at hl 3 rfl) ?_
  refine lv_iconst (v := 0) hx hb d_10_init_116 (by decide) ?_
  refine hm_cputi (ci := 10) cx hw hin_10 tyX10 tyX10_ok nmX10 rfl 9 (by decide) hq_415 rfl rfl (i := 0) (fs := [4, 7, 22, 39, 62, 67, 70, 73, 74, 0]) rfl rfl (v := 0) rfl rfl hL d_10_init_117 (fun H locs hw hL => ?_)
  exact W.vret hx hb hr (fun t ht _ => ⟨_, _, rfl, h, by rw [ht]; exact hw⟩) hL d_10_init_120
set_option maxHeartbeats 4000000 in
set_option maxRecDepth 20000 in
theorem ct_10_init {S : hm_S} {T : hm_T} {Q : hm_S → hm_T → Prop} (h : wp_10_init S T Q) : Met l y_10_init (hm_ws y_10_init prog_1_method_1_code 4 none) rm_10_init (hm_Pcc G H0 o lc_112 S T [.ref (o + 0)]) (hm_Qcc G H0 o lc_111 Q) 73 84442 (hm_ge o) := by
  refine Met.ofW (cc := prog_1_method_1_code) (maxL := 4) (ret := none) (by decide) rfl ?_
  intro p e s m args below meth c s₁ B hml hv
  obtain ⟨rfl, hK, hw⟩ := hv
  have cx : hm_cx G p s m _ c prog_1_method_1_code 4 "HeapGames" := ⟨⟨B.exec, B.bytes, hml, findClass_of_methodNamed B.named, fun w hq => atoms_spec (ws := hm_ws y_10_init prog_1_method_1_code 4 none) B.pre w (List.mem_cons_of_mem _ hq)⟩, hK⟩
  have hl := lv_entry ([.ref (o + 0)]) (n := 4) (Nat.le_of_ble_eq_true rfl)
  rw [lg_entry_eq]
  generalize (lg_sl ([.ref (o + 0)]) ++ List.replicate (4 - (lg_sl ([.ref (o + 0)])).length) Slot.unset).toArray = ls at hl ⊢
  have hl : lv_has ls 4 [(0, .ref (o + 0))] := hl
  exact bk_10_init_0 cx B.returns B.notSynchronized (name_of_methodNamed B.named B.method).1 h hw (hm_Lc0 _) hl
/-! ===== HeapGamesModel ===== -/
theorem d_11_init_0 : decode prog_13_method_1_code 0 = .ok (.aload_n 0, 1) := by decide +kernel
theorem d_11_init_1 : decode prog_13_method_1_code 1 = .ok (.invokespecial 1, 3) := by decide +kernel
theorem d_11_init_4 : decode prog_13_method_1_code 4 = .ok (.aload_n 0, 1) := by decide +kernel
theorem d_11_init_5 : decode prog_13_method_1_code 5 = .ok (.sipush 1215, 3) := by decide +kernel
theorem d_11_init_8 : decode prog_13_method_1_code 8 = .ok (.newarray .int, 2) := by decide +kernel
theorem d_11_init_10 : decode prog_13_method_1_code 10 = .ok (.putfield 7, 3) := by decide +kernel
theorem d_11_init_13 : decode prog_13_method_1_code 13 = .ok (.aload_n 0, 1) := by decide +kernel
theorem d_11_init_14 : decode prog_13_method_1_code 14 = .ok (.sipush 12150, 3) := by decide +kernel
theorem d_11_init_17 : decode prog_13_method_1_code 17 = .ok (.newarray .int, 2) := by decide +kernel
theorem d_11_init_19 : decode prog_13_method_1_code 19 = .ok (.putfield 13, 3) := by decide +kernel
theorem d_11_init_22 : decode prog_13_method_1_code 22 = .ok (.aload_n 0, 1) := by decide +kernel
theorem d_11_init_23 : decode prog_13_method_1_code 23 = .ok (.sipush 1215, 3) := by decide +kernel
theorem d_11_init_26 : decode prog_13_method_1_code 26 = .ok (.newarray .long, 2) := by decide +kernel
theorem d_11_init_28 : decode prog_13_method_1_code 28 = .ok (.putfield 16, 3) := by decide +kernel
theorem d_11_init_31 : decode prog_13_method_1_code 31 = .ok (.aload_n 0, 1) := by decide +kernel
theorem d_11_init_32 : decode prog_13_method_1_code 32 = .ok (.bipush 11, 2) := by decide +kernel
theorem d_11_init_34 : decode prog_13_method_1_code 34 = .ok (.newarray .int, 2) := by decide +kernel
theorem d_11_init_36 : decode prog_13_method_1_code 36 = .ok (.putfield 20, 3) := by decide +kernel
theorem d_11_init_39 : decode prog_13_method_1_code 39 = .ok (.aload_n 0, 1) := by decide +kernel
theorem d_11_init_40 : decode prog_13_method_1_code 40 = .ok (.bipush 30, 2) := by decide +kernel
theorem d_11_init_42 : decode prog_13_method_1_code 42 = .ok (.newarray .int, 2) := by decide +kernel
theorem d_11_init_44 : decode prog_13_method_1_code 44 = .ok (.putfield 23, 3) := by decide +kernel
theorem d_11_init_47 : decode prog_13_method_1_code 47 = .ok (.aload_n 0, 1) := by decide +kernel
theorem d_11_init_48 : decode prog_13_method_1_code 48 = .ok (.bipush 12, 2) := by decide +kernel
theorem d_11_init_50 : decode prog_13_method_1_code 50 = .ok (.newarray .int, 2) := by decide +kernel
theorem d_11_init_52 : decode prog_13_method_1_code 52 = .ok (.putfield 26, 3) := by decide +kernel
theorem d_11_init_55 : decode prog_13_method_1_code 55 = .ok (.aload_n 0, 1) := by decide +kernel
theorem d_11_init_56 : decode prog_13_method_1_code 56 = .ok (.bipush 64, 2) := by decide +kernel
theorem d_11_init_58 : decode prog_13_method_1_code 58 = .ok (.newarray .int, 2) := by decide +kernel
theorem d_11_init_60 : decode prog_13_method_1_code 60 = .ok (.putfield 29, 3) := by decide +kernel
theorem d_11_init_63 : decode prog_13_method_1_code 63 = .ok (.aload_n 0, 1) := by decide +kernel
theorem d_11_init_64 : decode prog_13_method_1_code 64 = .ok (.bipush 64, 2) := by decide +kernel
theorem d_11_init_66 : decode prog_13_method_1_code 66 = .ok (.newarray .int, 2) := by decide +kernel
theorem d_11_init_68 : decode prog_13_method_1_code 68 = .ok (.putfield 32, 3) := by decide +kernel
theorem d_11_init_71 : decode prog_13_method_1_code 71 = .ok (.aload_n 0, 1) := by decide +kernel
theorem d_11_init_72 : decode prog_13_method_1_code 72 = .ok (.bipush 64, 2) := by decide +kernel
theorem d_11_init_74 : decode prog_13_method_1_code 74 = .ok (.newarray .int, 2) := by decide +kernel
theorem d_11_init_76 : decode prog_13_method_1_code 76 = .ok (.putfield 35, 3) := by decide +kernel
theorem d_11_init_79 : decode prog_13_method_1_code 79 = .ok (.aload_n 0, 1) := by decide +kernel
theorem d_11_init_80 : decode prog_13_method_1_code 80 = .ok (.bipush 64, 2) := by decide +kernel
theorem d_11_init_82 : decode prog_13_method_1_code 82 = .ok (.newarray .int, 2) := by decide +kernel
theorem d_11_init_84 : decode prog_13_method_1_code 84 = .ok (.putfield 38, 3) := by decide +kernel
theorem d_11_init_87 : decode prog_13_method_1_code 87 = .ok (.aload_n 0, 1) := by decide +kernel
theorem d_11_init_88 : decode prog_13_method_1_code 88 = .ok (.bipush 64, 2) := by decide +kernel
theorem d_11_init_90 : decode prog_13_method_1_code 90 = .ok (.newarray .int, 2) := by decide +kernel
theorem d_11_init_92 : decode prog_13_method_1_code 92 = .ok (.putfield 41, 3) := by decide +kernel
theorem d_11_init_95 : decode prog_13_method_1_code 95 = .ok (.aload_n 0, 1) := by decide +kernel
theorem d_11_init_96 : decode prog_13_method_1_code 96 = .ok (.bipush 64, 2) := by decide +kernel
theorem d_11_init_98 : decode prog_13_method_1_code 98 = .ok (.newarray .int, 2) := by decide +kernel
theorem d_11_init_100 : decode prog_13_method_1_code 100 = .ok (.putfield 44, 3) := by decide +kernel
theorem d_11_init_103 : decode prog_13_method_1_code 103 = .ok (.aload_n 0, 1) := by decide +kernel
theorem d_11_init_104 : decode prog_13_method_1_code 104 = .ok (.sipush 2431, 3) := by decide +kernel
theorem d_11_init_107 : decode prog_13_method_1_code 107 = .ok (.newarray .int, 2) := by decide +kernel
theorem d_11_init_109 : decode prog_13_method_1_code 109 = .ok (.putfield 47, 3) := by decide +kernel
theorem d_11_init_112 : decode prog_13_method_1_code 112 = .ok (.aload_n 0, 1) := by decide +kernel
theorem d_11_init_113 : decode prog_13_method_1_code 113 = .ok (.ldc 50, 2) := by decide +kernel
theorem d_11_init_115 : decode prog_13_method_1_code 115 = .ok (.newarray .int, 2) := by decide +kernel
theorem d_11_init_117 : decode prog_13_method_1_code 117 = .ok (.putfield 51, 3) := by decide +kernel
theorem d_11_init_120 : decode prog_13_method_1_code 120 = .ok (.aload_n 0, 1) := by decide +kernel
theorem d_11_init_121 : decode prog_13_method_1_code 121 = .ok (.sipush 2430, 3) := by decide +kernel
theorem d_11_init_124 : decode prog_13_method_1_code 124 = .ok (.newarray .int, 2) := by decide +kernel
theorem d_11_init_126 : decode prog_13_method_1_code 126 = .ok (.putfield 54, 3) := by decide +kernel
theorem d_11_init_129 : decode prog_13_method_1_code 129 = .ok (.aload_n 0, 1) := by decide +kernel
theorem d_11_init_130 : decode prog_13_method_1_code 130 = .ok (.sipush 2430, 3) := by decide +kernel
theorem d_11_init_133 : decode prog_13_method_1_code 133 = .ok (.newarray .int, 2) := by decide +kernel
theorem d_11_init_135 : decode prog_13_method_1_code 135 = .ok (.putfield 57, 3) := by decide +kernel
theorem d_11_init_138 : decode prog_13_method_1_code 138 = .ok (.aload_n 0, 1) := by decide +kernel
theorem d_11_init_139 : decode prog_13_method_1_code 139 = .ok (.bipush 40, 2) := by decide +kernel
theorem d_11_init_141 : decode prog_13_method_1_code 141 = .ok (.newarray .int, 2) := by decide +kernel
theorem d_11_init_143 : decode prog_13_method_1_code 143 = .ok (.putfield 60, 3) := by decide +kernel
theorem d_11_init_146 : decode prog_13_method_1_code 146 = .ok (.aload_n 0, 1) := by decide +kernel
theorem d_11_init_147 : decode prog_13_method_1_code 147 = .ok (.bipush 11, 2) := by decide +kernel
theorem d_11_init_149 : decode prog_13_method_1_code 149 = .ok (.newarray .int, 2) := by decide +kernel
theorem d_11_init_151 : decode prog_13_method_1_code 151 = .ok (.putfield 63, 3) := by decide +kernel
theorem d_11_init_154 : decode prog_13_method_1_code 154 = .ok (.aload_n 0, 1) := by decide +kernel
theorem d_11_init_155 : decode prog_13_method_1_code 155 = .ok (.bipush 61, 2) := by decide +kernel
theorem d_11_init_157 : decode prog_13_method_1_code 157 = .ok (.newarray .int, 2) := by decide +kernel
theorem d_11_init_159 : decode prog_13_method_1_code 159 = .ok (.putfield 66, 3) := by decide +kernel
theorem d_11_init_162 : decode prog_13_method_1_code 162 = .ok (.aload_n 0, 1) := by decide +kernel
theorem d_11_init_163 : decode prog_13_method_1_code 163 = .ok (.sipush 128, 3) := by decide +kernel
theorem d_11_init_166 : decode prog_13_method_1_code 166 = .ok (.newarray .boolean, 2) := by decide +kernel
theorem d_11_init_168 : decode prog_13_method_1_code 168 = .ok (.putfield 69, 3) := by decide +kernel
theorem d_11_init_171 : decode prog_13_method_1_code 171 = .ok (.aload_n 0, 1) := by decide +kernel
theorem d_11_init_172 : decode prog_13_method_1_code 172 = .ok (.sipush 2430, 3) := by decide +kernel
theorem d_11_init_175 : decode prog_13_method_1_code 175 = .ok (.newarray .boolean, 2) := by decide +kernel
theorem d_11_init_177 : decode prog_13_method_1_code 177 = .ok (.putfield 73, 3) := by decide +kernel
theorem d_11_init_180 : decode prog_13_method_1_code 180 = .ok (.aload_n 0, 1) := by decide +kernel
theorem d_11_init_181 : decode prog_13_method_1_code 181 = .ok (.sipush 2430, 3) := by decide +kernel
theorem d_11_init_184 : decode prog_13_method_1_code 184 = .ok (.newarray .int, 2) := by decide +kernel
theorem d_11_init_186 : decode prog_13_method_1_code 186 = .ok (.putfield 76, 3) := by decide +kernel
theorem d_11_init_189 : decode prog_13_method_1_code 189 = .ok (.aload_n 0, 1) := by decide +kernel
theorem d_11_init_190 : decode prog_13_method_1_code 190 = .ok (.invokevirtual 79, 3) := by decide +kernel
theorem d_11_init_193 : decode prog_13_method_1_code 193 = .ok (.return_, 1) := by decide +kernel
def wp_11_init (S : hm_S) (T : hm_T) (Q : hm_S → hm_T → Prop) : Prop :=
  ((∀ k, S 1 k = 0) ∧ ((∀ k, S 2 k = 0) ∧ ((∀ k, T 3 k = 0) ∧ ((∀ k, S 4 k = 0) ∧ ((∀ k, S 5 k = 0) ∧ ((∀ k, S 6 k = 0) ∧ ((∀ k, S 7 k = 0) ∧ ((∀ k, S 8 k = 0) ∧ ((∀ k, S 9 k = 0) ∧ ((∀ k, S 10 k = 0) ∧ ((∀ k, S 11 k = 0) ∧ ((∀ k, S 12 k = 0) ∧ ((∀ k, S 13 k = 0) ∧ ((∀ k, S 14 k = 0) ∧ ((∀ k, S 15 k = 0) ∧ ((∀ k, S 16 k = 0) ∧ ((∀ k, S 17 k = 0) ∧ ((∀ k, S 18 k = 0) ∧ ((∀ k, S 19 k = 0) ∧ ((∀ k, S 20 k = 0) ∧ ((∀ k, S 21 k = 0) ∧ ((∀ k, S 22 k = 0) ∧ wp_11_makesRows S T (fun S1 T1 => Q S1 T1)))))))))))))))))))))))
set_option maxHeartbeats 4000000 in
set_option maxRecDepth 20000 in
theorem bk_11_init_0 {Q : hm_S → hm_T → Prop} (cx : hm_cx G p s m args c prog_13_method_1_code 1 "HeapGamesModel") (hr : meth.sig.returnType = none) (hlk : meth.locks = false) (hin : meth.name = "<init>") {S : hm_S} {T : hm_T} {H : Heap} {locs : List Loc} {ls : Array Slot} (h : wp_11_init S T Q) (hw : hm_wc G H0 o lc_122 S T H) (hL : hm_Lc o locs) (hl : lv_has ls 1 [(0, .ref (o + 0))]) : W p l e rm_11_init s m args below meth c H locs 0 0 (MQ below (hm_Qcc G H0 o lc_121 Q) args s 22 127408 (hm_ge o)) (F0 m 0 ls []) := by
  have hx := cx.1.1
  have hb := cx.1.2.1
  unfold wp_11_init at h
  refine lv_aload_n hx hb d_11_init_0 rfl (lv_at hl 0 rfl) ?_
  refine W.objInit hx hb cx.1.2.2.2.1 (cx.1.2.2.2.2 _ hq_989) (cx.1.2.2.2.2 _ hq_98) (cx.1.2.2.2.2 _ hq_99) rfl (hl.1.trans cx.1.2.2.1.symm) rfl d_11_init_1 (Nat.le_of_ble_eq_true rfl) (Nat.le_of_ble_eq_true rfl) ?_
  refine lv_aload_n hx hb d_11_init_4 rfl (lv_at hl 0 rfl) ?_
  refine lv_sipush (v := 1215) hx hb d_11_init_5 (by decide) ?_
  obtain ⟨h0, h⟩ := h
  refine hm_cnewi (N := 1215) cx hw hq_119 (by decide) (by decide) (Nat.le_of_ble_eq_true rfl) h0 (Nat.le_of_ble_eq_true rfl) (Nat.le_of_ble_eq_true rfl) d_11_init_8 (fun H hw => ?_)
  replace hw : hm_wc G H0 o lc_123 _ _ H := hw
  refine hm_cputF (ci := 11) cx hw hin_11 tyX11 tyX11_ok nmX11 rfl 0 (by decide) hq_1008 rfl rfl hin (i := 0) (r := 1) (fs := [1, 1, 1, 1, 0, 0, 0, 0, 1, 0, 1, 0, 1, 1, 1, 1, 1, 1, 0, 0, 1, 1, 1, 1, 1, 0, 0, 0, 1, 1, 1, 1, 1, 2]) rfl rfl rfl (by decide) hL d_11_init_10 (fun H locs hw hL => ?_)
  replace hw : hm_wc G H0 o lc_124 _ _ H := hw
  refine lv_aload_n hx hb d_11_init_13 rfl (lv_at hl 0 rfl) ?_
  refine lv_sipush (v := 12150) hx hb d_11_init_14 (by decide) ?_
  obtain ⟨h0, h⟩ := h
  refine hm_cnewi (N := 12150) cx hw hq_119 (by decide) (by decide) (Nat.le_of_ble_eq_true rfl) h0 (Nat.le_of_ble_eq_true rfl) (Nat.le_of_ble_eq_true rfl) d_11_init_17 (fun H hw => ?_)
  replace hw : hm_wc G H0 o lc_125 _ _ H := hw
  refine hm_cputF (ci := 11) cx hw hin_11 tyX11 tyX11_ok nmX11 rfl 1 (by decide) hq_1009 rfl rfl hin (i := 0) (r := 2) (fs := [4, 1, 1, 1, 0, 0, 0, 0, 1, 0, 1, 0, 1, 1, 1, 1, 1, 1, 0, 0, 1, 1, 1, 1, 1, 0, 0, 0, 1, 1, 1, 1, 1, 2]) rfl rfl rfl (by decide) hL d_11_init_19 (fun H locs hw hL => ?_)
  replace hw : hm_wc G H0 o lc_126 _ _ H := hw
  refine lv_aload_n hx hb d_11_init_22 rfl (lv_at hl 0 rfl) ?_
  refine lv_sipush (v := 1215) hx hb d_11_init_23 (by decide) ?_
  obtain ⟨h0, h⟩ := h
  refine hm_cnewl (N := 1215) cx hw hq_1111 (by decide) (by decide) (Nat.le_of_ble_eq_true rfl) h0 (Nat.le_of_ble_eq_true rfl) (Nat.le_of_ble_eq_true rfl) d_11_init_26 (fun H hw => ?_)
  replace hw : hm_wc G H0 o lc_127 _ _ H := hw
  refine hm_cputF (ci := 11) cx hw hin_11 tyX11 tyX11_ok nmX11 rfl 2 (by decide) hq_1010 rfl rfl hin (i := 0) (r := 3) (fs := [4, 5, 1, 1, 0, 0, 0, 0, 1, 0, 1, 0, 1, 1, 1, 1, 1, 1, 0, 0, 1, 1, 1, 1, 1, 0, 0, 0, 1, 1, 1, 1, 1, 2]) rfl rfl rfl (by decide) hL d_11_init_28 (fun H locs hw hL => ?_)
  replace hw : hm_wc G H0 o lc_128 _ _ H := hw
  refine lv_aload_n hx hb d_11_init_31 rfl (lv_at hl 0 rfl) ?_
  refine lv_bipush (v := 11) hx hb d_11_init_32 (by decide) ?_
  obtain ⟨h0, h⟩ := h
  refine hm_cnewi (N := 11) cx hw hq_119 (by decide) (by decide) (Nat.le_of_ble_eq_true rfl) h0 (Nat.le_of_ble_eq_true rfl) (Nat.le_of_ble_eq_true rfl) d_11_init_34 (fun H hw => ?_)
  replace hw : hm_wc G H0 o lc_129 _ _ H := hw
  refine hm_cputF (ci := 11) cx hw hin_11 tyX11 tyX11_ok nmX11 rfl 3 (by decide) hq_1011 rfl rfl hin (i := 0) (r := 4) (fs := [4, 5, 6, 1, 0, 0, 0, 0, 1, 0, 1, 0, 1, 1, 1, 1, 1, 1, 0, 0, 1, 1, 1, 1, 1, 0, 0, 0, 1, 1, 1, 1, 1, 2]) rfl rfl rfl (by decide) hL d_11_init_36 (fun H locs hw hL => ?_)
  replace hw : hm_wc G H0 o lc_130 _ _ H := hw
  refine lv_aload_n hx hb d_11_init_39 rfl (lv_at hl 0 rfl) ?_
  refine lv_bipush (v := 30) hx hb d_11_init_40 (by decide) ?_
  obtain ⟨h0, h⟩ := h
  refine hm_cnewi (N := 30) cx hw hq_119 (by decide) (by decide) (Nat.le_of_ble_eq_true rfl) h0 (Nat.le_of_ble_eq_true rfl) (Nat.le_of_ble_eq_true rfl) d_11_init_42 (fun H hw => ?_)
  replace hw : hm_wc G H0 o lc_131 _ _ H := hw
  refine hm_cputF (ci := 11) cx hw hin_11 tyX11 tyX11_ok nmX11 rfl 8 (by decide) hq_1016 rfl rfl hin (i := 0) (r := 5) (fs := [4, 5, 6, 7, 0, 0, 0, 0, 1, 0, 1, 0, 1, 1, 1, 1, 1, 1, 0, 0, 1, 1, 1, 1, 1, 0, 0, 0, 1, 1, 1, 1, 1, 2]) rfl rfl rfl (by decide) hL d_11_init_44 (fun H locs hw hL => ?_)
  replace hw : hm_wc G H0 o lc_132 _ _ H := hw
  refine lv_aload_n hx hb d_11_init_47 rfl (lv_at hl 0 rfl) ?_
  refine lv_bipush (v := 12) hx hb d_11_init_48 (by decide) ?_
  obtain ⟨h0, h⟩ := h
  refine hm_cnewi (N := 12) cx hw hq_119 (by decide) (by decide) (Nat.le_of_ble_eq_true rfl) h0 (Nat.le_of_ble_eq_true rfl) (Nat.le_of_ble_eq_true rfl) d_11_init_50 (fun H hw => ?_)
  replace hw : hm_wc G H0 o lc_133 _ _ H := hw
  refine hm_cputF (ci := 11) cx hw hin_11 tyX11 tyX11_ok nmX11 rfl 10 (by decide) hq_1018 rfl rfl hin (i := 0) (r := 6) (fs := [4, 5, 6, 7, 0, 0, 0, 0, 8, 0, 1, 0, 1, 1, 1, 1, 1, 1, 0, 0, 1, 1, 1, 1, 1, 0, 0, 0, 1, 1, 1, 1, 1, 2]) rfl rfl rfl (by decide) hL d_11_init_52 (fun H locs hw hL => ?_)
  replace hw : hm_wc G H0 o lc_134 _ _ H := hw
  refine lv_aload_n hx hb d_11_init_55 rfl (lv_at hl 0 rfl) ?_
  refine lv_bipush (v := 64) hx hb d_11_init_56 (by decide) ?_
  obtain ⟨h0, h⟩ := h
  refine hm_cnewi (N := 64) cx hw hq_119 (by decide) (by decide) (Nat.le_of_ble_eq_true rfl) h0 (Nat.le_of_ble_eq_true rfl) (Nat.le_of_ble_eq_true rfl) d_11_init_58 (fun H hw => ?_)
  replace hw : hm_wc G H0 o lc_135 _ _ H := hw
  refine hm_cputF (ci := 11) cx hw hin_11 tyX11 tyX11_ok nmX11 rfl 12 (by decide) hq_1020 rfl rfl hin (i := 0) (r := 7) (fs := [4, 5, 6, 7, 0, 0, 0, 0, 8, 0, 9, 0, 1, 1, 1, 1, 1, 1, 0, 0, 1, 1, 1, 1, 1, 0, 0, 0, 1, 1, 1, 1, 1, 2]) rfl rfl rfl (by decide) hL d_11_init_60 (fun H locs hw hL => ?_)
  replace hw : hm_wc G H0 o lc_136 _ _ H := hw
  refine lv_aload_n hx hb d_11_init_63 rfl (lv_at hl 0 rfl) ?_
  refine lv_bipush (v := 64) hx hb d_11_init_64 (by decide) ?_
  obtain ⟨h0, h⟩ := h
  refine hm_cnewi (N := 64) cx hw hq_119 (by decide) (by decide) (Nat.le_of_ble_eq_true rfl) h0 (Nat.le_of_ble_eq_true rfl) (Nat.le_of_ble_eq_true rfl) d_11_init_66 (fun H hw => ?_)
  replace hw : hm_wc G H0 o lc_137 _ _ H := hw
  refine hm_cputF (ci := 11) cx hw hin_11 tyX11 tyX11_ok nmX11 rfl 13 (by decide) hq_1021 rfl rfl hin (i := 0) (r := 8) (fs := [4, 5, 6, 7, 0, 0, 0, 0, 8, 0, 9, 0, 10, 1, 1, 1, 1, 1, 0, 0, 1, 1, 1, 1, 1, 0, 0, 0, 1, 1, 1, 1, 1, 2]) rfl rfl rfl (by decide) hL d_11_init_68 (fun H locs hw hL => ?_)
  replace hw : hm_wc G H0 o lc_138 _ _ H := hw
  refine lv_aload_n hx hb d_11_init_71 rfl (lv_at hl 0 rfl) ?_
  refine lv_bipush (v := 64) hx hb d_11_init_72 (by decide) ?_
  obtain ⟨h0, h⟩ := h
  refine hm_cnewi (N := 64) cx hw hq_119 (by decide) (by decide) (Nat.le_of_ble_eq_true rfl) h0 (Nat.le_of_ble_eq_true rfl) (Nat.le_of_ble_eq_true rfl) d_11_init_74 (fun H hw => ?_)
  replace hw : hm_wc G H0 o lc_139 _ _ H := hw
  refine hm_cputF (ci := 11) cx hw hin_11 tyX11 tyX11_ok nmX11 rfl 14 (by decide) hq_1022 rfl rfl hin (i := 0) (r := 9) (fs := [4, 5, 6, 7, 0, 0, 0, 0, 8, 0, 9, 0, 10, 11, 1, 1, 1, 1, 0, 0, 1, 1, 1, 1, 1, 0, 0, 0, 1, 1, 1, 1, 1, 2]) rfl rfl rfl (by decide) hL d_11_init_76 (fun H locs hw hL => ?_)
  replace hw : hm_wc G H0 o lc_140 _ _ H := hw
  refine lv_aload_n hx hb d_11_init_79 rfl (lv_at hl 0 rfl) ?_
  refine lv_bipush (v := 64) hx hb d_11_init_80 (by decide) ?_
  obtain ⟨h0, h⟩ := h
  refine hm_cnewi (N := 64) cx hw hq_119 (by decide) (by decide) (Nat.le_of_ble_eq_true rfl) h0 (Nat.le_of_ble_eq_true rfl) (Nat.le_of_ble_eq_true rfl) d_11_init_82 (fun H hw => ?_)
  replace hw : hm_wc G H0 o lc_141 _ _ H := hw
  refine hm_cputF (ci := 11) cx hw hin_11 tyX11 tyX11_ok nmX11 rfl 15 (by decide) hq_1023 rfl rfl hin (i := 0) (r := 10) (fs := [4, 5, 6, 7, 0, 0, 0, 0, 8, 0, 9, 0, 10, 11, 12, 1, 1, 1, 0, 0, 1, 1, 1, 1, 1, 0, 0, 0, 1, 1, 1, 1, 1, 2]) rfl rfl rfl (by decide) hL d_11_init_84 (fun H locs hw hL => ?_)
  replace hw : hm_wc G H0 o lc_142 _ _ H := hw
  refine lv_aload_n hx hb d_11_init_87 rfl (lv_at hl 0 rfl) ?_
  refine lv_bipush (v := 64) hx hb d_11_init_88 (by decide) ?_
  obtain ⟨h0, h⟩ := h
  refine hm_cnewi (N := 64) cx hw hq_119 (by decide) (by decide) (Nat.le_of_ble_eq_true rfl) h0 (Nat.le_of_ble_eq_true rfl) (Nat.le_of_ble_eq_true rfl) d_11_init_90 (fun H hw => ?_)
  replace hw : hm_wc G H0 o lc_143 _ _ H := hw
  refine hm_cputF (ci := 11) cx hw hin_11 tyX11 tyX11_ok nmX11 rfl 16 (by decide) hq_1024 rfl rfl hin (i := 0) (r := 11) (fs := [4, 5, 6, 7, 0, 0, 0, 0, 8, 0, 9, 0, 10, 11, 12, 13, 1, 1, 0, 0, 1, 1, 1, 1, 1, 0, 0, 0, 1, 1, 1, 1, 1, 2]) rfl rfl rfl (by decide) hL d_11_init_92 (fun H locs hw hL => ?_)
  replace hw : hm_wc G H0 o lc_144 _ _ H := hw
  refine lv_aload_n hx hb d_11_init_95 rfl (lv_at hl 0 rfl) ?_
  refine lv_bipush (v := 64) hx hb d_11_init_96 (by decide) ?_
  obtain ⟨h0, h⟩ := h
  refine hm_cnewi (N := 64) cx hw hq_119 (by decide) (by decide) (Nat.le_of_ble_eq_true rfl) h0 (Nat.le_of_ble_eq_true rfl) (Nat.le_of_ble_eq_true rfl) d_11_init_98 (fun H hw => ?_)
  replace hw : hm_wc G H0 o lc_145 _ _ H := hw
  refine hm_cputF (ci := 11) cx hw hin_11 tyX11 tyX11_ok nmX11 rfl 17 (by decide) hq_1025 rfl rfl hin (i := 0) (r := 12) (fs := [4, 5, 6, 7, 0, 0, 0, 0, 8, 0, 9, 0, 10, 11, 12, 13, 14, 1, 0, 0, 1, 1, 1, 1, 1, 0, 0, 0, 1, 1, 1, 1, 1, 2]) rfl rfl rfl (by decide) hL d_11_init_100 (fun H locs hw hL => ?_)
  replace hw : hm_wc G H0 o lc_146 _ _ H := hw
  refine lv_aload_n hx hb d_11_init_103 rfl (lv_at hl 0 rfl) ?_
  refine lv_sipush (v := 2431) hx hb d_11_init_104 (by decide) ?_
  obtain ⟨h0, h⟩ := h
  refine hm_cnewi (N := 2431) cx hw hq_119 (by decide) (by decide) (Nat.le_of_ble_eq_true rfl) h0 (Nat.le_of_ble_eq_true rfl) (Nat.le_of_ble_eq_true rfl) d_11_init_107 (fun H hw => ?_)
  replace hw : hm_wc G H0 o lc_147 _ _ H := hw
  refine hm_cputF (ci := 11) cx hw hin_11 tyX11 tyX11_ok nmX11 rfl 20 (by decide) hq_1028 rfl rfl hin (i := 0) (r := 13) (fs := [4, 5, 6, 7, 0, 0, 0, 0, 8, 0, 9, 0, 10, 11, 12, 13, 14, 15, 0, 0, 1, 1, 1, 1, 1, 0, 0, 0, 1, 1, 1, 1, 1, 2]) rfl rfl rfl (by decide) hL d_11_init_109 (fun H locs hw hL => ?_)
  replace hw : hm_wc G H0 o lc_148 _ _ H := hw
  refine lv_aload_n hx hb d_11_init_112 rfl (lv_at hl 0 rfl) ?_
  refine lv_ldc (v := 100000) hx hb cx.1.2.2.2.1 (cx.1.2.2.2.2 _ hq_990) d_11_init_113 ?_
  obtain ⟨h0, h⟩ := h
  refine hm_cnewi (N := 100000) cx hw hq_119 (by decide) (by decide) (Nat.le_of_ble_eq_true rfl) h0 (Nat.le_of_ble_eq_true rfl) (Nat.le_of_ble_eq_true rfl) d_11_init_115 (fun H hw => ?_)
  replace hw : hm_wc G H0 o lc_149 _ _ H := hw
  refine hm_cputF (ci := 11) cx hw hin_11 tyX11 tyX11_ok nmX11 rfl 21 (by decide) hq_1029 rfl rfl hin (i := 0) (r := 14) (fs := [4, 5, 6, 7, 0, 0, 0, 0, 8, 0, 9, 0, 10, 11, 12, 13, 14, 15, 0, 0, 16, 1, 1, 1, 1, 0, 0, 0, 1, 1, 1, 1, 1, 2]) rfl rfl rfl (by decide) hL d_11_init_117 (fun H locs hw hL => ?_)
  replace hw : hm_wc G H0 o lc_150 _ _ H := hw
  refine lv_aload_n hx hb d_11_init_120 rfl (lv_at hl 0 rfl) ?_
  refine lv_sipush (v := 2430) hx hb d_11_init_121 (by decide) ?_
  obtain ⟨h0, h⟩ := h
  refine hm_cnewi (N := 2430) cx hw hq_119 (by decide) (by decide) (Nat.le_of_ble_eq_true rfl) h0 (Nat.le_of_ble_eq_true rfl) (Nat.le_of_ble_eq_true rfl) d_11_init_124 (fun H hw => ?_)
  replace hw : hm_wc G H0 o lc_151 _ _ H := hw
  refine hm_cputF (ci := 11) cx hw hin_11 tyX11 tyX11_ok nmX11 rfl 22 (by decide) hq_1030 rfl rfl hin (i := 0) (r := 15) (fs := [4, 5, 6, 7, 0, 0, 0, 0, 8, 0, 9, 0, 10, 11, 12, 13, 14, 15, 0, 0, 16, 17, 1, 1, 1, 0, 0, 0, 1, 1, 1, 1, 1, 2]) rfl rfl rfl (by decide) hL d_11_init_126 (fun H locs hw hL => ?_)
  replace hw : hm_wc G H0 o lc_152 _ _ H := hw
  refine lv_aload_n hx hb d_11_init_129 rfl (lv_at hl 0 rfl) ?_
  refine lv_sipush (v := 2430) hx hb d_11_init_130 (by decide) ?_
  obtain ⟨h0, h⟩ := h
  refine hm_cnewi (N := 2430) cx hw hq_119 (by decide) (by decide) (Nat.le_of_ble_eq_true rfl) h0 (Nat.le_of_ble_eq_true rfl) (Nat.le_of_ble_eq_true rfl) d_11_init_133 (fun H hw => ?_)
  replace hw : hm_wc G H0 o lc_153 _ _ H := hw
  refine hm_cputF (ci := 11) cx hw hin_11 tyX11 tyX11_ok nmX11 rfl 23 (by decide) hq_1031 rfl rfl hin (i := 0) (r := 16) (fs := [4, 5, 6, 7, 0, 0, 0, 0, 8, 0, 9, 0, 10, 11, 12, 13, 14, 15, 0, 0, 16, 17, 18, 1, 1, 0, 0, 0, 1, 1, 1, 1, 1, 2]) rfl rfl rfl (by decide) hL d_11_init_135 (fun H locs hw hL => ?_)
  replace hw : hm_wc G H0 o lc_154 _ _ H := hw
  refine lv_aload_n hx hb d_11_init_138 rfl (lv_at hl 0 rfl) ?_
  refine lv_bipush (v := 40) hx hb d_11_init_139 (by decide) ?_
  obtain ⟨h0, h⟩ := h
  refine hm_cnewi (N := 40) cx hw hq_119 (by decide) (by decide) (Nat.le_of_ble_eq_true rfl) h0 (Nat.le_of_ble_eq_true rfl) (Nat.le_of_ble_eq_true rfl) d_11_init_141 (fun H hw => ?_)
  replace hw : hm_wc G H0 o lc_155 _ _ H := hw
  refine hm_cputF (ci := 11) cx hw hin_11 tyX11 tyX11_ok nmX11 rfl 24 (by decide) hq_1032 rfl rfl hin (i := 0) (r := 17) (fs := [4, 5, 6, 7, 0, 0, 0, 0, 8, 0, 9, 0, 10, 11, 12, 13, 14, 15, 0, 0, 16, 17, 18, 19, 1, 0, 0, 0, 1, 1, 1, 1, 1, 2]) rfl rfl rfl (by decide) hL d_11_init_143 (fun H locs hw hL => ?_)
  replace hw : hm_wc G H0 o lc_156 _ _ H := hw
  refine lv_aload_n hx hb d_11_init_146 rfl (lv_at hl 0 rfl) ?_
  refine lv_bipush (v := 11) hx hb d_11_init_147 (by decide) ?_
  obtain ⟨h0, h⟩ := h
  refine hm_cnewi (N := 11) cx hw hq_119 (by decide) (by decide) (Nat.le_of_ble_eq_true rfl) h0 (Nat.le_of_ble_eq_true rfl) (Nat.le_of_ble_eq_true rfl) d_11_init_149 (fun H hw => ?_)
  replace hw : hm_wc G H0 o lc_157 _ _ H := hw
  refine hm_cputF (ci := 11) cx hw hin_11 tyX11 tyX11_ok nmX11 rfl 28 (by decide) hq_1036 rfl rfl hin (i := 0) (r := 18) (fs := [4, 5, 6, 7, 0, 0, 0, 0, 8, 0, 9, 0, 10, 11, 12, 13, 14, 15, 0, 0, 16, 17, 18, 19, 20, 0, 0, 0, 1, 1, 1, 1, 1, 2]) rfl rfl rfl (by decide) hL d_11_init_151 (fun H locs hw hL => ?_)
  replace hw : hm_wc G H0 o lc_158 _ _ H := hw
  refine lv_aload_n hx hb d_11_init_154 rfl (lv_at hl 0 rfl) ?_
  refine lv_bipush (v := 61) hx hb d_11_init_155 (by decide) ?_
  obtain ⟨h0, h⟩ := h
  refine hm_cnewi (N := 61) cx hw hq_119 (by decide) (by decide) (Nat.le_of_ble_eq_true rfl) h0 (Nat.le_of_ble_eq_true rfl) (Nat.le_of_ble_eq_true rfl) d_11_init_157 (fun H hw => ?_)
  replace hw : hm_wc G H0 o lc_159 _ _ H := hw
  refine hm_cputF (ci := 11) cx hw hin_11 tyX11 tyX11_ok nmX11 rfl 29 (by decide) hq_1037 rfl rfl hin (i := 0) (r := 19) (fs := [4, 5, 6, 7, 0, 0, 0, 0, 8, 0, 9, 0, 10, 11, 12, 13, 14, 15, 0, 0, 16, 17, 18, 19, 20, 0, 0, 0, 21, 1, 1, 1, 1, 2]) rfl rfl rfl (by decide) hL d_11_init_159 (fun H locs hw hL => ?_)
  replace hw : hm_wc G H0 o lc_160 _ _ H := hw
  refine lv_aload_n hx hb d_11_init_162 rfl (lv_at hl 0 rfl) ?_
  refine lv_sipush (v := 128) hx hb d_11_init_163 (by decide) ?_
  obtain ⟨h0, h⟩ := h
  refine hm_cnewz (N := 128) cx hw hq_1112 (by decide) (by decide) (Nat.le_of_ble_eq_true rfl) h0 (Nat.le_of_ble_eq_true rfl) (Nat.le_of_ble_eq_true rfl) d_11_init_166 (fun H hw => ?_)
  replace hw : hm_wc G H0 o lc_161 _ _ H := hw
  refine hm_cputF (ci := 11) cx hw hin_11 tyX11 tyX11_ok nmX11 rfl 30 (by decide) hq_1038 rfl rfl hin (i := 0) (r := 20) (fs := [4, 5, 6, 7, 0, 0, 0, 0, 8, 0, 9, 0, 10, 11, 12, 13, 14, 15, 0, 0, 16, 17, 18, 19, 20, 0, 0, 0, 21, 22, 1, 1, 1, 2]) rfl rfl rfl (by decide) hL d_11_init_168 (fun H locs hw hL => ?_)
  replace hw : hm_wc G H0 o lc_162 _ _ H := hw
  refine lv_aload_n hx hb d_11_init_171 rfl (lv_at hl 0 rfl) ?_
  refine lv_sipush (v := 2430) hx hb d_11_init_172 (by decide) ?_
  obtain ⟨h0, h⟩ := h
  refine hm_cnewz (N := 2430) cx hw hq_1112 (by decide) (by decide) (Nat.le_of_ble_eq_true rfl) h0 (Nat.le_of_ble_eq_true rfl) (Nat.le_of_ble_eq_true rfl) d_11_init_175 (fun H hw => ?_)
  replace hw : hm_wc G H0 o lc_163 _ _ H := hw
  refine hm_cputF (ci := 11) cx hw hin_11 tyX11 tyX11_ok nmX11 rfl 31 (by decide) hq_1039 rfl rfl hin (i := 0) (r := 21) (fs := [4, 5, 6, 7, 0, 0, 0, 0, 8, 0, 9, 0, 10, 11, 12, 13, 14, 15, 0, 0, 16, 17, 18, 19, 20, 0, 0, 0, 21, 22, 23, 1, 1, 2]) rfl rfl rfl (by decide) hL d_11_init_177 (fun H locs hw hL => ?_)
  replace hw : hm_wc G H0 o lc_164 _ _ H := hw
  refine lv_aload_n hx hb d_11_init_180 rfl (lv_at hl 0 rfl) ?_
  refine lv_sipush (v := 2430) hx hb d_11_init_181 (by decide) ?_
  obtain ⟨h0, h⟩ := h
  refine hm_cnewi (N := 2430) cx hw hq_119 (by decide) (by decide) (Nat.le_of_ble_eq_true rfl) h0 (Nat.le_of_ble_eq_true rfl) (Nat.le_of_ble_eq_true rfl) d_11_init_184 (fun H hw => ?_)
  replace hw : hm_wc G H0 o lc_165 _ _ H := hw
  refine hm_cputF (ci := 11) cx hw hin_11 tyX11 tyX11_ok nmX11 rfl 32 (by decide) hq_1040 rfl rfl hin (i := 0) (r := 22) (fs := [4, 5, 6, 7, 0, 0, 0, 0, 8, 0, 9, 0, 10, 11, 12, 13, 14, 15, 0, 0, 16, 17, 18, 19, 20, 0, 0, 0, 21, 22, 23, 24, 1, 2]) rfl rfl rfl (by decide) hL d_11_init_186 (fun H locs hw hL => ?_)
  replace hw : hm_wc G H0 o lc_121 _ _ H := hw
  refine lv_aload_n hx hb d_11_init_189 rfl (lv_at hl 0 rfl) ?_
  refine hm_ccallv (hr := hm_rV (i := 0) (As := []) (rest := []) cx hw.w (ct_11_makesRows h) (mw_11_79 cx.1.2.2.2.2 ⟨Nat.le_of_ble_eq_true rfl, Nat.le_of_ble_eq_true rfl⟩) (by decide) (show hm_lsh lc_121 0 = .inr (11, [4, 5, 6, 7, 0, 0, 0, 0, 8, 0, 9, 0, 10, 11, 12, 13, 14, 15, 0, 0, 16, 17, 18, 19, 20, 0, 0, 0, 21, 22, 23, 24, 25, 2]) from rfl) rfl rfl hl.1 rfl (Nat.le_of_ble_eq_true rfl) d_11_init_190 ⟨Nat.le_of_ble_eq_true rfl, Nat.le_of_ble_eq_true rfl⟩) hw hL (fun S1 T1 H locs h hw hL => ?_)
  exact W.vret hx hb hr (fun t ht _ => ⟨_, _, rfl, h, by rw [ht]; exact hw⟩) hL d_11_init_193
set_option maxHeartbeats 4000000 in
set_option maxRecDepth 20000 in
theorem ct_11_init {S : hm_S} {T : hm_T} {Q : hm_S → hm_T → Prop} (h : wp_11_init S T Q) : Met l y_11_init (hm_ws y_11_init prog_13_method_1_code 1 none) rm_11_init (hm_Pcc G H0 o lc_122 S T [.ref (o + 0)]) (hm_Qcc G H0 o lc_121 Q) 22 127408 (hm_ge o) := by
  refine Met.ofW (cc := prog_13_method_1_code) (maxL := 1) (ret := none) (by decide) rfl ?_
  intro p e s m args below meth c s₁ B hml hv
  obtain ⟨rfl, hK, hw⟩ := hv
  have cx : hm_cx G p s m _ c prog_13_method_1_code 1 "HeapGamesModel" := ⟨⟨B.exec, B.bytes, hml, findClass_of_methodNamed B.named, fun w hq => atoms_spec (ws := hm_ws y_11_init prog_13_method_1_code 1 none) B.pre w (List.mem_cons_of_mem _ hq)⟩, hK⟩
  have hl := lv_entry ([.ref (o + 0)]) (n := 1) (Nat.le_of_ble_eq_true rfl)
  rw [lg_entry_eq]
  generalize (lg_sl ([.ref (o + 0)]) ++ List.replicate (1 - (lg_sl ([.ref (o + 0)])).length) Slot.unset).toArray = ls at hl ⊢
  have hl : lv_has ls 1 [(0, .ref (o + 0))] := hl
  exact bk_11_init_0 cx B.returns B.notSynchronized (name_of_methodNamed B.named B.method).1 h hw (hm_Lc0 _) hl
end WC
