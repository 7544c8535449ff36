section WK
variable {p : Program} {l : Launch} {e : Env} {s : State} {m : MethodId} {args : Array Value} {below : List Frame} {meth : Method} {c : Code} {G : hm_G} {H0 : Heap} {o n : Nat} {sh : hm_Sh}
/-! ===== java/util/Arrays.fill([II)V ===== -/
theorem d_90_fill_0 : decode prog_18_method_103_code 0 = .ok (.iconst 0, 1) := by decide +kernel
theorem d_90_fill_1 : decode prog_18_method_103_code 1 = .ok (.istore_n 2, 1) := by decide +kernel
theorem d_90_fill_2 : decode prog_18_method_103_code 2 = .ok (.aload_n 0, 1) := by decide +kernel
theorem d_90_fill_3 : decode prog_18_method_103_code 3 = .ok (.arraylength, 1) := by decide +kernel
theorem d_90_fill_4 : decode prog_18_method_103_code 4 = .ok (.istore_n 3, 1) := by decide +kernel
theorem d_90_fill_5 : decode prog_18_method_103_code 5 = .ok (.iload_n 2, 1) := by decide +kernel
theorem d_90_fill_6 : decode prog_18_method_103_code 6 = .ok (.iload_n 3, 1) := by decide +kernel
theorem d_90_fill_7 : decode prog_18_method_103_code 7 = .ok (.if_icmp .ge 13, 3) := by decide +kernel
theorem d_90_fill_10 : decode prog_18_method_103_code 10 = .ok (.aload_n 0, 1) := by decide +kernel
theorem d_90_fill_11 : decode prog_18_method_103_code 11 = .ok (.iload_n 2, 1) := by decide +kernel
theorem d_90_fill_12 : decode prog_18_method_103_code 12 = .ok (.iload_n 1, 1) := by decide +kernel
theorem d_90_fill_13 : decode prog_18_method_103_code 13 = .ok (.iastore, 1) := by decide +kernel
theorem d_90_fill_14 : decode prog_18_method_103_code 14 = .ok (.iinc 2 1, 3) := by decide +kernel
theorem d_90_fill_17 : decode prog_18_method_103_code 17 = .ok (.goto (-12), 3) := by decide +kernel
theorem d_90_fill_20 : decode prog_18_method_103_code 20 = .ok (.return_, 1) := by decide +kernel
def wb_90_fill_5 (a : Nat) (L : Nat) (Q : hm_S → hm_T → Prop) (K5 : Int32 → Int32 → Int32 → hm_S → hm_T → Prop) (x1 : Int32) (x2 : Int32) (x3 : Int32) (S : hm_S) (T : hm_T) : Prop :=
  (if x3 ≤ x2 then Q S T else (vp_in x2 L ∧ K5 x1 (x2 + 1) x3 (hm_up S a (Int32.toNatClampNeg x2) x1) T))
set_option maxHeartbeats 4000000 in
set_option maxRecDepth 20000 in
theorem bk_90_fill_5 {a : Nat} {L : Nat} {Q : hm_S → hm_T → Prop} {K5 : Int32 → Int32 → Int32 → hm_S → hm_T → Prop} (hi : a < n) (hs2 : sh a = .inl (0, L)) (cx : hm_cx G p s m args c prog_18_method_103_code 4 "java/util/Arrays") (hr : meth.sig.returnType = none) (hlk : meth.locks = false) (k5 : ∀ (x1 : Int32) (x2 : Int32) (x3 : Int32) (S : hm_S) (T : hm_T) (H : Heap) (locs : List Loc) (ls : Array Slot), K5 x1 x2 x3 S T → hm_w G H0 o n sh S T H → hm_L o n locs → lv_has ls 4 [(0, .ref (o + a)), (1, .int x1), (2, .int x2), (3, .int x3)] → W p l e rm_90_fill s m args below meth c H locs 0 0 (MQ below (hm_Qv G H0 o n sh Q) args s 0 0 (t_fr o (o + n))) (F0 m 5 ls [])) {x1 : Int32} {x2 : Int32} {x3 : Int32} {S : hm_S} {T : hm_T} {H : Heap} {locs : List Loc} {ls : Array Slot} (h : wb_90_fill_5 a L Q K5 x1 x2 x3 S T) (hw : hm_w G H0 o n sh S T H) (hL : hm_L o n locs) (hl : lv_has ls 4 [(0, .ref (o + a)), (1, .int x1), (2, .int x2), (3, .int x3)]) : W p l e rm_90_fill s m args below meth c H locs 0 0 (MQ below (hm_Qv G H0 o n sh Q) args s 0 0 (t_fr o (o + n))) (F0 m 5 ls []) := by
  have hx := cx.1.1
  have hb := cx.1.2.1
  unfold wb_90_fill_5 at h
  refine lv_iload_n hx hb d_90_fill_5 rfl (lv_at hl 2 rfl) ?_
  refine lv_iload_n hx hb d_90_fill_6 rfl (lv_at hl 3 rfl) ?_
  refine lv_icmp_ge (tgt := 20) hx hb d_90_fill_7 (by decide) (fun hc => ?_) (fun hc => ?_)
  · replace h := hm_pos hc h
    exact W.vret hx hb hr (fun t ht _ => ⟨_, _, rfl, h, by rw [ht]; exact hw⟩) hL d_90_fill_20
  · replace h := hm_neg hc h
    refine lv_aload_n hx hb d_90_fill_10 rfl (lv_at hl 0 rfl) ?_
    refine lv_iload_n hx hb d_90_fill_11 rfl (lv_at hl 2 rfl) ?_
    refine lv_iload_n hx hb d_90_fill_12 rfl (lv_at hl 1 rfl) ?_
    obtain ⟨hj, h⟩ := h
    refine hm_iast cx hw (i := a) hi hs2 hj hL d_90_fill_13 (fun H locs hw hL => ?_)
    refine lv_iinc (v := (x2 + 1)) (lv' := [(2, .int (x2 + 1)), (0, .ref (o + a)), (1, .int x1), (3, .int x3)]) hx hb d_90_fill_14 hl (k := 2) rfl rfl (by decide) rfl (fun ls hl => ?_)
    refine lv_goto (tgt := 5) hx hb d_90_fill_17 (by decide) ?_
    exact k5 _ _ _ _ _ _ _ _ h hw hL (lv_sub hl [1, 2, 0, 3] rfl)
def wl_90_fill_5 (a : Nat) (L : Nat) (Q : hm_S → hm_T → Prop) : Nat → Int32 → Int32 → Int32 → hm_S → hm_T → Prop
  | 0, _, _, _, _, _ => False
  | f + 1, x1, x2, x3, S, T => wb_90_fill_5 a L Q (wl_90_fill_5 a L Q f) x1 x2 x3 S T
theorem lp_90_fill_5 {a : Nat} {L : Nat} {Q : hm_S → hm_T → Prop} (hi : a < n) (hs2 : sh a = .inl (0, L)) (cx : hm_cx G p s m args c prog_18_method_103_code 4 "java/util/Arrays") (hr : meth.sig.returnType = none) (hlk : meth.locks = false) : ∀ (f : Nat) (x1 : Int32) (x2 : Int32) (x3 : Int32) (S : hm_S) (T : hm_T) (H : Heap) (locs : List Loc) (ls : Array Slot), wl_90_fill_5 a L Q f x1 x2 x3 S T → hm_w G H0 o n sh S T H → hm_L o n locs → lv_has ls 4 [(0, .ref (o + a)), (1, .int x1), (2, .int x2), (3, .int x3)] → W p l e rm_90_fill s m args below meth c H locs 0 0 (MQ below (hm_Qv G H0 o n sh Q) args s 0 0 (t_fr o (o + n))) (F0 m 5 ls []) := by
  intro f
  induction f with
  | zero => intro x1 x2 x3 S T H locs ls h; exact h.elim
  | succ f ih => intro x1 x2 x3 S T H locs ls h hw hL hl; exact bk_90_fill_5 hi hs2 cx hr hlk ih h hw hL hl
def wp_90_fill (a : Nat) (L : Nat) (x1 : Int32) (S : hm_S) (T : hm_T) (Q : hm_S → hm_T → Prop) : Prop :=
  ∃ f, wl_90_fill_5 a L Q f x1 0 (nI L) S T
set_option maxHeartbeats 4000000 in
set_option maxRecDepth 20000 in
theorem bk_90_fill_0 {a : Nat} {L : Nat} {Q : hm_S → hm_T → Prop} (hi : a < n) (hs2 : sh a = .inl (0, L)) (cx : hm_cx G p s m args c prog_18_method_103_code 4 "java/util/Arrays") (hr : meth.sig.returnType = none) (hlk : meth.locks = false) {x1 : Int32} {S : hm_S} {T : hm_T} {H : Heap} {locs : List Loc} {ls : Array Slot} (h : wp_90_fill a L x1 S T Q) (hw : hm_w G H0 o n sh S T H) (hL : hm_L o n locs) (hl : lv_has ls 4 [(0, .ref (o + a)), (1, .int x1)]) : W p l e rm_90_fill s m args below meth c H locs 0 0 (MQ below (hm_Qv G H0 o n sh Q) args s 0 0 (t_fr o (o + n))) (F0 m 0 ls []) := by
  have hx := cx.1.1
  have hb := cx.1.2.1
  unfold wp_90_fill at h
  refine lv_iconst (v := 0) hx hb d_90_fill_0 (by decide) ?_
  refine lv_istore_n (lv' := [(2, .int 0), (0, .ref (o + a)), (1, .int x1)]) hx hb d_90_fill_1 rfl hl (by decide) rfl (fun ls hl => ?_)
  refine lv_aload_n hx hb d_90_fill_2 rfl (lv_at hl 1 rfl) ?_
  refine hm_alen cx hw (i := a) hi hs2 d_90_fill_3 ?_
  refine lv_istore_n (lv' := [(3, .int (nI L)), (2, .int 0), (0, .ref (o + a)), (1, .int x1)]) hx hb d_90_fill_4 rfl hl (by decide) rfl (fun ls hl => ?_)
  obtain ⟨f, h⟩ := h
  exact lp_90_fill_5 hi hs2 cx hr hlk f _ _ _ _ _ _ _ _ h hw hL (lv_sub hl [2, 3, 1, 0] rfl)
set_option maxHeartbeats 4000000 in
set_option maxRecDepth 20000 in
theorem ct_90_fill {a : Nat} {L : Nat} {x1 : Int32} {S : hm_S} {T : hm_T} {Q : hm_S → hm_T → Prop} (hi : a < n) (hs2 : sh a = .inl (0, L)) (h : wp_90_fill a L x1 S T Q) : hm_M l G H0 o n sh y_90_fill prog_18_method_103_code 4 (none) rm_90_fill S T [.ref (o + a), .int x1] (hm_Qv G H0 o n sh Q) := by
  refine Met.ofW (cc := prog_18_method_103_code) (maxL := 4) (ret := none) (by decide) rfl ?_
  intro p e s m args below meth c s₁ B hml hv
  obtain ⟨rfl, hK, hw⟩ := hv
  have cx : hm_cx G p s m _ c prog_18_method_103_code 4 "java/util/Arrays" := ⟨⟨B.exec, B.bytes, hml, findClass_of_methodNamed B.named, fun w hq => atoms_spec (ws := hm_ws y_90_fill prog_18_method_103_code 4 (none)) B.pre w (List.mem_cons_of_mem _ hq)⟩, hK⟩
  have hl := lv_entry ([.ref (o + a), .int x1]) (n := 4) (Nat.le_of_ble_eq_true rfl)
  rw [lg_entry_eq]
  generalize (lg_sl ([.ref (o + a), .int x1]) ++ List.replicate (4 - (lg_sl ([.ref (o + a), .int x1])).length) Slot.unset).toArray = ls at hl ⊢
  have hl : lv_has ls 4 [(0, .ref (o + a)), (1, .int x1)] := hl
  exact bk_90_fill_0 hi hs2 cx B.returns B.notSynchronized h hw (hm_L0 _ _) hl
/-! ===== HeapGames$Row.get(I)I ===== -/
theorem d_5_get_0 : decode prog_7_method_2_code 0 = .ok (.iload_n 1, 1) := by decide +kernel
theorem d_5_get_1 : decode prog_7_method_2_code 1 = .ok (.ifCond .lt 21, 3) := by decide +kernel
theorem d_5_get_4 : decode prog_7_method_2_code 4 = .ok (.iload_n 1, 1) := by decide +kernel
theorem d_5_get_5 : decode prog_7_method_2_code 5 = .ok (.aload_n 0, 1) := by decide +kernel
theorem d_5_get_6 : decode prog_7_method_2_code 6 = .ok (.getfield 13, 3) := by decide +kernel
theorem d_5_get_9 : decode prog_7_method_2_code 9 = .ok (.arraylength, 1) := by decide +kernel
theorem d_5_get_10 : decode prog_7_method_2_code 10 = .ok (.if_icmp .ge 12, 3) := by decide +kernel
theorem d_5_get_13 : decode prog_7_method_2_code 13 = .ok (.aload_n 0, 1) := by decide +kernel
theorem d_5_get_14 : decode prog_7_method_2_code 14 = .ok (.getfield 13, 3) := by decide +kernel
theorem d_5_get_17 : decode prog_7_method_2_code 17 = .ok (.iload_n 1, 1) := by decide +kernel
theorem d_5_get_18 : decode prog_7_method_2_code 18 = .ok (.iaload, 1) := by decide +kernel
theorem d_5_get_19 : decode prog_7_method_2_code 19 = .ok (.goto 4, 3) := by decide +kernel
theorem d_5_get_22 : decode prog_7_method_2_code 22 = .ok (.iconst 0, 1) := by decide +kernel
theorem d_5_get_23 : decode prog_7_method_2_code 23 = .ok (.ireturn, 1) := by decide +kernel
def wp_5_get (r : Nat) (L : Nat) (x1 : Int32) (S : hm_S) (T : hm_T) (Q : Int32 → hm_S → hm_T → Prop) : Prop :=
  (if x1 < 0 then Q 0 S T else (if (nI L) ≤ x1 then Q 0 S T else (vp_in x1 L ∧ Q (S (r + 1) (Int32.toNatClampNeg x1)) S T)))
set_option maxHeartbeats 4000000 in
set_option maxRecDepth 20000 in
theorem bk_5_get_0 {r : Nat} {L : Nat} {Q : Int32 → hm_S → hm_T → Prop} (hi : r + 1 < n) (hs1 : sh r = .inr (5, [r + 4])) (hs2 : sh (r + 1) = .inl (0, L)) (cx : hm_cx G p s m args c prog_7_method_2_code 2 "HeapGames$Row") (hr : meth.sig.returnType = some .int) (hlk : meth.locks = false) {x1 : Int32} {S : hm_S} {T : hm_T} {H : Heap} {locs : List Loc} {ls : Array Slot} (h : wp_5_get r L x1 S T Q) (hw : hm_w G H0 o n sh S T H) (hL : hm_L o n locs) (hl : lv_has ls 2 [(0, .ref (o + r)), (1, .int x1)]) : W p l e rm_5_get s m args below meth c H locs 0 0 (MQ below (hm_Qi G H0 o n sh Q) args s 0 0 (t_fr o (o + n))) (F0 m 0 ls []) := by
  have hx := cx.1.1
  have hb := cx.1.2.1
  unfold wp_5_get at h
  refine lv_iload_n hx hb d_5_get_0 rfl (lv_at hl 1 rfl) ?_
  refine lv_if_lt (tgt := 22) hx hb d_5_get_1 (by decide) (fun hc => ?_) (fun hc => ?_)
  · replace h := hm_pos hc h
    refine lv_iconst (v := 0) hx hb d_5_get_22 (by decide) ?_
    exact W.iret hx hb hr (fun t ht _ => ⟨_, _, _, rfl, h, by rw [ht]; exact hw⟩) hL d_5_get_23
  · replace h := hm_neg hc h
    refine lv_iload_n hx hb d_5_get_4 rfl (lv_at hl 1 rfl) ?_
    refine lv_aload_n hx hb d_5_get_5 rfl (lv_at hl 0 rfl) ?_
    refine gf_5_13 cx hw (i := r) (r := r + 1) (Nat.lt_of_succ_lt hi) hs1 rfl d_5_get_6 ?_
    refine hm_alen cx hw (i := r + 1) hi hs2 d_5_get_9 ?_
    refine lv_icmp_ge (tgt := 22) hx hb d_5_get_10 (by decide) (fun hc => ?_) (fun hc => ?_)
    · replace h := hm_pos hc h
      refine lv_iconst (v := 0) hx hb d_5_get_22 (by decide) ?_
      exact W.iret hx hb hr (fun t ht _ => ⟨_, _, _, rfl, h, by rw [ht]; exact hw⟩) hL d_5_get_23
    · replace h := hm_neg hc h
      refine lv_aload_n hx hb d_5_get_13 rfl (lv_at hl 0 rfl) ?_
      refine gf_5_13 cx hw (i := r) (r := r + 1) (Nat.lt_of_succ_lt hi) hs1 rfl d_5_get_14 ?_
      refine lv_iload_n hx hb d_5_get_17 rfl (lv_at hl 1 rfl) ?_
      obtain ⟨hj, h⟩ := h
      refine hm_iald cx hw (i := r + 1) hi hs2 hj d_5_get_18 ?_
      refine lv_goto (tgt := 23) hx hb d_5_get_19 (by decide) ?_
      exact W.iret hx hb hr (fun t ht _ => ⟨_, _, _, rfl, h, by rw [ht]; exact hw⟩) hL d_5_get_23
set_option maxHeartbeats 4000000 in
set_option maxRecDepth 20000 in
theorem ct_5_get {r : Nat} {L : Nat} {x1 : Int32} {S : hm_S} {T : hm_T} {Q : Int32 → hm_S → hm_T → Prop} (hi : r + 1 < n) (hs1 : sh r = .inr (5, [r + 4])) (hs2 : sh (r + 1) = .inl (0, L)) (h : wp_5_get r L x1 S T Q) : hm_M l G H0 o n sh y_5_get prog_7_method_2_code 2 (some .int) rm_5_get S T [.ref (o + r), .int x1] (hm_Qi G H0 o n sh Q) := by
  refine Met.ofW (cc := prog_7_method_2_code) (maxL := 2) (ret := some .int) (by decide) rfl ?_
  intro p e s m args below meth c s₁ B hml hv
  obtain ⟨rfl, hK, hw⟩ := hv
  have cx : hm_cx G p s m _ c prog_7_method_2_code 2 "HeapGames$Row" := ⟨⟨B.exec, B.bytes, hml, findClass_of_methodNamed B.named, fun w hq => atoms_spec (ws := hm_ws y_5_get prog_7_method_2_code 2 (some .int)) B.pre w (List.mem_cons_of_mem _ hq)⟩, hK⟩
  have hl := lv_entry ([.ref (o + r), .int x1]) (n := 2) (Nat.le_of_ble_eq_true rfl)
  rw [lg_entry_eq]
  generalize (lg_sl ([.ref (o + r), .int x1]) ++ List.replicate (2 - (lg_sl ([.ref (o + r), .int x1])).length) Slot.unset).toArray = ls at hl ⊢
  have hl : lv_has ls 2 [(0, .ref (o + r)), (1, .int x1)] := hl
  exact bk_5_get_0 hi hs1 hs2 cx B.returns B.notSynchronized h hw (hm_L0 _ _) hl
/-! ===== HeapGames$Row.set(II)V ===== -/
theorem d_5_set_0 : decode prog_7_method_3_code 0 = .ok (.iload_n 1, 1) := by decide +kernel
theorem d_5_set_1 : decode prog_7_method_3_code 1 = .ok (.ifCond .lt 19, 3) := by decide +kernel
theorem d_5_set_4 : decode prog_7_method_3_code 4 = .ok (.iload_n 1, 1) := by decide +kernel
theorem d_5_set_5 : decode prog_7_method_3_code 5 = .ok (.aload_n 0, 1) := by decide +kernel
theorem d_5_set_6 : decode prog_7_method_3_code 6 = .ok (.getfield 13, 3) := by decide +kernel
theorem d_5_set_9 : decode prog_7_method_3_code 9 = .ok (.arraylength, 1) := by decide +kernel
theorem d_5_set_10 : decode prog_7_method_3_code 10 = .ok (.if_icmp .ge 10, 3) := by decide +kernel
theorem d_5_set_13 : decode prog_7_method_3_code 13 = .ok (.aload_n 0, 1) := by decide +kernel
theorem d_5_set_14 : decode prog_7_method_3_code 14 = .ok (.getfield 13, 3) := by decide +kernel
theorem d_5_set_17 : decode prog_7_method_3_code 17 = .ok (.iload_n 1, 1) := by decide +kernel
theorem d_5_set_18 : decode prog_7_method_3_code 18 = .ok (.iload_n 2, 1) := by decide +kernel
theorem d_5_set_19 : decode prog_7_method_3_code 19 = .ok (.iastore, 1) := by decide +kernel
theorem d_5_set_20 : decode prog_7_method_3_code 20 = .ok (.return_, 1) := by decide +kernel
def wp_5_set (r : Nat) (L : Nat) (x1 : Int32) (x2 : Int32) (S : hm_S) (T : hm_T) (Q : hm_S → hm_T → Prop) : Prop :=
  (if x1 < 0 then Q S T else (if (nI L) ≤ x1 then Q S T else (vp_in x1 L ∧ Q (hm_up S (r + 1) (Int32.toNatClampNeg x1) x2) T)))
set_option maxHeartbeats 4000000 in
set_option maxRecDepth 20000 in
theorem bk_5_set_0 {r : Nat} {L : Nat} {Q : hm_S → hm_T → Prop} (hi : r + 1 < n) (hs1 : sh r = .inr (5, [r + 4])) (hs2 : sh (r + 1) = .inl (0, L)) (cx : hm_cx G p s m args c prog_7_method_3_code 3 "HeapGames$Row") (hr : meth.sig.returnType = none) (hlk : meth.locks = false) {x1 : Int32} {x2 : Int32} {S : hm_S} {T : hm_T} {H : Heap} {locs : List Loc} {ls : Array Slot} (h : wp_5_set r L x1 x2 S T Q) (hw : hm_w G H0 o n sh S T H) (hL : hm_L o n locs) (hl : lv_has ls 3 [(0, .ref (o + r)), (1, .int x1), (2, .int x2)]) : W p l e rm_5_set s m args below meth c H locs 0 0 (MQ below (hm_Qv G H0 o n sh Q) args s 0 0 (t_fr o (o + n))) (F0 m 0 ls []) := by
  have hx := cx.1.1
  have hb := cx.1.2.1
  unfold wp_5_set at h
  refine lv_iload_n hx hb d_5_set_0 rfl (lv_at hl 1 rfl) ?_
  refine lv_if_lt (tgt := 20) hx hb d_5_set_1 (by decide) (fun hc => ?_) (fun hc => ?_)
  · replace h := hm_pos hc h
    exact W.vret hx hb hr (fun t ht _ => ⟨_, _, rfl, h, by rw [ht]; exact hw⟩) hL d_5_set_20
  · replace h := hm_neg hc h
    refine lv_iload_n hx hb d_5_set_4 rfl (lv_at hl 1 rfl) ?_
    refine lv_aload_n hx hb d_5_set_5 rfl (lv_at hl 0 rfl) ?_
    refine gf_5_13 cx hw (i := r) (r := r + 1) (Nat.lt_of_succ_lt hi) hs1 rfl d_5_set_6 ?_
    refine hm_alen cx hw (i := r + 1) hi hs2 d_5_set_9 ?_
    refine lv_icmp_ge (tgt := 20) hx hb d_5_set_10 (by decide) (fun hc => ?_) (fun hc => ?_)
    · replace h := hm_pos hc h
      exact W.vret hx hb hr (fun t ht _ => ⟨_, _, rfl, h, by rw [ht]; exact hw⟩) hL d_5_set_20
    · replace h := hm_neg hc h
      refine lv_aload_n hx hb d_5_set_13 rfl (lv_at hl 0 rfl) ?_
      refine gf_5_13 cx hw (i := r) (r := r + 1) (Nat.lt_of_succ_lt hi) hs1 rfl d_5_set_14 ?_
      refine lv_iload_n hx hb d_5_set_17 rfl (lv_at hl 1 rfl) ?_
      refine lv_iload_n hx hb d_5_set_18 rfl (lv_at hl 2 rfl) ?_
      obtain ⟨hj, h⟩ := h
      refine hm_iast cx hw (i := r + 1) hi hs2 hj hL d_5_set_19 (fun H locs hw hL => ?_)
      exact W.vret hx hb hr (fun t ht _ => ⟨_, _, rfl, h, by rw [ht]; exact hw⟩) hL d_5_set_20
set_option maxHeartbeats 4000000 in
set_option maxRecDepth 20000 in
theorem ct_5_set {r : Nat} {L : Nat} {x1 : Int32} {x2 : Int32} {S : hm_S} {T : hm_T} {Q : hm_S → hm_T → Prop} (hi : r + 1 < n) (hs1 : sh r = .inr (5, [r + 4])) (hs2 : sh (r + 1) = .inl (0, L)) (h : wp_5_set r L x1 x2 S T Q) : hm_M l G H0 o n sh y_5_set prog_7_method_3_code 3 (none) rm_5_set S T [.ref (o + r), .int x1, .int x2] (hm_Qv G H0 o n sh Q) := by
  refine Met.ofW (cc := prog_7_method_3_code) (maxL := 3) (ret := none) (by decide) rfl ?_
  intro p e s m args below meth c s₁ B hml hv
  obtain ⟨rfl, hK, hw⟩ := hv
  have cx : hm_cx G p s m _ c prog_7_method_3_code 3 "HeapGames$Row" := ⟨⟨B.exec, B.bytes, hml, findClass_of_methodNamed B.named, fun w hq => atoms_spec (ws := hm_ws y_5_set prog_7_method_3_code 3 (none)) B.pre w (List.mem_cons_of_mem _ hq)⟩, hK⟩
  have hl := lv_entry ([.ref (o + r), .int x1, .int x2]) (n := 3) (Nat.le_of_ble_eq_true rfl)
  rw [lg_entry_eq]
  generalize (lg_sl ([.ref (o + r), .int x1, .int x2]) ++ List.replicate (3 - (lg_sl ([.ref (o + r), .int x1, .int x2])).length) Slot.unset).toArray = ls at hl ⊢
  have hl : lv_has ls 3 [(0, .ref (o + r)), (1, .int x1), (2, .int x2)] := hl
  exact bk_5_set_0 hi hs1 hs2 cx B.returns B.notSynchronized h hw (hm_L0 _ _) hl
/-! ===== HeapGames$Row.add(II)V ===== -/
theorem d_5_add_0 : decode prog_7_method_4_code 0 = .ok (.iload_n 1, 1) := by decide +kernel
theorem d_5_add_1 : decode prog_7_method_4_code 1 = .ok (.ifCond .lt 22, 3) := by decide +kernel
theorem d_5_add_4 : decode prog_7_method_4_code 4 = .ok (.iload_n 1, 1) := by decide +kernel
theorem d_5_add_5 : decode prog_7_method_4_code 5 = .ok (.aload_n 0, 1) := by decide +kernel
theorem d_5_add_6 : decode prog_7_method_4_code 6 = .ok (.getfield 13, 3) := by decide +kernel
theorem d_5_add_9 : decode prog_7_method_4_code 9 = .ok (.arraylength, 1) := by decide +kernel
theorem d_5_add_10 : decode prog_7_method_4_code 10 = .ok (.if_icmp .ge 13, 3) := by decide +kernel
theorem d_5_add_13 : decode prog_7_method_4_code 13 = .ok (.aload_n 0, 1) := by decide +kernel
theorem d_5_add_14 : decode prog_7_method_4_code 14 = .ok (.getfield 13, 3) := by decide +kernel
theorem d_5_add_17 : decode prog_7_method_4_code 17 = .ok (.iload_n 1, 1) := by decide +kernel
theorem d_5_add_18 : decode prog_7_method_4_code 18 = .ok (.dup2, 1) := by decide +kernel
theorem d_5_add_19 : decode prog_7_method_4_code 19 = .ok (.iaload, 1) := by decide +kernel
theorem d_5_add_20 : decode prog_7_method_4_code 20 = .ok (.iload_n 2, 1) := by decide +kernel
theorem d_5_add_21 : decode prog_7_method_4_code 21 = .ok (.iadd, 1) := by decide +kernel
theorem d_5_add_22 : decode prog_7_method_4_code 22 = .ok (.iastore, 1) := by decide +kernel
theorem d_5_add_23 : decode prog_7_method_4_code 23 = .ok (.return_, 1) := by decide +kernel
def wp_5_add (r : Nat) (L : Nat) (x1 : Int32) (x2 : Int32) (S : hm_S) (T : hm_T) (Q : hm_S → hm_T → Prop) : Prop :=
  (if x1 < 0 then Q S T else (if (nI L) ≤ x1 then Q S T else (vp_in x1 L ∧ (vp_in x1 L ∧ Q (hm_up S (r + 1) (Int32.toNatClampNeg x1) ((S (r + 1) (Int32.toNatClampNeg x1)) + x2)) T))))
set_option maxHeartbeats 4000000 in
set_option maxRecDepth 20000 in
theorem bk_5_add_0 {r : Nat} {L : Nat} {Q : hm_S → hm_T → Prop} (hi : r + 1 < n) (hs1 : sh r = .inr (5, [r + 4])) (hs2 : sh (r + 1) = .inl (0, L)) (cx : hm_cx G p s m args c prog_7_method_4_code 3 "HeapGames$Row") (hr : meth.sig.returnType = none) (hlk : meth.locks = false) {x1 : Int32} {x2 : Int32} {S : hm_S} {T : hm_T} {H : Heap} {locs : List Loc} {ls : Array Slot} (h : wp_5_add r L x1 x2 S T Q) (hw : hm_w G H0 o n sh S T H) (hL : hm_L o n locs) (hl : lv_has ls 3 [(0, .ref (o + r)), (1, .int x1), (2, .int x2)]) : W p l e rm_5_add s m args below meth c H locs 0 0 (MQ below (hm_Qv G H0 o n sh Q) args s 0 0 (t_fr o (o + n))) (F0 m 0 ls []) := by
  have hx := cx.1.1
  have hb := cx.1.2.1
  unfold wp_5_add at h
  refine lv_iload_n hx hb d_5_add_0 rfl (lv_at hl 1 rfl) ?_
  refine lv_if_lt (tgt := 23) hx hb d_5_add_1 (by decide) (fun hc => ?_) (fun hc => ?_)
  · replace h := hm_pos hc h
    exact W.vret hx hb hr (fun t ht _ => ⟨_, _, rfl, h, by rw [ht]; exact hw⟩) hL d_5_add_23
  · replace h := hm_neg hc h
    refine lv_iload_n hx hb d_5_add_4 rfl (lv_at hl 1 rfl) ?_
    refine lv_aload_n hx hb d_5_add_5 rfl (lv_at hl 0 rfl) ?_
    refine gf_5_13 cx hw (i := r) (r := r + 1) (Nat.lt_of_succ_lt hi) hs1 rfl d_5_add_6 ?_
    refine hm_alen cx hw (i := r + 1) hi hs2 d_5_add_9 ?_
    refine lv_icmp_ge (tgt := 23) hx hb d_5_add_10 (by decide) (fun hc => ?_) (fun hc => ?_)
    · replace h := hm_pos hc h
      exact W.vret hx hb hr (fun t ht _ => ⟨_, _, rfl, h, by rw [ht]; exact hw⟩) hL d_5_add_23
    · replace h := hm_neg hc h
      refine lv_aload_n hx hb d_5_add_13 rfl (lv_at hl 0 rfl) ?_
      refine gf_5_13 cx hw (i := r) (r := r + 1) (Nat.lt_of_succ_lt hi) hs1 rfl d_5_add_14 ?_
      refine lv_iload_n hx hb d_5_add_17 rfl (lv_at hl 1 rfl) ?_
      refine lv_dup2_11 hx hb d_5_add_18 rfl rfl ?_
      obtain ⟨hj, h⟩ := h
      refine hm_iald cx hw (i := r + 1) hi hs2 hj d_5_add_19 ?_
      refine lv_iload_n hx hb d_5_add_20 rfl (lv_at hl 2 rfl) ?_
      refine lv_iadd hx hb d_5_add_21 ?_
      obtain ⟨hj, h⟩ := h
      refine hm_iast cx hw (i := r + 1) hi hs2 hj hL d_5_add_22 (fun H locs hw hL => ?_)
      exact W.vret hx hb hr (fun t ht _ => ⟨_, _, rfl, h, by rw [ht]; exact hw⟩) hL d_5_add_23
set_option maxHeartbeats 4000000 in
set_option maxRecDepth 20000 in
theorem ct_5_add {r : Nat} {L : Nat} {x1 : Int32} {x2 : Int32} {S : hm_S} {T : hm_T} {Q : hm_S → hm_T → Prop} (hi : r + 1 < n) (hs1 : sh r = .inr (5, [r + 4])) (hs2 : sh (r + 1) = .inl (0, L)) (h : wp_5_add r L x1 x2 S T Q) : hm_M l G H0 o n sh y_5_add prog_7_method_4_code 3 (none) rm_5_add S T [.ref (o + r), .int x1, .int x2] (hm_Qv G H0 o n sh Q) := by
  refine Met.ofW (cc := prog_7_method_4_code) (maxL := 3) (ret := none) (by decide) rfl ?_
  intro p e s m args below meth c s₁ B hml hv
  obtain ⟨rfl, hK, hw⟩ := hv
  have cx : hm_cx G p s m _ c prog_7_method_4_code 3 "HeapGames$Row" := ⟨⟨B.exec, B.bytes, hml, findClass_of_methodNamed B.named, fun w hq => atoms_spec (ws := hm_ws y_5_add prog_7_method_4_code 3 (none)) B.pre w (List.mem_cons_of_mem _ hq)⟩, hK⟩
  have hl := lv_entry ([.ref (o + r), .int x1, .int x2]) (n := 3) (Nat.le_of_ble_eq_true rfl)
  rw [lg_entry_eq]
  generalize (lg_sl ([.ref (o + r), .int x1, .int x2]) ++ List.replicate (3 - (lg_sl ([.ref (o + r), .int x1, .int x2])).length) Slot.unset).toArray = ls at hl ⊢
  have hl : lv_has ls 3 [(0, .ref (o + r)), (1, .int x1), (2, .int x2)] := hl
  exact bk_5_add_0 hi hs1 hs2 cx B.returns B.notSynchronized h hw (hm_L0 _ _) hl
/-! ===== HeapGames$Row.clear()V ===== -/
theorem d_5_clear_0 : decode prog_7_method_5_code 0 = .ok (.aload_n 0, 1) := by decide +kernel
theorem d_5_clear_1 : decode prog_7_method_5_code 1 = .ok (.getfield 13, 3) := by decide +kernel
theorem d_5_clear_4 : decode prog_7_method_5_code 4 = .ok (.iconst 0, 1) := by decide +kernel
theorem d_5_clear_5 : decode prog_7_method_5_code 5 = .ok (.invokestatic 19, 3) := by decide +kernel
theorem d_5_clear_8 : decode prog_7_method_5_code 8 = .ok (.return_, 1) := by decide +kernel
def wp_5_clear (r : Nat) (L : Nat) (S : hm_S) (T : hm_T) (Q : hm_S → hm_T → Prop) : Prop :=
  wp_90_fill (r + 1) L 0 S T (fun S1 T1 => Q S1 T1)
set_option maxHeartbeats 4000000 in
set_option maxRecDepth 20000 in
theorem bk_5_clear_0 {r : Nat} {L : Nat} {Q : hm_S → hm_T → Prop} (hi : r + 1 < n) (hs1 : sh r = .inr (5, [r + 4])) (hs2 : sh (r + 1) = .inl (0, L)) (cx : hm_cx G p s m args c prog_7_method_5_code 1 "HeapGames$Row") (hr : meth.sig.returnType = none) (hlk : meth.locks = false) {S : hm_S} {T : hm_T} {H : Heap} {locs : List Loc} {ls : Array Slot} (h : wp_5_clear r L S T Q) (hw : hm_w G H0 o n sh S T H) (hL : hm_L o n locs) (hl : lv_has ls 1 [(0, .ref (o + r))]) : W p l e rm_5_clear s m args below meth c H locs 0 0 (MQ below (hm_Qv G H0 o n sh Q) args s 0 0 (t_fr o (o + n))) (F0 m 0 ls []) := by
  have hx := cx.1.1
  have hb := cx.1.2.1
  unfold wp_5_clear at h
  refine lv_aload_n hx hb d_5_clear_0 rfl (lv_at hl 0 rfl) ?_
  refine gf_5_13 cx hw (i := r) (r := r + 1) (Nat.lt_of_succ_lt hi) hs1 rfl d_5_clear_1 ?_
  refine lv_iconst (v := 0) hx hb d_5_clear_4 (by decide) ?_
  refine hm_callv (hm_rS (As := [.ref (o + (r + 1)), .int 0]) (rest := []) cx hw (ct_90_fill hi hs2 h) (mw_5_19 cx.1.2.2.2.2 ⟨Nat.le_of_ble_eq_true rfl, Nat.le_of_ble_eq_true rfl⟩) rfl hl.1 rfl (Nat.le_of_ble_eq_true rfl) d_5_clear_5 ⟨Nat.zero_le _, Nat.zero_le _⟩) hL (fun S1 T1 H locs h hw hL => ?_)
  exact W.vret hx hb hr (fun t ht _ => ⟨_, _, rfl, h, by rw [ht]; exact hw⟩) hL d_5_clear_8
set_option maxHeartbeats 4000000 in
set_option maxRecDepth 20000 in
theorem ct_5_clear {r : Nat} {L : Nat} {S : hm_S} {T : hm_T} {Q : hm_S → hm_T → Prop} (hi : r + 1 < n) (hs1 : sh r = .inr (5, [r + 4])) (hs2 : sh (r + 1) = .inl (0, L)) (h : wp_5_clear r L S T Q) : hm_M l G H0 o n sh y_5_clear prog_7_method_5_code 1 (none) rm_5_clear S T [.ref (o + r)] (hm_Qv G H0 o n sh Q) := by
  refine Met.ofW (cc := prog_7_method_5_code) (maxL := 1) (ret := none) (by decide) rfl ?_
  intro p e s m args below meth c s₁ B hml hv
  obtain ⟨rfl, hK, hw⟩ := hv
  have cx : hm_cx G p s m _ c prog_7_method_5_code 1 "HeapGames$Row" := ⟨⟨B.exec, B.bytes, hml, findClass_of_methodNamed B.named, fun w hq => atoms_spec (ws := hm_ws y_5_clear prog_7_method_5_code 1 (none)) B.pre w (List.mem_cons_of_mem _ hq)⟩, hK⟩
  have hl := lv_entry ([.ref (o + r)]) (n := 1) (Nat.le_of_ble_eq_true rfl)
  rw [lg_entry_eq]
  generalize (lg_sl ([.ref (o + r)]) ++ List.replicate (1 - (lg_sl ([.ref (o + r)])).length) Slot.unset).toArray = ls at hl ⊢
  have hl : lv_has ls 1 [(0, .ref (o + r))] := hl
  exact bk_5_clear_0 hi hs1 hs2 cx B.returns B.notSynchronized h hw (hm_L0 _ _) hl
end WK
