theorem hm_out0_27 {x : Int32} (h0 : ¬ x = 0) (h1 : ¬ x = 1) (h2 : ¬ x = 2) (h3 : ¬ x = 3) (h4 : ¬ x = 4) (h5 : ¬ x = 5) (h6 : ¬ x = 6) (h7 : ¬ x = 7) (h8 : ¬ x = 8) (h9 : ¬ x = 9) (h10 : ¬ x = 10) (h11 : ¬ x = 11) (h12 : ¬ x = 12) (h13 : ¬ x = 13) (h14 : ¬ x = 14) (h15 : ¬ x = 15) (h16 : ¬ x = 16) (h17 : ¬ x = 17) (h18 : ¬ x = 18) (h19 : ¬ x = 19) (h20 : ¬ x = 20) (h21 : ¬ x = 21) (h22 : ¬ x = 22) (h23 : ¬ x = 23) (h24 : ¬ x = 24) (h25 : ¬ x = 25) (h26 : ¬ x = 26) (h27 : ¬ x = 27) : x.toInt < 0 ∨ 27 < x.toInt := by
  have e0 : x.toInt ≠ 0 := fun e => h0 (Int32.toInt_inj.mp (by rw [e]; rfl))
  have e1 : x.toInt ≠ 1 := fun e => h1 (Int32.toInt_inj.mp (by rw [e]; rfl))
  have e2 : x.toInt ≠ 2 := fun e => h2 (Int32.toInt_inj.mp (by rw [e]; rfl))
  have e3 : x.toInt ≠ 3 := fun e => h3 (Int32.toInt_inj.mp (by rw [e]; rfl))
  have e4 : x.toInt ≠ 4 := fun e => h4 (Int32.toInt_inj.mp (by rw [e]; rfl))
  have e5 : x.toInt ≠ 5 := fun e => h5 (Int32.toInt_inj.mp (by rw [e]; rfl))
  have e6 : x.toInt ≠ 6 := fun e => h6 (Int32.toInt_inj.mp (by rw [e]; rfl))
  have e7 : x.toInt ≠ 7 := fun e => h7 (Int32.toInt_inj.mp (by rw [e]; rfl))
  have e8 : x.toInt ≠ 8 := fun e => h8 (Int32.toInt_inj.mp (by rw [e]; rfl))
  have e9 : x.toInt ≠ 9 := fun e => h9 (Int32.toInt_inj.mp (by rw [e]; rfl))
  have e10 : x.toInt ≠ 10 := fun e => h10 (Int32.toInt_inj.mp (by rw [e]; rfl))
  have e11 : x.toInt ≠ 11 := fun e => h11 (Int32.toInt_inj.mp (by rw [e]; rfl))
  have e12 : x.toInt ≠ 12 := fun e => h12 (Int32.toInt_inj.mp (by rw [e]; rfl))
  have e13 : x.toInt ≠ 13 := fun e => h13 (Int32.toInt_inj.mp (by rw [e]; rfl))
  have e14 : x.toInt ≠ 14 := fun e => h14 (Int32.toInt_inj.mp (by rw [e]; rfl))
  have e15 : x.toInt ≠ 15 := fun e => h15 (Int32.toInt_inj.mp (by rw [e]; rfl))
  have e16 : x.toInt ≠ 16 := fun e => h16 (Int32.toInt_inj.mp (by rw [e]; rfl))
  have e17 : x.toInt ≠ 17 := fun e => h17 (Int32.toInt_inj.mp (by rw [e]; rfl))
  have e18 : x.toInt ≠ 18 := fun e => h18 (Int32.toInt_inj.mp (by rw [e]; rfl))
  have e19 : x.toInt ≠ 19 := fun e => h19 (Int32.toInt_inj.mp (by rw [e]; rfl))
  have e20 : x.toInt ≠ 20 := fun e => h20 (Int32.toInt_inj.mp (by rw [e]; rfl))
  have e21 : x.toInt ≠ 21 := fun e => h21 (Int32.toInt_inj.mp (by rw [e]; rfl))
  have e22 : x.toInt ≠ 22 := fun e => h22 (Int32.toInt_inj.mp (by rw [e]; rfl))
  have e23 : x.toInt ≠ 23 := fun e => h23 (Int32.toInt_inj.mp (by rw [e]; rfl))
  have e24 : x.toInt ≠ 24 := fun e => h24 (Int32.toInt_inj.mp (by rw [e]; rfl))
  have e25 : x.toInt ≠ 25 := fun e => h25 (Int32.toInt_inj.mp (by rw [e]; rfl))
  have e26 : x.toInt ≠ 26 := fun e => h26 (Int32.toInt_inj.mp (by rw [e]; rfl))
  have e27 : x.toInt ≠ 27 := fun e => h27 (Int32.toInt_inj.mp (by rw [e]; rfl))
  omega
section LW
variable {p : Program} {l : Launch} {e : Env} {s : State} {m : MethodId} {args : Array Value} {below : List Frame} {meth : Method} {c : Code} {G : hm_G} {o b L : Nat} {xs : Nat → Int32} {adK adV : Nat → Nat}
def wb_12_law_825 (xs : Nat → Int32) (L : Nat) (S : hm_S) (T : hm_T) (U : hm_S) (V : hm_T) : Prop :=
  True
set_option maxHeartbeats 8000000 in
set_option maxRecDepth 40000 in
theorem bk_12_law_825 (cx : hm_cx G p s m #[Value.ref b] c code 4 "HeapGamesLaw") (hJ0 : hm_Jh adK adV o s.heap s) (ho : o = s.heap.size) (hX : va_X b L xs s s.heap) (hbl : b < s.heap.size) (hr : meth.sig.returnType = ret) (hlk : meth.locks = false) {S : hm_S} {T : hm_T} {U : hm_S} {V : hm_T} {H : Heap} {locs : List Loc} {ls : Array Slot} (h : wb_12_law_825 xs L S T U V) (hB : lw_B G s.heap o S T U V H) (hL : hm_Lc o locs) (hl : lv_has ls 4 []) : W p l e room_1 s m #[Value.ref b] below meth c H locs 97 211894 (lw_Z below #[Value.ref b] s) (F0 m 825 ls []) := by
  have hx := cx.1.1
  have hb := cx.1.2.1
  have hbA : ¬ hm_ge o b := by rw [ho]; exact Nat.not_le.mpr hbl
  unfold wb_12_law_825 at h
  refine lv_iconst (v := 1) hx hb d_12_law_825 (by decide) ?_
  refine va_forget (fun q hq => by rw [← ho]; exact hL q hq) ?_
  refine W.widen (k := 600000) (n := 7302250) (Nat.le_of_ble_eq_true rfl) (Nat.le_of_ble_eq_true rfl) ?_
  exact lw_ret hx hb hr hlk d_12_law_826
def wb_12_law_819 (xs : Nat → Int32) (L : Nat) (K18 : Int32 → hm_S → hm_T → hm_S → hm_T → Prop) (x3 : Int32) (S : hm_S) (T : hm_T) (U : hm_S) (V : hm_T) : Prop :=
  K18 (x3 + 4) S T U V
set_option maxHeartbeats 8000000 in
set_option maxRecDepth 40000 in
theorem bk_12_law_819 {K18 : Int32 → hm_S → hm_T → hm_S → hm_T → Prop} (cx : hm_cx G p s m #[Value.ref b] c code 4 "HeapGamesLaw") (hJ0 : hm_Jh adK adV o s.heap s) (ho : o = s.heap.size) (hX : va_X b L xs s s.heap) (hbl : b < s.heap.size) (hr : meth.sig.returnType = ret) (hlk : meth.locks = false) (k18 : ∀ (x3 : Int32) (S : hm_S) (T : hm_T) (U : hm_S) (V : hm_T) (H : Heap) (locs : List Loc) (ls : Array Slot), K18 x3 S T U V → lw_B G s.heap o S T U V H → hm_Lc o locs → lv_has ls 4 [(0, .ref b), (1, .ref (o + 0)), (2, .ref (o + 74 + 0)), (3, .int x3)] → W p l e room_1 s m #[Value.ref b] below meth c H locs 97 211894 (lw_Z below #[Value.ref b] s) (F0 m 18 ls [])) {x3 : Int32} {S : hm_S} {T : hm_T} {U : hm_S} {V : hm_T} {H : Heap} {locs : List Loc} {ls : Array Slot} (h : wb_12_law_819 xs L K18 x3 S T U V) (hB : lw_B G s.heap o S T U V H) (hL : hm_Lc o locs) (hl : lv_has ls 4 [(0, .ref b), (1, .ref (o + 0)), (2, .ref (o + 74 + 0)), (3, .int x3)]) : W p l e room_1 s m #[Value.ref b] below meth c H locs 97 211894 (lw_Z below #[Value.ref b] s) (F0 m 819 ls []) := by
  have hx := cx.1.1
  have hb := cx.1.2.1
  have hbA : ¬ hm_ge o b := by rw [ho]; exact Nat.not_le.mpr hbl
  unfold wb_12_law_819 at h
  refine lv_iinc (v := (x3 + 4)) (lv' := [(3, .int (x3 + 4)), (0, .ref b), (1, .ref (o + 0)), (2, .ref (o + 74 + 0))]) hx hb d_12_law_819 hl (k := 3) rfl rfl (by decide) rfl (fun ls hl => ?_)
  refine lv_goto (tgt := 18) hx hb d_12_law_822 (by decide) ?_
  exact k18 _ _ _ _ _ _ _ _ h hB hL (lv_sub hl [1, 2, 3, 0] rfl)
def wb_12_law_270 (xs : Nat → Int32) (L : Nat) (K18 : Int32 → hm_S → hm_T → hm_S → hm_T → Prop) (x3 : Int32) (z0 : Int32) (z2 : Int32) (S : hm_S) (T : hm_T) (U : hm_S) (V : hm_T) : Prop :=
  wp_11_setMisere z0 U V (fun r8 U8 V8 => (if z2 = r8 then wb_12_law_819 xs L K18 x3 S T U8 V8 else False))
set_option maxHeartbeats 8000000 in
set_option maxRecDepth 40000 in
theorem bk_12_law_270 {K18 : Int32 → hm_S → hm_T → hm_S → hm_T → Prop} (cx : hm_cx G p s m #[Value.ref b] c code 4 "HeapGamesLaw") (hJ0 : hm_Jh adK adV o s.heap s) (ho : o = s.heap.size) (hX : va_X b L xs s s.heap) (hbl : b < s.heap.size) (hr : meth.sig.returnType = ret) (hlk : meth.locks = false) (k18 : ∀ (x3 : Int32) (S : hm_S) (T : hm_T) (U : hm_S) (V : hm_T) (H : Heap) (locs : List Loc) (ls : Array Slot), K18 x3 S T U V → lw_B G s.heap o S T U V H → hm_Lc o locs → lv_has ls 4 [(0, .ref b), (1, .ref (o + 0)), (2, .ref (o + 74 + 0)), (3, .int x3)] → W p l e room_1 s m #[Value.ref b] below meth c H locs 97 211894 (lw_Z below #[Value.ref b] s) (F0 m 18 ls [])) {x3 : Int32} {z0 : Int32} {z2 : Int32} {S : hm_S} {T : hm_T} {U : hm_S} {V : hm_T} {H : Heap} {locs : List Loc} {ls : Array Slot} (h : wb_12_law_270 xs L K18 x3 z0 z2 S T U V) (hB : lw_B G s.heap o S T U V H) (hL : hm_Lc o locs) (hl : lv_has ls 4 [(0, .ref b), (1, .ref (o + 0)), (2, .ref (o + 74 + 0)), (3, .int x3)]) : W p l e room_1 s m #[Value.ref b] below meth c H locs 97 211894 (lw_Z below #[Value.ref b] s) (F0 m 270 ls [.int z0, .ref (o + 74 + 0), .int z2]) := by
  have hx := cx.1.1
  have hb := cx.1.2.1
  have hbA : ¬ hm_ge o b := by rw [ho]; exact Nat.not_le.mpr hbl
  unfold wb_12_law_270 at h
  refine lw_callMi (hr := hm_rV (i := 0) (As := [.int z0]) (rest := [.int z2]) cx hB.2.1 (ct_11_setMisere h) (mw_12_31 cx.1.2.2.2.2 ⟨Nat.le_of_ble_eq_true rfl, Nat.le_of_ble_eq_true rfl⟩) (by decide) sm_0 rfl rfl hl.1 rfl (Nat.le_of_ble_eq_true rfl) d_12_law_270 ⟨Nat.le_of_ble_eq_true rfl, Nat.le_of_ble_eq_true rfl⟩) hB hL (fun r8 U8 V8 H locs h hB hL => ?_)
  refine lv_icmp_eq (tgt := 819) hx hb d_12_law_273 (by decide) (fun hc => ?_) (fun hc => ?_)
  · replace h := hm_pos hc h
    exact bk_12_law_819 cx hJ0 ho hX hbl hr hlk k18 h hB hL (lv_sub hl [0, 1, 2, 3] rfl)
  · replace h := hm_neg hc h
    refine lv_iconst (v := 0) hx hb d_12_law_276 (by decide) ?_
    exact h.elim
def wb_12_law_253 (xs : Nat → Int32) (L : Nat) (K18 : Int32 → hm_S → hm_T → hm_S → hm_T → Prop) (x3 : Int32) (z0 : Int32) (S : hm_S) (T : hm_T) (U : hm_S) (V : hm_T) : Prop :=
  wp_10_setMisere z0 S T (fun r7 S7 T7 => (vp_in (x3 + 1) L ∧ (if (xs (Int32.toNatClampNeg (x3 + 1))) = 0 then wb_12_law_270 xs L K18 x3 0 r7 S7 T7 U V else wb_12_law_270 xs L K18 x3 1 r7 S7 T7 U V)))
set_option maxHeartbeats 8000000 in
set_option maxRecDepth 40000 in
theorem bk_12_law_253 {K18 : Int32 → hm_S → hm_T → hm_S → hm_T → Prop} (cx : hm_cx G p s m #[Value.ref b] c code 4 "HeapGamesLaw") (hJ0 : hm_Jh adK adV o s.heap s) (ho : o = s.heap.size) (hX : va_X b L xs s s.heap) (hbl : b < s.heap.size) (hr : meth.sig.returnType = ret) (hlk : meth.locks = false) (k18 : ∀ (x3 : Int32) (S : hm_S) (T : hm_T) (U : hm_S) (V : hm_T) (H : Heap) (locs : List Loc) (ls : Array Slot), K18 x3 S T U V → lw_B G s.heap o S T U V H → hm_Lc o locs → lv_has ls 4 [(0, .ref b), (1, .ref (o + 0)), (2, .ref (o + 74 + 0)), (3, .int x3)] → W p l e room_1 s m #[Value.ref b] below meth c H locs 97 211894 (lw_Z below #[Value.ref b] s) (F0 m 18 ls [])) {x3 : Int32} {z0 : Int32} {S : hm_S} {T : hm_T} {U : hm_S} {V : hm_T} {H : Heap} {locs : List Loc} {ls : Array Slot} (h : wb_12_law_253 xs L K18 x3 z0 S T U V) (hB : lw_B G s.heap o S T U V H) (hL : hm_Lc o locs) (hl : lv_has ls 4 [(0, .ref b), (1, .ref (o + 0)), (2, .ref (o + 74 + 0)), (3, .int x3)]) : W p l e room_1 s m #[Value.ref b] below meth c H locs 97 211894 (lw_Z below #[Value.ref b] s) (F0 m 253 ls [.int z0, .ref (o + 0)]) := by
  have hx := cx.1.1
  have hb := cx.1.2.1
  have hbA : ¬ hm_ge o b := by rw [ho]; exact Nat.not_le.mpr hbl
  unfold wb_12_law_253 at h
  refine lw_callXi (hr := hm_rV (i := 0) (As := [.int z0]) (rest := []) cx hB.1 (ct_10_setMisere h) (mw_12_27 cx.1.2.2.2.2 ⟨Nat.le_of_ble_eq_true rfl, Nat.le_of_ble_eq_true rfl⟩) (by decide) sx_0 rfl rfl hl.1 rfl (Nat.le_of_ble_eq_true rfl) d_12_law_253 ⟨Nat.le_of_ble_eq_true rfl, Nat.le_of_ble_eq_true rfl⟩) hB hL (fun r7 S7 T7 H locs h hB hL => ?_)
  refine lv_aload_n hx hb d_12_law_256 rfl (lv_at hl 2 rfl) ?_
  refine lv_aload_n hx hb d_12_law_257 rfl (lv_at hl 0 rfl) ?_
  refine lv_iload_n hx hb d_12_law_258 rfl (lv_at hl 3 rfl) ?_
  refine lv_iconst (v := 1) hx hb d_12_law_259 (by decide) ?_
  refine lv_iadd hx hb d_12_law_260 ?_
  obtain ⟨hj, h⟩ := h
  refine va_sld hx hb hX hbl hbA (hB.vs hL) hj d_12_law_261 ?_
  refine lv_if_eq (tgt := 269) hx hb d_12_law_262 (by decide) (fun hc => ?_) (fun hc => ?_)
  · replace h := hm_pos hc h
    refine lv_iconst (v := 0) hx hb d_12_law_269 (by decide) ?_
    exact bk_12_law_270 cx hJ0 ho hX hbl hr hlk k18 h hB hL (lv_sub hl [0, 1, 2, 3] rfl)
  · replace h := hm_neg hc h
    refine lv_iconst (v := 1) hx hb d_12_law_265 (by decide) ?_
    refine lv_goto (tgt := 270) hx hb d_12_law_266 (by decide) ?_
    exact bk_12_law_270 cx hJ0 ho hX hbl hr hlk k18 h hB hL (lv_sub hl [0, 1, 2, 3] rfl)
def wb_12_law_427 (xs : Nat → Int32) (L : Nat) (K18 : Int32 → hm_S → hm_T → hm_S → hm_T → Prop) (x3 : Int32) (z0 : Int32) (z2 : Int32) (S : hm_S) (T : hm_T) (U : hm_S) (V : hm_T) : Prop :=
  wp_11_setPass z0 U V (fun r22 U22 V22 => (if z2 = r22 then wb_12_law_819 xs L K18 x3 S T U22 V22 else False))
set_option maxHeartbeats 8000000 in
set_option maxRecDepth 40000 in
theorem bk_12_law_427 {K18 : Int32 → hm_S → hm_T → hm_S → hm_T → Prop} (cx : hm_cx G p s m #[Value.ref b] c code 4 "HeapGamesLaw") (hJ0 : hm_Jh adK adV o s.heap s) (ho : o = s.heap.size) (hX : va_X b L xs s s.heap) (hbl : b < s.heap.size) (hr : meth.sig.returnType = ret) (hlk : meth.locks = false) (k18 : ∀ (x3 : Int32) (S : hm_S) (T : hm_T) (U : hm_S) (V : hm_T) (H : Heap) (locs : List Loc) (ls : Array Slot), K18 x3 S T U V → lw_B G s.heap o S T U V H → hm_Lc o locs → lv_has ls 4 [(0, .ref b), (1, .ref (o + 0)), (2, .ref (o + 74 + 0)), (3, .int x3)] → W p l e room_1 s m #[Value.ref b] below meth c H locs 97 211894 (lw_Z below #[Value.ref b] s) (F0 m 18 ls [])) {x3 : Int32} {z0 : Int32} {z2 : Int32} {S : hm_S} {T : hm_T} {U : hm_S} {V : hm_T} {H : Heap} {locs : List Loc} {ls : Array Slot} (h : wb_12_law_427 xs L K18 x3 z0 z2 S T U V) (hB : lw_B G s.heap o S T U V H) (hL : hm_Lc o locs) (hl : lv_has ls 4 [(0, .ref b), (1, .ref (o + 0)), (2, .ref (o + 74 + 0)), (3, .int x3)]) : W p l e room_1 s m #[Value.ref b] below meth c H locs 97 211894 (lw_Z below #[Value.ref b] s) (F0 m 427 ls [.int z0, .ref (o + 74 + 0), .int z2]) := by
  have hx := cx.1.1
  have hb := cx.1.2.1
  have hbA : ¬ hm_ge o b := by rw [ho]; exact Nat.not_le.mpr hbl
  unfold wb_12_law_427 at h
  refine lw_callMi (hr := hm_rV (i := 0) (As := [.int z0]) (rest := [.int z2]) cx hB.2.1 (ct_11_setPass h) (mw_12_60 cx.1.2.2.2.2 ⟨Nat.le_of_ble_eq_true rfl, Nat.le_of_ble_eq_true rfl⟩) (by decide) sm_0 rfl rfl hl.1 rfl (Nat.le_of_ble_eq_true rfl) d_12_law_427 ⟨Nat.le_of_ble_eq_true rfl, Nat.le_of_ble_eq_true rfl⟩) hB hL (fun r22 U22 V22 H locs h hB hL => ?_)
  refine lv_icmp_eq (tgt := 819) hx hb d_12_law_430 (by decide) (fun hc => ?_) (fun hc => ?_)
  · replace h := hm_pos hc h
    exact bk_12_law_819 cx hJ0 ho hX hbl hr hlk k18 h hB hL (lv_sub hl [0, 1, 2, 3] rfl)
  · replace h := hm_neg hc h
    refine lv_iconst (v := 0) hx hb d_12_law_433 (by decide) ?_
    exact h.elim
def wb_12_law_410 (xs : Nat → Int32) (L : Nat) (K18 : Int32 → hm_S → hm_T → hm_S → hm_T → Prop) (x3 : Int32) (z0 : Int32) (S : hm_S) (T : hm_T) (U : hm_S) (V : hm_T) : Prop :=
  wp_10_setPass z0 S T (fun r21 S21 T21 => (vp_in (x3 + 1) L ∧ (if (xs (Int32.toNatClampNeg (x3 + 1))) = 0 then wb_12_law_427 xs L K18 x3 0 r21 S21 T21 U V else wb_12_law_427 xs L K18 x3 1 r21 S21 T21 U V)))
set_option maxHeartbeats 8000000 in
set_option maxRecDepth 40000 in
theorem bk_12_law_410 {K18 : Int32 → hm_S → hm_T → hm_S → hm_T → Prop} (cx : hm_cx G p s m #[Value.ref b] c code 4 "HeapGamesLaw") (hJ0 : hm_Jh adK adV o s.heap s) (ho : o = s.heap.size) (hX : va_X b L xs s s.heap) (hbl : b < s.heap.size) (hr : meth.sig.returnType = ret) (hlk : meth.locks = false) (k18 : ∀ (x3 : Int32) (S : hm_S) (T : hm_T) (U : hm_S) (V : hm_T) (H : Heap) (locs : List Loc) (ls : Array Slot), K18 x3 S T U V → lw_B G s.heap o S T U V H → hm_Lc o locs → lv_has ls 4 [(0, .ref b), (1, .ref (o + 0)), (2, .ref (o + 74 + 0)), (3, .int x3)] → W p l e room_1 s m #[Value.ref b] below meth c H locs 97 211894 (lw_Z below #[Value.ref b] s) (F0 m 18 ls [])) {x3 : Int32} {z0 : Int32} {S : hm_S} {T : hm_T} {U : hm_S} {V : hm_T} {H : Heap} {locs : List Loc} {ls : Array Slot} (h : wb_12_law_410 xs L K18 x3 z0 S T U V) (hB : lw_B G s.heap o S T U V H) (hL : hm_Lc o locs) (hl : lv_has ls 4 [(0, .ref b), (1, .ref (o + 0)), (2, .ref (o + 74 + 0)), (3, .int x3)]) : W p l e room_1 s m #[Value.ref b] below meth c H locs 97 211894 (lw_Z below #[Value.ref b] s) (F0 m 410 ls [.int z0, .ref (o + 0)]) := by
  have hx := cx.1.1
  have hb := cx.1.2.1
  have hbA : ¬ hm_ge o b := by rw [ho]; exact Nat.not_le.mpr hbl
  unfold wb_12_law_410 at h
  refine lw_callXi (hr := hm_rV (i := 0) (As := [.int z0]) (rest := []) cx hB.1 (ct_10_setPass h) (mw_12_57 cx.1.2.2.2.2 ⟨Nat.le_of_ble_eq_true rfl, Nat.le_of_ble_eq_true rfl⟩) (by decide) sx_0 rfl rfl hl.1 rfl (Nat.le_of_ble_eq_true rfl) d_12_law_410 ⟨Nat.le_of_ble_eq_true rfl, Nat.le_of_ble_eq_true rfl⟩) hB hL (fun r21 S21 T21 H locs h hB hL => ?_)
  refine lv_aload_n hx hb d_12_law_413 rfl (lv_at hl 2 rfl) ?_
  refine lv_aload_n hx hb d_12_law_414 rfl (lv_at hl 0 rfl) ?_
  refine lv_iload_n hx hb d_12_law_415 rfl (lv_at hl 3 rfl) ?_
  refine lv_iconst (v := 1) hx hb d_12_law_416 (by decide) ?_
  refine lv_iadd hx hb d_12_law_417 ?_
  obtain ⟨hj, h⟩ := h
  refine va_sld hx hb hX hbl hbA (hB.vs hL) hj d_12_law_418 ?_
  refine lv_if_eq (tgt := 426) hx hb d_12_law_419 (by decide) (fun hc => ?_) (fun hc => ?_)
  · replace h := hm_pos hc h
    refine lv_iconst (v := 0) hx hb d_12_law_426 (by decide) ?_
    exact bk_12_law_427 cx hJ0 ho hX hbl hr hlk k18 h hB hL (lv_sub hl [0, 1, 2, 3] rfl)
  · replace h := hm_neg hc h
    refine lv_iconst (v := 1) hx hb d_12_law_422 (by decide) ?_
    refine lv_goto (tgt := 427) hx hb d_12_law_423 (by decide) ?_
    exact bk_12_law_427 cx hJ0 ho hX hbl hr hlk k18 h hB hL (lv_sub hl [0, 1, 2, 3] rfl)
def wb_12_law_656 (xs : Nat → Int32) (L : Nat) (K18 : Int32 → hm_S → hm_T → hm_S → hm_T → Prop) (x3 : Int32) (z0 : Int32) (z2 : Int32) (S : hm_S) (T : hm_T) (U : hm_S) (V : hm_T) : Prop :=
  wp_11_outcomeWith z0 U V (fun r44 U44 V44 => (if z2 = r44 then wb_12_law_819 xs L K18 x3 S T U44 V44 else False))
set_option maxHeartbeats 8000000 in
set_option maxRecDepth 40000 in
theorem bk_12_law_656 {K18 : Int32 → hm_S → hm_T → hm_S → hm_T → Prop} (cx : hm_cx G p s m #[Value.ref b] c code 4 "HeapGamesLaw") (hJ0 : hm_Jh adK adV o s.heap s) (ho : o = s.heap.size) (hX : va_X b L xs s s.heap) (hbl : b < s.heap.size) (hr : meth.sig.returnType = ret) (hlk : meth.locks = false) (k18 : ∀ (x3 : Int32) (S : hm_S) (T : hm_T) (U : hm_S) (V : hm_T) (H : Heap) (locs : List Loc) (ls : Array Slot), K18 x3 S T U V → lw_B G s.heap o S T U V H → hm_Lc o locs → lv_has ls 4 [(0, .ref b), (1, .ref (o + 0)), (2, .ref (o + 74 + 0)), (3, .int x3)] → W p l e room_1 s m #[Value.ref b] below meth c H locs 97 211894 (lw_Z below #[Value.ref b] s) (F0 m 18 ls [])) {x3 : Int32} {z0 : Int32} {z2 : Int32} {S : hm_S} {T : hm_T} {U : hm_S} {V : hm_T} {H : Heap} {locs : List Loc} {ls : Array Slot} (h : wb_12_law_656 xs L K18 x3 z0 z2 S T U V) (hB : lw_B G s.heap o S T U V H) (hL : hm_Lc o locs) (hl : lv_has ls 4 [(0, .ref b), (1, .ref (o + 0)), (2, .ref (o + 74 + 0)), (3, .int x3)]) : W p l e room_1 s m #[Value.ref b] below meth c H locs 97 211894 (lw_Z below #[Value.ref b] s) (F0 m 656 ls [.int z0, .ref (o + 74 + 0), .int z2]) := by
  have hx := cx.1.1
  have hb := cx.1.2.1
  have hbA : ¬ hm_ge o b := by rw [ho]; exact Nat.not_le.mpr hbl
  unfold wb_12_law_656 at h
  refine lw_callMi (hr := hm_rV (i := 0) (As := [.int z0]) (rest := [.int z2]) cx hB.2.1 (ct_11_outcomeWith h) (mw_12_104 cx.1.2.2.2.2 ⟨Nat.le_of_ble_eq_true rfl, Nat.le_of_ble_eq_true rfl⟩) (by decide) sm_0 rfl rfl hl.1 rfl (Nat.le_of_ble_eq_true rfl) d_12_law_656 ⟨Nat.le_of_ble_eq_true rfl, Nat.le_of_ble_eq_true rfl⟩) hB hL (fun r44 U44 V44 H locs h hB hL => ?_)
  refine lv_icmp_eq (tgt := 819) hx hb d_12_law_659 (by decide) (fun hc => ?_) (fun hc => ?_)
  · replace h := hm_pos hc h
    exact bk_12_law_819 cx hJ0 ho hX hbl hr hlk k18 h hB hL (lv_sub hl [0, 1, 2, 3] rfl)
  · replace h := hm_neg hc h
    refine lv_iconst (v := 0) hx hb d_12_law_662 (by decide) ?_
    exact h.elim
def wb_12_law_639 (xs : Nat → Int32) (L : Nat) (K18 : Int32 → hm_S → hm_T → hm_S → hm_T → Prop) (x3 : Int32) (z0 : Int32) (S : hm_S) (T : hm_T) (U : hm_S) (V : hm_T) : Prop :=
  wp_10_outcomeWith z0 S T (fun r43 S43 T43 => (vp_in (x3 + 1) L ∧ (if (xs (Int32.toNatClampNeg (x3 + 1))) = 0 then wb_12_law_656 xs L K18 x3 0 r43 S43 T43 U V else wb_12_law_656 xs L K18 x3 1 r43 S43 T43 U V)))
set_option maxHeartbeats 8000000 in
set_option maxRecDepth 40000 in
theorem bk_12_law_639 {K18 : Int32 → hm_S → hm_T → hm_S → hm_T → Prop} (cx : hm_cx G p s m #[Value.ref b] c code 4 "HeapGamesLaw") (hJ0 : hm_Jh adK adV o s.heap s) (ho : o = s.heap.size) (hX : va_X b L xs s s.heap) (hbl : b < s.heap.size) (hr : meth.sig.returnType = ret) (hlk : meth.locks = false) (k18 : ∀ (x3 : Int32) (S : hm_S) (T : hm_T) (U : hm_S) (V : hm_T) (H : Heap) (locs : List Loc) (ls : Array Slot), K18 x3 S T U V → lw_B G s.heap o S T U V H → hm_Lc o locs → lv_has ls 4 [(0, .ref b), (1, .ref (o + 0)), (2, .ref (o + 74 + 0)), (3, .int x3)] → W p l e room_1 s m #[Value.ref b] below meth c H locs 97 211894 (lw_Z below #[Value.ref b] s) (F0 m 18 ls [])) {x3 : Int32} {z0 : Int32} {S : hm_S} {T : hm_T} {U : hm_S} {V : hm_T} {H : Heap} {locs : List Loc} {ls : Array Slot} (h : wb_12_law_639 xs L K18 x3 z0 S T U V) (hB : lw_B G s.heap o S T U V H) (hL : hm_Lc o locs) (hl : lv_has ls 4 [(0, .ref b), (1, .ref (o + 0)), (2, .ref (o + 74 + 0)), (3, .int x3)]) : W p l e room_1 s m #[Value.ref b] below meth c H locs 97 211894 (lw_Z below #[Value.ref b] s) (F0 m 639 ls [.int z0, .ref (o + 0)]) := by
  have hx := cx.1.1
  have hb := cx.1.2.1
  have hbA : ¬ hm_ge o b := by rw [ho]; exact Nat.not_le.mpr hbl
  unfold wb_12_law_639 at h
  refine lw_callXi (hr := hm_rV (i := 0) (As := [.int z0]) (rest := []) cx hB.1 (ct_10_outcomeWith h) (mw_12_101 cx.1.2.2.2.2 ⟨Nat.le_of_ble_eq_true rfl, Nat.le_of_ble_eq_true rfl⟩) (by decide) sx_0 rfl rfl hl.1 rfl (Nat.le_of_ble_eq_true rfl) d_12_law_639 ⟨Nat.le_of_ble_eq_true rfl, Nat.le_of_ble_eq_true rfl⟩) hB hL (fun r43 S43 T43 H locs h hB hL => ?_)
  refine lv_aload_n hx hb d_12_law_642 rfl (lv_at hl 2 rfl) ?_
  refine lv_aload_n hx hb d_12_law_643 rfl (lv_at hl 0 rfl) ?_
  refine lv_iload_n hx hb d_12_law_644 rfl (lv_at hl 3 rfl) ?_
  refine lv_iconst (v := 1) hx hb d_12_law_645 (by decide) ?_
  refine lv_iadd hx hb d_12_law_646 ?_
  obtain ⟨hj, h⟩ := h
  refine va_sld hx hb hX hbl hbA (hB.vs hL) hj d_12_law_647 ?_
  refine lv_if_eq (tgt := 655) hx hb d_12_law_648 (by decide) (fun hc => ?_) (fun hc => ?_)
  · replace h := hm_pos hc h
    refine lv_iconst (v := 0) hx hb d_12_law_655 (by decide) ?_
    exact bk_12_law_656 cx hJ0 ho hX hbl hr hlk k18 h hB hL (lv_sub hl [0, 1, 2, 3] rfl)
  · replace h := hm_neg hc h
    refine lv_iconst (v := 1) hx hb d_12_law_651 (by decide) ?_
    refine lv_goto (tgt := 656) hx hb d_12_law_652 (by decide) ?_
    exact bk_12_law_656 cx hJ0 ho hX hbl hr hlk k18 h hB hL (lv_sub hl [0, 1, 2, 3] rfl)
def wb_12_law_710 (xs : Nat → Int32) (L : Nat) (K18 : Int32 → hm_S → hm_T → hm_S → hm_T → Prop) (x3 : Int32) (z0 : Int32) (z1 : Int32) (z3 : Int32) (S : hm_S) (T : hm_T) (U : hm_S) (V : hm_T) : Prop :=
  (vp_in (x3 + 3) L ∧ wp_11_census z1 z0 (xs (Int32.toNatClampNeg (x3 + 3))) U V (fun r46 U46 V46 => (if z3 = r46 then wb_12_law_819 xs L K18 x3 S T U46 V46 else False)))
set_option maxHeartbeats 8000000 in
set_option maxRecDepth 40000 in
theorem bk_12_law_710 {K18 : Int32 → hm_S → hm_T → hm_S → hm_T → Prop} (cx : hm_cx G p s m #[Value.ref b] c code 4 "HeapGamesLaw") (hJ0 : hm_Jh adK adV o s.heap s) (ho : o = s.heap.size) (hX : va_X b L xs s s.heap) (hbl : b < s.heap.size) (hr : meth.sig.returnType = ret) (hlk : meth.locks = false) (k18 : ∀ (x3 : Int32) (S : hm_S) (T : hm_T) (U : hm_S) (V : hm_T) (H : Heap) (locs : List Loc) (ls : Array Slot), K18 x3 S T U V → lw_B G s.heap o S T U V H → hm_Lc o locs → lv_has ls 4 [(0, .ref b), (1, .ref (o + 0)), (2, .ref (o + 74 + 0)), (3, .int x3)] → W p l e room_1 s m #[Value.ref b] below meth c H locs 97 211894 (lw_Z below #[Value.ref b] s) (F0 m 18 ls [])) {x3 : Int32} {z0 : Int32} {z1 : Int32} {z3 : Int32} {S : hm_S} {T : hm_T} {U : hm_S} {V : hm_T} {H : Heap} {locs : List Loc} {ls : Array Slot} (h : wb_12_law_710 xs L K18 x3 z0 z1 z3 S T U V) (hB : lw_B G s.heap o S T U V H) (hL : hm_Lc o locs) (hl : lv_has ls 4 [(0, .ref b), (1, .ref (o + 0)), (2, .ref (o + 74 + 0)), (3, .int x3)]) : W p l e room_1 s m #[Value.ref b] below meth c H locs 97 211894 (lw_Z below #[Value.ref b] s) (F0 m 710 ls [.int z0, .int z1, .ref (o + 74 + 0), .int z3]) := by
  have hx := cx.1.1
  have hb := cx.1.2.1
  have hbA : ¬ hm_ge o b := by rw [ho]; exact Nat.not_le.mpr hbl
  unfold wb_12_law_710 at h
  refine lv_aload_n hx hb d_12_law_710 rfl (lv_at hl 0 rfl) ?_
  refine lv_iload_n hx hb d_12_law_711 rfl (lv_at hl 3 rfl) ?_
  refine lv_iconst (v := 3) hx hb d_12_law_712 (by decide) ?_
  refine lv_iadd hx hb d_12_law_713 ?_
  obtain ⟨hj, h⟩ := h
  refine va_sld hx hb hX hbl hbA (hB.vs hL) hj d_12_law_714 ?_
  refine lw_callMi (hr := hm_rV (i := 0) (As := [.int z1, .int z0, .int (xs (Int32.toNatClampNeg (x3 + 3)))]) (rest := [.int z3]) cx hB.2.1 (ct_11_census h) (mw_12_109 cx.1.2.2.2.2 ⟨Nat.le_of_ble_eq_true rfl, Nat.le_of_ble_eq_true rfl⟩) (by decide) sm_0 rfl rfl hl.1 rfl (Nat.le_of_ble_eq_true rfl) d_12_law_715 ⟨Nat.le_of_ble_eq_true rfl, Nat.le_of_ble_eq_true rfl⟩) hB hL (fun r46 U46 V46 H locs h hB hL => ?_)
  refine lv_icmp_eq (tgt := 819) hx hb d_12_law_718 (by decide) (fun hc => ?_) (fun hc => ?_)
  · replace h := hm_pos hc h
    exact bk_12_law_819 cx hJ0 ho hX hbl hr hlk k18 h hB hL (lv_sub hl [0, 1, 2, 3] rfl)
  · replace h := hm_neg hc h
    refine lv_iconst (v := 0) hx hb d_12_law_721 (by decide) ?_
    exact h.elim
def wb_12_law_683 (xs : Nat → Int32) (L : Nat) (K18 : Int32 → hm_S → hm_T → hm_S → hm_T → Prop) (x3 : Int32) (z0 : Int32) (z1 : Int32) (S : hm_S) (T : hm_T) (U : hm_S) (V : hm_T) : Prop :=
  (vp_in (x3 + 3) L ∧ wp_10_census z1 z0 (xs (Int32.toNatClampNeg (x3 + 3))) S T (fun r45 S45 T45 => (vp_in (x3 + 1) L ∧ (vp_in (x3 + 2) L ∧ (if (xs (Int32.toNatClampNeg (x3 + 2))) = 0 then wb_12_law_710 xs L K18 x3 0 (xs (Int32.toNatClampNeg (x3 + 1))) r45 S45 T45 U V else wb_12_law_710 xs L K18 x3 1 (xs (Int32.toNatClampNeg (x3 + 1))) r45 S45 T45 U V)))))
set_option maxHeartbeats 8000000 in
set_option maxRecDepth 40000 in
theorem bk_12_law_683 {K18 : Int32 → hm_S → hm_T → hm_S → hm_T → Prop} (cx : hm_cx G p s m #[Value.ref b] c code 4 "HeapGamesLaw") (hJ0 : hm_Jh adK adV o s.heap s) (ho : o = s.heap.size) (hX : va_X b L xs s s.heap) (hbl : b < s.heap.size) (hr : meth.sig.returnType = ret) (hlk : meth.locks = false) (k18 : ∀ (x3 : Int32) (S : hm_S) (T : hm_T) (U : hm_S) (V : hm_T) (H : Heap) (locs : List Loc) (ls : Array Slot), K18 x3 S T U V → lw_B G s.heap o S T U V H → hm_Lc o locs → lv_has ls 4 [(0, .ref b), (1, .ref (o + 0)), (2, .ref (o + 74 + 0)), (3, .int x3)] → W p l e room_1 s m #[Value.ref b] below meth c H locs 97 211894 (lw_Z below #[Value.ref b] s) (F0 m 18 ls [])) {x3 : Int32} {z0 : Int32} {z1 : Int32} {S : hm_S} {T : hm_T} {U : hm_S} {V : hm_T} {H : Heap} {locs : List Loc} {ls : Array Slot} (h : wb_12_law_683 xs L K18 x3 z0 z1 S T U V) (hB : lw_B G s.heap o S T U V H) (hL : hm_Lc o locs) (hl : lv_has ls 4 [(0, .ref b), (1, .ref (o + 0)), (2, .ref (o + 74 + 0)), (3, .int x3)]) : W p l e room_1 s m #[Value.ref b] below meth c H locs 97 211894 (lw_Z below #[Value.ref b] s) (F0 m 683 ls [.int z0, .int z1, .ref (o + 0)]) := by
  have hx := cx.1.1
  have hb := cx.1.2.1
  have hbA : ¬ hm_ge o b := by rw [ho]; exact Nat.not_le.mpr hbl
  unfold wb_12_law_683 at h
  refine lv_aload_n hx hb d_12_law_683 rfl (lv_at hl 0 rfl) ?_
  refine lv_iload_n hx hb d_12_law_684 rfl (lv_at hl 3 rfl) ?_
  refine lv_iconst (v := 3) hx hb d_12_law_685 (by decide) ?_
  refine lv_iadd hx hb d_12_law_686 ?_
  obtain ⟨hj, h⟩ := h
  refine va_sld hx hb hX hbl hbA (hB.vs hL) hj d_12_law_687 ?_
  refine lw_callXi (hr := hm_rV (i := 0) (As := [.int z1, .int z0, .int (xs (Int32.toNatClampNeg (x3 + 3)))]) (rest := []) cx hB.1 (ct_10_census h) (mw_12_105 cx.1.2.2.2.2 ⟨Nat.le_of_ble_eq_true rfl, Nat.le_of_ble_eq_true rfl⟩) (by decide) sx_0 rfl rfl hl.1 rfl (Nat.le_of_ble_eq_true rfl) d_12_law_688 ⟨Nat.le_of_ble_eq_true rfl, Nat.le_of_ble_eq_true rfl⟩) hB hL (fun r45 S45 T45 H locs h hB hL => ?_)
  refine lv_aload_n hx hb d_12_law_691 rfl (lv_at hl 2 rfl) ?_
  refine lv_aload_n hx hb d_12_law_692 rfl (lv_at hl 0 rfl) ?_
  refine lv_iload_n hx hb d_12_law_693 rfl (lv_at hl 3 rfl) ?_
  refine lv_iconst (v := 1) hx hb d_12_law_694 (by decide) ?_
  refine lv_iadd hx hb d_12_law_695 ?_
  obtain ⟨hj, h⟩ := h
  refine va_sld hx hb hX hbl hbA (hB.vs hL) hj d_12_law_696 ?_
  refine lv_aload_n hx hb d_12_law_697 rfl (lv_at hl 0 rfl) ?_
  refine lv_iload_n hx hb d_12_law_698 rfl (lv_at hl 3 rfl) ?_
  refine lv_iconst (v := 2) hx hb d_12_law_699 (by decide) ?_
  refine lv_iadd hx hb d_12_law_700 ?_
  obtain ⟨hj, h⟩ := h
  refine va_sld hx hb hX hbl hbA (hB.vs hL) hj d_12_law_701 ?_
  refine lv_if_eq (tgt := 709) hx hb d_12_law_702 (by decide) (fun hc => ?_) (fun hc => ?_)
  · replace h := hm_pos hc h
    refine lv_iconst (v := 0) hx hb d_12_law_709 (by decide) ?_
    exact bk_12_law_710 cx hJ0 ho hX hbl hr hlk k18 h hB hL (lv_sub hl [0, 1, 2, 3] rfl)
  · replace h := hm_neg hc h
    refine lv_iconst (v := 1) hx hb d_12_law_705 (by decide) ?_
    refine lv_goto (tgt := 710) hx hb d_12_law_706 (by decide) ?_
    exact bk_12_law_710 cx hJ0 ho hX hbl hr hlk k18 h hB hL (lv_sub hl [0, 1, 2, 3] rfl)
def wb_12_law_18 (xs : Nat → Int32) (L : Nat) (K18 : Int32 → hm_S → hm_T → hm_S → hm_T → Prop) (x3 : Int32) (S : hm_S) (T : hm_T) (U : hm_S) (V : hm_T) : Prop :=
  (if ((nI L) - 4) < x3 then wb_12_law_825 xs L S T U V else (vp_in x3 L ∧ (if ((xs (Int32.toNatClampNeg x3)) &&& 31) = 0 then (vp_in (x3 + 1) L ∧ (vp_in (x3 + 2) L ∧ wp_10_setDigit (xs (Int32.toNatClampNeg (x3 + 1))) (xs (Int32.toNatClampNeg (x3 + 2))) S T (fun r1 S1 T1 => (vp_in (x3 + 1) L ∧ (vp_in (x3 + 2) L ∧ wp_11_setDigit (xs (Int32.toNatClampNeg (x3 + 1))) (xs (Int32.toNatClampNeg (x3 + 2))) U V (fun r2 U2 V2 => (if r1 = r2 then wb_12_law_819 xs L K18 x3 S1 T1 U2 V2 else False))))))) else (if ((xs (Int32.toNatClampNeg x3)) &&& 31) = 1 then (vp_in (x3 + 1) L ∧ wp_10_setObliging (xs (Int32.toNatClampNeg (x3 + 1))) S T (fun r3 S3 T3 => (vp_in (x3 + 1) L ∧ wp_11_setObliging (xs (Int32.toNatClampNeg (x3 + 1))) U V (fun r4 U4 V4 => (if r3 = r4 then wb_12_law_819 xs L K18 x3 S3 T3 U4 V4 else False))))) else (if ((xs (Int32.toNatClampNeg x3)) &&& 31) = 2 then (vp_in (x3 + 1) L ∧ wp_10_setGrowing (xs (Int32.toNatClampNeg (x3 + 1))) S T (fun r5 S5 T5 => (vp_in (x3 + 1) L ∧ wp_11_setGrowing (xs (Int32.toNatClampNeg (x3 + 1))) U V (fun r6 U6 V6 => (if r5 = r6 then wb_12_law_819 xs L K18 x3 S5 T5 U6 V6 else False))))) else (if ((xs (Int32.toNatClampNeg x3)) &&& 31) = 3 then (vp_in (x3 + 1) L ∧ (if (xs (Int32.toNatClampNeg (x3 + 1))) = 0 then wb_12_law_253 xs L K18 x3 0 S T U V else wb_12_law_253 xs L K18 x3 1 S T U V)) else (if ((xs (Int32.toNatClampNeg x3)) &&& 31) = 4 then (vp_in (x3 + 1) L ∧ wp_10_type (xs (Int32.toNatClampNeg (x3 + 1))) S T (fun r9 S9 T9 => (vp_in (x3 + 1) L ∧ wp_11_type (xs (Int32.toNatClampNeg (x3 + 1))) U V (fun r10 U10 V10 => (if r9 = r10 then wb_12_law_819 xs L K18 x3 S9 T9 U10 V10 else False))))) else (if ((xs (Int32.toNatClampNeg x3)) &&& 31) = 5 then wp_10_erase S T (fun r11 S11 T11 => wp_11_erase U V (fun r12 U12 V12 => (if r11 = r12 then wb_12_law_819 xs L K18 x3 S11 T11 U12 V12 else False))) else (if ((xs (Int32.toNatClampNeg x3)) &&& 31) = 6 then wp_10_readRules S T (fun r13 S13 T13 => wp_11_readRules U V (fun r14 U14 V14 => (if r13 = r14 then wb_12_law_819 xs L K18 x3 S13 T13 U14 V14 else False))) else (if ((xs (Int32.toNatClampNeg x3)) &&& 31) = 7 then (vp_in (x3 + 1) L ∧ wp_10_rule (xs (Int32.toNatClampNeg (x3 + 1))) S T (fun r15 S15 T15 => (vp_in (x3 + 1) L ∧ wp_11_rule (xs (Int32.toNatClampNeg (x3 + 1))) U V (fun r16 U16 V16 => (if r15 = r16 then wb_12_law_819 xs L K18 x3 S15 T15 U16 V16 else False))))) else (if ((xs (Int32.toNatClampNeg x3)) &&& 31) = 8 then (vp_in (x3 + 1) L ∧ wp_10_place (xs (Int32.toNatClampNeg (x3 + 1))) S T (fun r17 S17 T17 => (vp_in (x3 + 1) L ∧ wp_11_place (xs (Int32.toNatClampNeg (x3 + 1))) U V (fun r18 U18 V18 => (if r17 = r18 then wb_12_law_819 xs L K18 x3 S17 T17 U18 V18 else False))))) else (if ((xs (Int32.toNatClampNeg x3)) &&& 31) = 9 then (vp_in (x3 + 1) L ∧ wp_10_lift (xs (Int32.toNatClampNeg (x3 + 1))) S T (fun r19 S19 T19 => (vp_in (x3 + 1) L ∧ wp_11_lift (xs (Int32.toNatClampNeg (x3 + 1))) U V (fun r20 U20 V20 => (if r19 = r20 then wb_12_law_819 xs L K18 x3 S19 T19 U20 V20 else False))))) else (if ((xs (Int32.toNatClampNeg x3)) &&& 31) = 10 then (vp_in (x3 + 1) L ∧ (if (xs (Int32.toNatClampNeg (x3 + 1))) = 0 then wb_12_law_410 xs L K18 x3 0 S T U V else wb_12_law_410 xs L K18 x3 1 S T U V)) else (if ((xs (Int32.toNatClampNeg x3)) &&& 31) = 11 then wp_10_readPosition S T (fun r23 S23 T23 => wp_11_readPosition U V (fun r24 U24 V24 => (if r23 = r24 then wb_12_law_819 xs L K18 x3 S23 T23 U24 V24 else False))) else (if ((xs (Int32.toNatClampNeg x3)) &&& 31) = 12 then (vp_in (x3 + 1) L ∧ (vp_in (x3 + 2) L ∧ wp_10_heap (xs (Int32.toNatClampNeg (x3 + 1))) (xs (Int32.toNatClampNeg (x3 + 2))) S T (fun r25 S25 T25 => (vp_in (x3 + 1) L ∧ (vp_in (x3 + 2) L ∧ wp_11_heap (xs (Int32.toNatClampNeg (x3 + 1))) (xs (Int32.toNatClampNeg (x3 + 2))) U V (fun r26 U26 V26 => (if r25 = r26 then wb_12_law_819 xs L K18 x3 S25 T25 U26 V26 else False))))))) else (if ((xs (Int32.toNatClampNeg x3)) &&& 31) = 13 then wp_10_undo S T (fun r27 S27 T27 => wp_11_undo U V (fun r28 U28 V28 => (if r27 = r28 then wb_12_law_819 xs L K18 x3 S27 T27 U28 V28 else False))) else (if ((xs (Int32.toNatClampNeg x3)) &&& 31) = 14 then (vp_in (x3 + 1) L ∧ (vp_in (x3 + 2) L ∧ wp_10_move (xs (Int32.toNatClampNeg (x3 + 1))) (xs (Int32.toNatClampNeg (x3 + 2))) S T (fun r29 S29 T29 => (vp_in (x3 + 1) L ∧ (vp_in (x3 + 2) L ∧ wp_11_move (xs (Int32.toNatClampNeg (x3 + 1))) (xs (Int32.toNatClampNeg (x3 + 2))) U V (fun r30 U30 V30 => (if r29 = r30 then wb_12_law_819 xs L K18 x3 S29 T29 U30 V30 else False))))))) else (if ((xs (Int32.toNatClampNeg x3)) &&& 31) = 15 then (vp_in (x3 + 1) L ∧ wp_10_play (xs (Int32.toNatClampNeg (x3 + 1))) S T (fun r31 S31 T31 => (vp_in (x3 + 1) L ∧ wp_11_play (xs (Int32.toNatClampNeg (x3 + 1))) U V (fun r32 U32 V32 => (if r31 = r32 then wb_12_law_819 xs L K18 x3 S31 T31 U32 V32 else False))))) else (if ((xs (Int32.toNatClampNeg x3)) &&& 31) = 16 then wp_10_outcome S T (fun r33 S33 T33 => wp_11_outcome U V (fun r34 U34 V34 => (if r33 = r34 then wb_12_law_819 xs L K18 x3 S33 T33 U34 V34 else False))) else (if ((xs (Int32.toNatClampNeg x3)) &&& 31) = 17 then wp_10_distance S T (fun r35 S35 T35 => wp_11_distance U V (fun r36 U36 V36 => (if r35 = r36 then wb_12_law_819 xs L K18 x3 S35 T35 U36 V36 else False))) else (if ((xs (Int32.toNatClampNeg x3)) &&& 31) = 18 then wp_10_best S T (fun r37 S37 T37 => wp_11_best U V (fun r38 U38 V38 => (if r37 = r38 then wb_12_law_819 xs L K18 x3 S37 T37 U38 V38 else False))) else (if ((xs (Int32.toNatClampNeg x3)) &&& 31) = 19 then wp_10_good S T (fun r39 S39 T39 => wp_11_good U V (fun r40 U40 V40 => (if r39 = r40 then wb_12_law_819 xs L K18 x3 S39 T39 U40 V40 else False))) else (if ((xs (Int32.toNatClampNeg x3)) &&& 31) = 20 then (vp_in (x3 + 1) L ∧ wp_10_playOut (xs (Int32.toNatClampNeg (x3 + 1))) S T (fun r41 S41 T41 => (vp_in (x3 + 1) L ∧ wp_11_playOut (xs (Int32.toNatClampNeg (x3 + 1))) U V (fun r42 U42 V42 => (if r41 = r42 then wb_12_law_819 xs L K18 x3 S41 T41 U42 V42 else False))))) else (if ((xs (Int32.toNatClampNeg x3)) &&& 31) = 21 then (vp_in (x3 + 1) L ∧ (if (xs (Int32.toNatClampNeg (x3 + 1))) = 0 then wb_12_law_639 xs L K18 x3 0 S T U V else wb_12_law_639 xs L K18 x3 1 S T U V)) else (if ((xs (Int32.toNatClampNeg x3)) &&& 31) = 22 then (vp_in (x3 + 1) L ∧ (vp_in (x3 + 2) L ∧ (if (xs (Int32.toNatClampNeg (x3 + 2))) = 0 then wb_12_law_683 xs L K18 x3 0 (xs (Int32.toNatClampNeg (x3 + 1))) S T U V else wb_12_law_683 xs L K18 x3 1 (xs (Int32.toNatClampNeg (x3 + 1))) S T U V))) else (if ((xs (Int32.toNatClampNeg x3)) &&& 31) = 23 then (vp_in (x3 + 1) L ∧ wp_10_grundy (xs (Int32.toNatClampNeg (x3 + 1))) S T (fun r47 S47 T47 => (vp_in (x3 + 1) L ∧ wp_11_grundy (xs (Int32.toNatClampNeg (x3 + 1))) U V (fun r48 U48 V48 => (if r47 = r48 then wb_12_law_819 xs L K18 x3 S47 T47 U48 V48 else False))))) else (if ((xs (Int32.toNatClampNeg x3)) &&& 31) = 24 then wp_10_nimSum S T (fun r49 S49 T49 => wp_11_nimSum U V (fun r50 U50 V50 => (if r49 = r50 then wb_12_law_819 xs L K18 x3 S49 T49 U50 V50 else False))) else (if ((xs (Int32.toNatClampNeg x3)) &&& 31) = 25 then (vp_in (x3 + 1) L ∧ wp_10_period (xs (Int32.toNatClampNeg (x3 + 1))) S T (fun r51 S51 T51 => (vp_in (x3 + 1) L ∧ wp_11_period (xs (Int32.toNatClampNeg (x3 + 1))) U V (fun r52 U52 V52 => (if r51 = r52 then wb_12_law_819 xs L K18 x3 S51 T51 U52 V52 else False))))) else (if ((xs (Int32.toNatClampNeg x3)) &&& 31) = 26 then (vp_in (x3 + 1) L ∧ wp_10_count (xs (Int32.toNatClampNeg (x3 + 1))) S T (fun r53 S53 T53 => (vp_in (x3 + 1) L ∧ wp_11_count (xs (Int32.toNatClampNeg (x3 + 1))) U V (fun r54 U54 V54 => (if r53 = r54 then wb_12_law_819 xs L K18 x3 S53 T53 U54 V54 else False))))) else (if ((xs (Int32.toNatClampNeg x3)) &&& 31) = 27 then wp_10_digest S T (fun r55 S55 T55 => wp_11_digest U V (fun r56 U56 V56 => (if (lg_cmp r55 r56) = 0 then wb_12_law_819 xs L K18 x3 S55 T55 U56 V56 else False))) else wb_12_law_819 xs L K18 x3 S T U V))))))))))))))))))))))))))))))
set_option maxHeartbeats 8000000 in
set_option maxRecDepth 40000 in
theorem bk_12_law_18 {K18 : Int32 → hm_S → hm_T → hm_S → hm_T → Prop} (cx : hm_cx G p s m #[Value.ref b] c code 4 "HeapGamesLaw") (hJ0 : hm_Jh adK adV o s.heap s) (ho : o = s.heap.size) (hX : va_X b L xs s s.heap) (hbl : b < s.heap.size) (hr : meth.sig.returnType = ret) (hlk : meth.locks = false) (k18 : ∀ (x3 : Int32) (S : hm_S) (T : hm_T) (U : hm_S) (V : hm_T) (H : Heap) (locs : List Loc) (ls : Array Slot), K18 x3 S T U V → lw_B G s.heap o S T U V H → hm_Lc o locs → lv_has ls 4 [(0, .ref b), (1, .ref (o + 0)), (2, .ref (o + 74 + 0)), (3, .int x3)] → W p l e room_1 s m #[Value.ref b] below meth c H locs 97 211894 (lw_Z below #[Value.ref b] s) (F0 m 18 ls [])) {x3 : Int32} {S : hm_S} {T : hm_T} {U : hm_S} {V : hm_T} {H : Heap} {locs : List Loc} {ls : Array Slot} (h : wb_12_law_18 xs L K18 x3 S T U V) (hB : lw_B G s.heap o S T U V H) (hL : hm_Lc o locs) (hl : lv_has ls 4 [(0, .ref b), (1, .ref (o + 0)), (2, .ref (o + 74 + 0)), (3, .int x3)]) : W p l e room_1 s m #[Value.ref b] below meth c H locs 97 211894 (lw_Z below #[Value.ref b] s) (F0 m 18 ls []) := by
  have hx := cx.1.1
  have hb := cx.1.2.1
  have hbA : ¬ hm_ge o b := by rw [ho]; exact Nat.not_le.mpr hbl
  unfold wb_12_law_18 at h
  refine lv_iload_n hx hb d_12_law_18 rfl (lv_at hl 3 rfl) ?_
  refine lv_aload_n hx hb d_12_law_19 rfl (lv_at hl 0 rfl) ?_
  refine va_slen hx hb hX hbl hbA (hB.vs hL) d_12_law_20 ?_
  refine lv_iconst (v := 4) hx hb d_12_law_21 (by decide) ?_
  refine lv_isub hx hb d_12_law_22 ?_
  refine lv_icmp_gt (tgt := 825) hx hb d_12_law_23 (by decide) (fun hc => ?_) (fun hc => ?_)
  · replace h := hm_pos hc h
    exact bk_12_law_825 cx hJ0 ho hX hbl hr hlk h hB hL (lv_sub hl [] rfl)
  · replace h := hm_neg hc h
    refine lv_aload_n hx hb d_12_law_26 rfl (lv_at hl 0 rfl) ?_
    refine lv_iload_n hx hb d_12_law_27 rfl (lv_at hl 3 rfl) ?_
    obtain ⟨hj, h⟩ := h
    refine va_sld hx hb hX hbl hbA (hB.vs hL) hj d_12_law_28 ?_
    refine lv_bipush (v := 31) hx hb d_12_law_29 (by decide) ?_
    refine lv_iand hx hb d_12_law_31 ?_
    refine hm_cs (x := ((xs (Int32.toNatClampNeg x3)) &&& 31)) (v := 0) (fun hc => ?_) (fun hc0 => ?_)
    · replace h := hm_pos hc h
      refine lv_tableIn (tgt := 160) (off := 128) hx hb d_12_law_32 (by rw [hc]; decide) (by rw [hc]; decide) (by rw [hc]; rfl) (by decide) ?_
      refine lv_aload_n hx hb d_12_law_160 rfl (lv_at hl 1 rfl) ?_
      refine lv_aload_n hx hb d_12_law_161 rfl (lv_at hl 0 rfl) ?_
      refine lv_iload_n hx hb d_12_law_162 rfl (lv_at hl 3 rfl) ?_
      refine lv_iconst (v := 1) hx hb d_12_law_163 (by decide) ?_
      refine lv_iadd hx hb d_12_law_164 ?_
      obtain ⟨hj, h⟩ := h
      refine va_sld hx hb hX hbl hbA (hB.vs hL) hj d_12_law_165 ?_
      refine lv_aload_n hx hb d_12_law_166 rfl (lv_at hl 0 rfl) ?_
      refine lv_iload_n hx hb d_12_law_167 rfl (lv_at hl 3 rfl) ?_
      refine lv_iconst (v := 2) hx hb d_12_law_168 (by decide) ?_
      refine lv_iadd hx hb d_12_law_169 ?_
      obtain ⟨hj, h⟩ := h
      refine va_sld hx hb hX hbl hbA (hB.vs hL) hj d_12_law_170 ?_
      refine lw_callXi (hr := hm_rV (i := 0) (As := [.int (xs (Int32.toNatClampNeg (x3 + 1))), .int (xs (Int32.toNatClampNeg (x3 + 2)))]) (rest := []) cx hB.1 (ct_10_setDigit h) (mw_12_13 cx.1.2.2.2.2 ⟨Nat.le_of_ble_eq_true rfl, Nat.le_of_ble_eq_true rfl⟩) (by decide) sx_0 rfl rfl hl.1 rfl (Nat.le_of_ble_eq_true rfl) d_12_law_171 ⟨Nat.le_of_ble_eq_true rfl, Nat.le_of_ble_eq_true rfl⟩) hB hL (fun r1 S1 T1 H locs h hB hL => ?_)
      refine lv_aload_n hx hb d_12_law_174 rfl (lv_at hl 2 rfl) ?_
      refine lv_aload_n hx hb d_12_law_175 rfl (lv_at hl 0 rfl) ?_
      refine lv_iload_n hx hb d_12_law_176 rfl (lv_at hl 3 rfl) ?_
      refine lv_iconst (v := 1) hx hb d_12_law_177 (by decide) ?_
      refine lv_iadd hx hb d_12_law_178 ?_
      obtain ⟨hj, h⟩ := h
      refine va_sld hx hb hX hbl hbA (hB.vs hL) hj d_12_law_179 ?_
      refine lv_aload_n hx hb d_12_law_180 rfl (lv_at hl 0 rfl) ?_
      refine lv_iload_n hx hb d_12_law_181 rfl (lv_at hl 3 rfl) ?_
      refine lv_iconst (v := 2) hx hb d_12_law_182 (by decide) ?_
      refine lv_iadd hx hb d_12_law_183 ?_
      obtain ⟨hj, h⟩ := h
      refine va_sld hx hb hX hbl hbA (hB.vs hL) hj d_12_law_184 ?_
      refine lw_callMi (hr := hm_rV (i := 0) (As := [.int (xs (Int32.toNatClampNeg (x3 + 1))), .int (xs (Int32.toNatClampNeg (x3 + 2)))]) (rest := [.int r1]) cx hB.2.1 (ct_11_setDigit h) (mw_12_17 cx.1.2.2.2.2 ⟨Nat.le_of_ble_eq_true rfl, Nat.le_of_ble_eq_true rfl⟩) (by decide) sm_0 rfl rfl hl.1 rfl (Nat.le_of_ble_eq_true rfl) d_12_law_185 ⟨Nat.le_of_ble_eq_true rfl, Nat.le_of_ble_eq_true rfl⟩) hB hL (fun r2 U2 V2 H locs h hB hL => ?_)
      refine lv_icmp_eq (tgt := 819) hx hb d_12_law_188 (by decide) (fun hc => ?_) (fun hc => ?_)
      · replace h := hm_pos hc h
        exact bk_12_law_819 cx hJ0 ho hX hbl hr hlk k18 h hB hL (lv_sub hl [0, 1, 2, 3] rfl)
      · replace h := hm_neg hc h
        refine lv_iconst (v := 0) hx hb d_12_law_191 (by decide) ?_
        exact h.elim
    replace h := hm_neg hc0 h
    refine hm_cs (x := ((xs (Int32.toNatClampNeg x3)) &&& 31)) (v := 1) (fun hc => ?_) (fun hc1 => ?_)
    · replace h := hm_pos hc h
      refine lv_tableIn (tgt := 193) (off := 161) hx hb d_12_law_32 (by rw [hc]; decide) (by rw [hc]; decide) (by rw [hc]; rfl) (by decide) ?_
      refine lv_aload_n hx hb d_12_law_193 rfl (lv_at hl 1 rfl) ?_
      refine lv_aload_n hx hb d_12_law_194 rfl (lv_at hl 0 rfl) ?_
      refine lv_iload_n hx hb d_12_law_195 rfl (lv_at hl 3 rfl) ?_
      refine lv_iconst (v := 1) hx hb d_12_law_196 (by decide) ?_
      refine lv_iadd hx hb d_12_law_197 ?_
      obtain ⟨hj, h⟩ := h
      refine va_sld hx hb hX hbl hbA (hB.vs hL) hj d_12_law_198 ?_
      refine lw_callXi (hr := hm_rV (i := 0) (As := [.int (xs (Int32.toNatClampNeg (x3 + 1)))]) (rest := []) cx hB.1 (ct_10_setObliging h) (mw_12_18 cx.1.2.2.2.2 ⟨Nat.le_of_ble_eq_true rfl, Nat.le_of_ble_eq_true rfl⟩) (by decide) sx_0 rfl rfl hl.1 rfl (Nat.le_of_ble_eq_true rfl) d_12_law_199 ⟨Nat.le_of_ble_eq_true rfl, Nat.le_of_ble_eq_true rfl⟩) hB hL (fun r3 S3 T3 H locs h hB hL => ?_)
      refine lv_aload_n hx hb d_12_law_202 rfl (lv_at hl 2 rfl) ?_
      refine lv_aload_n hx hb d_12_law_203 rfl (lv_at hl 0 rfl) ?_
      refine lv_iload_n hx hb d_12_law_204 rfl (lv_at hl 3 rfl) ?_
      refine lv_iconst (v := 1) hx hb d_12_law_205 (by decide) ?_
      refine lv_iadd hx hb d_12_law_206 ?_
      obtain ⟨hj, h⟩ := h
      refine va_sld hx hb hX hbl hbA (hB.vs hL) hj d_12_law_207 ?_
      refine lw_callMi (hr := hm_rV (i := 0) (As := [.int (xs (Int32.toNatClampNeg (x3 + 1)))]) (rest := [.int r3]) cx hB.2.1 (ct_11_setObliging h) (mw_12_22 cx.1.2.2.2.2 ⟨Nat.le_of_ble_eq_true rfl, Nat.le_of_ble_eq_true rfl⟩) (by decide) sm_0 rfl rfl hl.1 rfl (Nat.le_of_ble_eq_true rfl) d_12_law_208 ⟨Nat.le_of_ble_eq_true rfl, Nat.le_of_ble_eq_true rfl⟩) hB hL (fun r4 U4 V4 H locs h hB hL => ?_)
      refine lv_icmp_eq (tgt := 819) hx hb d_12_law_211 (by decide) (fun hc => ?_) (fun hc => ?_)
      · replace h := hm_pos hc h
        exact bk_12_law_819 cx hJ0 ho hX hbl hr hlk k18 h hB hL (lv_sub hl [0, 1, 2, 3] rfl)
      · replace h := hm_neg hc h
        refine lv_iconst (v := 0) hx hb d_12_law_214 (by decide) ?_
        exact h.elim
    replace h := hm_neg hc1 h
    refine hm_cs (x := ((xs (Int32.toNatClampNeg x3)) &&& 31)) (v := 2) (fun hc => ?_) (fun hc2 => ?_)
    · replace h := hm_pos hc h
      refine lv_tableIn (tgt := 216) (off := 184) hx hb d_12_law_32 (by rw [hc]; decide) (by rw [hc]; decide) (by rw [hc]; rfl) (by decide) ?_
      refine lv_aload_n hx hb d_12_law_216 rfl (lv_at hl 1 rfl) ?_
      refine lv_aload_n hx hb d_12_law_217 rfl (lv_at hl 0 rfl) ?_
      refine lv_iload_n hx hb d_12_law_218 rfl (lv_at hl 3 rfl) ?_
      refine lv_iconst (v := 1) hx hb d_12_law_219 (by decide) ?_
      refine lv_iadd hx hb d_12_law_220 ?_
      obtain ⟨hj, h⟩ := h
      refine va_sld hx hb hX hbl hbA (hB.vs hL) hj d_12_law_221 ?_
      refine lw_callXi (hr := hm_rV (i := 0) (As := [.int (xs (Int32.toNatClampNeg (x3 + 1)))]) (rest := []) cx hB.1 (ct_10_setGrowing h) (mw_12_23 cx.1.2.2.2.2 ⟨Nat.le_of_ble_eq_true rfl, Nat.le_of_ble_eq_true rfl⟩) (by decide) sx_0 rfl rfl hl.1 rfl (Nat.le_of_ble_eq_true rfl) d_12_law_222 ⟨Nat.le_of_ble_eq_true rfl, Nat.le_of_ble_eq_true rfl⟩) hB hL (fun r5 S5 T5 H locs h hB hL => ?_)
      refine lv_aload_n hx hb d_12_law_225 rfl (lv_at hl 2 rfl) ?_
      refine lv_aload_n hx hb d_12_law_226 rfl (lv_at hl 0 rfl) ?_
      refine lv_iload_n hx hb d_12_law_227 rfl (lv_at hl 3 rfl) ?_
      refine lv_iconst (v := 1) hx hb d_12_law_228 (by decide) ?_
      refine lv_iadd hx hb d_12_law_229 ?_
      obtain ⟨hj, h⟩ := h
      refine va_sld hx hb hX hbl hbA (hB.vs hL) hj d_12_law_230 ?_
      refine lw_callMi (hr := hm_rV (i := 0) (As := [.int (xs (Int32.toNatClampNeg (x3 + 1)))]) (rest := [.int r5]) cx hB.2.1 (ct_11_setGrowing h) (mw_12_26 cx.1.2.2.2.2 ⟨Nat.le_of_ble_eq_true rfl, Nat.le_of_ble_eq_true rfl⟩) (by decide) sm_0 rfl rfl hl.1 rfl (Nat.le_of_ble_eq_true rfl) d_12_law_231 ⟨Nat.le_of_ble_eq_true rfl, Nat.le_of_ble_eq_true rfl⟩) hB hL (fun r6 U6 V6 H locs h hB hL => ?_)
      refine lv_icmp_eq (tgt := 819) hx hb d_12_law_234 (by decide) (fun hc => ?_) (fun hc => ?_)
      · replace h := hm_pos hc h
        exact bk_12_law_819 cx hJ0 ho hX hbl hr hlk k18 h hB hL (lv_sub hl [0, 1, 2, 3] rfl)
      · replace h := hm_neg hc h
        refine lv_iconst (v := 0) hx hb d_12_law_237 (by decide) ?_
        exact h.elim
    replace h := hm_neg hc2 h
    refine hm_cs (x := ((xs (Int32.toNatClampNeg x3)) &&& 31)) (v := 3) (fun hc => ?_) (fun hc3 => ?_)
    · replace h := hm_pos hc h
      refine lv_tableIn (tgt := 239) (off := 207) hx hb d_12_law_32 (by rw [hc]; decide) (by rw [hc]; decide) (by rw [hc]; rfl) (by decide) ?_
      refine lv_aload_n hx hb d_12_law_239 rfl (lv_at hl 1 rfl) ?_
      refine lv_aload_n hx hb d_12_law_240 rfl (lv_at hl 0 rfl) ?_
      refine lv_iload_n hx hb d_12_law_241 rfl (lv_at hl 3 rfl) ?_
      refine lv_iconst (v := 1) hx hb d_12_law_242 (by decide) ?_
      refine lv_iadd hx hb d_12_law_243 ?_
      obtain ⟨hj, h⟩ := h
      refine va_sld hx hb hX hbl hbA (hB.vs hL) hj d_12_law_244 ?_
      refine lv_if_eq (tgt := 252) hx hb d_12_law_245 (by decide) (fun hc => ?_) (fun hc => ?_)
      · replace h := hm_pos hc h
        refine lv_iconst (v := 0) hx hb d_12_law_252 (by decide) ?_
        exact bk_12_law_253 cx hJ0 ho hX hbl hr hlk k18 h hB hL (lv_sub hl [0, 1, 2, 3] rfl)
      · replace h := hm_neg hc h
        refine lv_iconst (v := 1) hx hb d_12_law_248 (by decide) ?_
        refine lv_goto (tgt := 253) hx hb d_12_law_249 (by decide) ?_
        exact bk_12_law_253 cx hJ0 ho hX hbl hr hlk k18 h hB hL (lv_sub hl [0, 1, 2, 3] rfl)
    replace h := hm_neg hc3 h
    refine hm_cs (x := ((xs (Int32.toNatClampNeg x3)) &&& 31)) (v := 4) (fun hc => ?_) (fun hc4 => ?_)
    · replace h := hm_pos hc h
      refine lv_tableIn (tgt := 278) (off := 246) hx hb d_12_law_32 (by rw [hc]; decide) (by rw [hc]; decide) (by rw [hc]; rfl) (by decide) ?_
      refine lv_aload_n hx hb d_12_law_278 rfl (lv_at hl 1 rfl) ?_
      refine lv_aload_n hx hb d_12_law_279 rfl (lv_at hl 0 rfl) ?_
      refine lv_iload_n hx hb d_12_law_280 rfl (lv_at hl 3 rfl) ?_
      refine lv_iconst (v := 1) hx hb d_12_law_281 (by decide) ?_
      refine lv_iadd hx hb d_12_law_282 ?_
      obtain ⟨hj, h⟩ := h
      refine va_sld hx hb hX hbl hbA (hB.vs hL) hj d_12_law_283 ?_
      refine lw_callXi (hr := hm_rV (i := 0) (As := [.int (xs (Int32.toNatClampNeg (x3 + 1)))]) (rest := []) cx hB.1 (ct_10_type h) (mw_12_32 cx.1.2.2.2.2 ⟨Nat.le_of_ble_eq_true rfl, Nat.le_of_ble_eq_true rfl⟩) (by decide) sx_0 rfl rfl hl.1 rfl (Nat.le_of_ble_eq_true rfl) d_12_law_284 ⟨Nat.le_of_ble_eq_true rfl, Nat.le_of_ble_eq_true rfl⟩) hB hL (fun r9 S9 T9 H locs h hB hL => ?_)
      refine lv_aload_n hx hb d_12_law_287 rfl (lv_at hl 2 rfl) ?_
      refine lv_aload_n hx hb d_12_law_288 rfl (lv_at hl 0 rfl) ?_
      refine lv_iload_n hx hb d_12_law_289 rfl (lv_at hl 3 rfl) ?_
      refine lv_iconst (v := 1) hx hb d_12_law_290 (by decide) ?_
      refine lv_iadd hx hb d_12_law_291 ?_
      obtain ⟨hj, h⟩ := h
      refine va_sld hx hb hX hbl hbA (hB.vs hL) hj d_12_law_292 ?_
      refine lw_callMi (hr := hm_rV (i := 0) (As := [.int (xs (Int32.toNatClampNeg (x3 + 1)))]) (rest := [.int r9]) cx hB.2.1 (ct_11_type h) (mw_12_35 cx.1.2.2.2.2 ⟨Nat.le_of_ble_eq_true rfl, Nat.le_of_ble_eq_true rfl⟩) (by decide) sm_0 rfl rfl hl.1 rfl (Nat.le_of_ble_eq_true rfl) d_12_law_293 ⟨Nat.le_of_ble_eq_true rfl, Nat.le_of_ble_eq_true rfl⟩) hB hL (fun r10 U10 V10 H locs h hB hL => ?_)
      refine lv_icmp_eq (tgt := 819) hx hb d_12_law_296 (by decide) (fun hc => ?_) (fun hc => ?_)
      · replace h := hm_pos hc h
        exact bk_12_law_819 cx hJ0 ho hX hbl hr hlk k18 h hB hL (lv_sub hl [0, 1, 2, 3] rfl)
      · replace h := hm_neg hc h
        refine lv_iconst (v := 0) hx hb d_12_law_299 (by decide) ?_
        exact h.elim
    replace h := hm_neg hc4 h
    refine hm_cs (x := ((xs (Int32.toNatClampNeg x3)) &&& 31)) (v := 5) (fun hc => ?_) (fun hc5 => ?_)
    · replace h := hm_pos hc h
      refine lv_tableIn (tgt := 301) (off := 269) hx hb d_12_law_32 (by rw [hc]; decide) (by rw [hc]; decide) (by rw [hc]; rfl) (by decide) ?_
      refine lv_aload_n hx hb d_12_law_301 rfl (lv_at hl 1 rfl) ?_
      refine lw_callXi (hr := hm_rV (i := 0) (As := []) (rest := []) cx hB.1 (ct_10_erase h) (mw_12_36 cx.1.2.2.2.2 ⟨Nat.le_of_ble_eq_true rfl, Nat.le_of_ble_eq_true rfl⟩) (by decide) sx_0 rfl rfl hl.1 rfl (Nat.le_of_ble_eq_true rfl) d_12_law_302 ⟨Nat.le_of_ble_eq_true rfl, Nat.le_of_ble_eq_true rfl⟩) hB hL (fun r11 S11 T11 H locs h hB hL => ?_)
      refine lv_aload_n hx hb d_12_law_305 rfl (lv_at hl 2 rfl) ?_
      refine lw_callMi (hr := hm_rV (i := 0) (As := []) (rest := [.int r11]) cx hB.2.1 (ct_11_erase h) (mw_12_40 cx.1.2.2.2.2 ⟨Nat.le_of_ble_eq_true rfl, Nat.le_of_ble_eq_true rfl⟩) (by decide) sm_0 rfl rfl hl.1 rfl (Nat.le_of_ble_eq_true rfl) d_12_law_306 ⟨Nat.le_of_ble_eq_true rfl, Nat.le_of_ble_eq_true rfl⟩) hB hL (fun r12 U12 V12 H locs h hB hL => ?_)
      refine lv_icmp_eq (tgt := 819) hx hb d_12_law_309 (by decide) (fun hc => ?_) (fun hc => ?_)
      · replace h := hm_pos hc h
        exact bk_12_law_819 cx hJ0 ho hX hbl hr hlk k18 h hB hL (lv_sub hl [0, 1, 2, 3] rfl)
      · replace h := hm_neg hc h
        refine lv_iconst (v := 0) hx hb d_12_law_312 (by decide) ?_
        exact h.elim
    replace h := hm_neg hc5 h
    refine hm_cs (x := ((xs (Int32.toNatClampNeg x3)) &&& 31)) (v := 6) (fun hc => ?_) (fun hc6 => ?_)
    · replace h := hm_pos hc h
      refine lv_tableIn (tgt := 314) (off := 282) hx hb d_12_law_32 (by rw [hc]; decide) (by rw [hc]; decide) (by rw [hc]; rfl) (by decide) ?_
      refine lv_aload_n hx hb d_12_law_314 rfl (lv_at hl 1 rfl) ?_
      refine lw_callXi (hr := hm_rVJ (i := 0) (As := []) (rest := []) (hB.J hJ0) cx hB.1 (ct_10_readRules h) (mw_12_41 cx.1.2.2.2.2 ⟨Nat.le_of_ble_eq_true rfl, Nat.le_of_ble_eq_true rfl⟩) (by decide) sx_0 rfl rfl hl.1 rfl (Nat.le_of_ble_eq_true rfl) d_12_law_315 ⟨Nat.le_of_ble_eq_true rfl, Nat.le_of_ble_eq_true rfl⟩) hB hL (fun r13 S13 T13 H locs h hB hL => ?_)
      refine lv_aload_n hx hb d_12_law_318 rfl (lv_at hl 2 rfl) ?_
      refine lw_callMi (hr := hm_rV (i := 0) (As := []) (rest := [.int r13]) cx hB.2.1 (ct_11_readRules h) (mw_12_44 cx.1.2.2.2.2 ⟨Nat.le_of_ble_eq_true rfl, Nat.le_of_ble_eq_true rfl⟩) (by decide) sm_0 rfl rfl hl.1 rfl (Nat.le_of_ble_eq_true rfl) d_12_law_319 ⟨Nat.le_of_ble_eq_true rfl, Nat.le_of_ble_eq_true rfl⟩) hB hL (fun r14 U14 V14 H locs h hB hL => ?_)
      refine lv_icmp_eq (tgt := 819) hx hb d_12_law_322 (by decide) (fun hc => ?_) (fun hc => ?_)
      · replace h := hm_pos hc h
        exact bk_12_law_819 cx hJ0 ho hX hbl hr hlk k18 h hB hL (lv_sub hl [0, 1, 2, 3] rfl)
      · replace h := hm_neg hc h
        refine lv_iconst (v := 0) hx hb d_12_law_325 (by decide) ?_
        exact h.elim
    replace h := hm_neg hc6 h
    refine hm_cs (x := ((xs (Int32.toNatClampNeg x3)) &&& 31)) (v := 7) (fun hc => ?_) (fun hc7 => ?_)
    · replace h := hm_pos hc h
      refine lv_tableIn (tgt := 327) (off := 295) hx hb d_12_law_32 (by rw [hc]; decide) (by rw [hc]; decide) (by rw [hc]; rfl) (by decide) ?_
      refine lv_aload_n hx hb d_12_law_327 rfl (lv_at hl 1 rfl) ?_
      refine lv_aload_n hx hb d_12_law_328 rfl (lv_at hl 0 rfl) ?_
      refine lv_iload_n hx hb d_12_law_329 rfl (lv_at hl 3 rfl) ?_
      refine lv_iconst (v := 1) hx hb d_12_law_330 (by decide) ?_
      refine lv_iadd hx hb d_12_law_331 ?_
      obtain ⟨hj, h⟩ := h
      refine va_sld hx hb hX hbl hbA (hB.vs hL) hj d_12_law_332 ?_
      refine lw_callXi (hr := hm_rV (i := 0) (As := [.int (xs (Int32.toNatClampNeg (x3 + 1)))]) (rest := []) cx hB.1 (ct_10_rule h) (mw_12_45 cx.1.2.2.2.2 ⟨Nat.le_of_ble_eq_true rfl, Nat.le_of_ble_eq_true rfl⟩) (by decide) sx_0 rfl rfl hl.1 rfl (Nat.le_of_ble_eq_true rfl) d_12_law_333 ⟨Nat.le_of_ble_eq_true rfl, Nat.le_of_ble_eq_true rfl⟩) hB hL (fun r15 S15 T15 H locs h hB hL => ?_)
      refine lv_aload_n hx hb d_12_law_336 rfl (lv_at hl 2 rfl) ?_
      refine lv_aload_n hx hb d_12_law_337 rfl (lv_at hl 0 rfl) ?_
      refine lv_iload_n hx hb d_12_law_338 rfl (lv_at hl 3 rfl) ?_
      refine lv_iconst (v := 1) hx hb d_12_law_339 (by decide) ?_
      refine lv_iadd hx hb d_12_law_340 ?_
      obtain ⟨hj, h⟩ := h
      refine va_sld hx hb hX hbl hbA (hB.vs hL) hj d_12_law_341 ?_
      refine lw_callMi (hr := hm_rV (i := 0) (As := [.int (xs (Int32.toNatClampNeg (x3 + 1)))]) (rest := [.int r15]) cx hB.2.1 (ct_11_rule h) (mw_12_48 cx.1.2.2.2.2 ⟨Nat.le_of_ble_eq_true rfl, Nat.le_of_ble_eq_true rfl⟩) (by decide) sm_0 rfl rfl hl.1 rfl (Nat.le_of_ble_eq_true rfl) d_12_law_342 ⟨Nat.le_of_ble_eq_true rfl, Nat.le_of_ble_eq_true rfl⟩) hB hL (fun r16 U16 V16 H locs h hB hL => ?_)
      refine lv_icmp_eq (tgt := 819) hx hb d_12_law_345 (by decide) (fun hc => ?_) (fun hc => ?_)
      · replace h := hm_pos hc h
        exact bk_12_law_819 cx hJ0 ho hX hbl hr hlk k18 h hB hL (lv_sub hl [0, 1, 2, 3] rfl)
      · replace h := hm_neg hc h
        refine lv_iconst (v := 0) hx hb d_12_law_348 (by decide) ?_
        exact h.elim
    replace h := hm_neg hc7 h
    refine hm_cs (x := ((xs (Int32.toNatClampNeg x3)) &&& 31)) (v := 8) (fun hc => ?_) (fun hc8 => ?_)
    · replace h := hm_pos hc h
      refine lv_tableIn (tgt := 350) (off := 318) hx hb d_12_law_32 (by rw [hc]; decide) (by rw [hc]; decide) (by rw [hc]; rfl) (by decide) ?_
      refine lv_aload_n hx hb d_12_law_350 rfl (lv_at hl 1 rfl) ?_
      refine lv_aload_n hx hb d_12_law_351 rfl (lv_at hl 0 rfl) ?_
      refine lv_iload_n hx hb d_12_law_352 rfl (lv_at hl 3 rfl) ?_
      refine lv_iconst (v := 1) hx hb d_12_law_353 (by decide) ?_
      refine lv_iadd hx hb d_12_law_354 ?_
      obtain ⟨hj, h⟩ := h
      refine va_sld hx hb hX hbl hbA (hB.vs hL) hj d_12_law_355 ?_
      refine lw_callXi (hr := hm_rV (i := 0) (As := [.int (xs (Int32.toNatClampNeg (x3 + 1)))]) (rest := []) cx hB.1 (ct_10_place h) (mw_12_49 cx.1.2.2.2.2 ⟨Nat.le_of_ble_eq_true rfl, Nat.le_of_ble_eq_true rfl⟩) (by decide) sx_0 rfl rfl hl.1 rfl (Nat.le_of_ble_eq_true rfl) d_12_law_356 ⟨Nat.le_of_ble_eq_true rfl, Nat.le_of_ble_eq_true rfl⟩) hB hL (fun r17 S17 T17 H locs h hB hL => ?_)
      refine lv_aload_n hx hb d_12_law_359 rfl (lv_at hl 2 rfl) ?_
      refine lv_aload_n hx hb d_12_law_360 rfl (lv_at hl 0 rfl) ?_
      refine lv_iload_n hx hb d_12_law_361 rfl (lv_at hl 3 rfl) ?_
      refine lv_iconst (v := 1) hx hb d_12_law_362 (by decide) ?_
      refine lv_iadd hx hb d_12_law_363 ?_
      obtain ⟨hj, h⟩ := h
      refine va_sld hx hb hX hbl hbA (hB.vs hL) hj d_12_law_364 ?_
      refine lw_callMi (hr := hm_rV (i := 0) (As := [.int (xs (Int32.toNatClampNeg (x3 + 1)))]) (rest := [.int r17]) cx hB.2.1 (ct_11_place h) (mw_12_52 cx.1.2.2.2.2 ⟨Nat.le_of_ble_eq_true rfl, Nat.le_of_ble_eq_true rfl⟩) (by decide) sm_0 rfl rfl hl.1 rfl (Nat.le_of_ble_eq_true rfl) d_12_law_365 ⟨Nat.le_of_ble_eq_true rfl, Nat.le_of_ble_eq_true rfl⟩) hB hL (fun r18 U18 V18 H locs h hB hL => ?_)
      refine lv_icmp_eq (tgt := 819) hx hb d_12_law_368 (by decide) (fun hc => ?_) (fun hc => ?_)
      · replace h := hm_pos hc h
        exact bk_12_law_819 cx hJ0 ho hX hbl hr hlk k18 h hB hL (lv_sub hl [0, 1, 2, 3] rfl)
      · replace h := hm_neg hc h
        refine lv_iconst (v := 0) hx hb d_12_law_371 (by decide) ?_
        exact h.elim
    replace h := hm_neg hc8 h
    refine hm_cs (x := ((xs (Int32.toNatClampNeg x3)) &&& 31)) (v := 9) (fun hc => ?_) (fun hc9 => ?_)
    · replace h := hm_pos hc h
      refine lv_tableIn (tgt := 373) (off := 341) hx hb d_12_law_32 (by rw [hc]; decide) (by rw [hc]; decide) (by rw [hc]; rfl) (by decide) ?_
      refine lv_aload_n hx hb d_12_law_373 rfl (lv_at hl 1 rfl) ?_
      refine lv_aload_n hx hb d_12_law_374 rfl (lv_at hl 0 rfl) ?_
      refine lv_iload_n hx hb d_12_law_375 rfl (lv_at hl 3 rfl) ?_
      refine lv_iconst (v := 1) hx hb d_12_law_376 (by decide) ?_
      refine lv_iadd hx hb d_12_law_377 ?_
      obtain ⟨hj, h⟩ := h
      refine va_sld hx hb hX hbl hbA (hB.vs hL) hj d_12_law_378 ?_
      refine lw_callXi (hr := hm_rV (i := 0) (As := [.int (xs (Int32.toNatClampNeg (x3 + 1)))]) (rest := []) cx hB.1 (ct_10_lift h) (mw_12_53 cx.1.2.2.2.2 ⟨Nat.le_of_ble_eq_true rfl, Nat.le_of_ble_eq_true rfl⟩) (by decide) sx_0 rfl rfl hl.1 rfl (Nat.le_of_ble_eq_true rfl) d_12_law_379 ⟨Nat.le_of_ble_eq_true rfl, Nat.le_of_ble_eq_true rfl⟩) hB hL (fun r19 S19 T19 H locs h hB hL => ?_)
      refine lv_aload_n hx hb d_12_law_382 rfl (lv_at hl 2 rfl) ?_
      refine lv_aload_n hx hb d_12_law_383 rfl (lv_at hl 0 rfl) ?_
      refine lv_iload_n hx hb d_12_law_384 rfl (lv_at hl 3 rfl) ?_
      refine lv_iconst (v := 1) hx hb d_12_law_385 (by decide) ?_
      refine lv_iadd hx hb d_12_law_386 ?_
      obtain ⟨hj, h⟩ := h
      refine va_sld hx hb hX hbl hbA (hB.vs hL) hj d_12_law_387 ?_
      refine lw_callMi (hr := hm_rV (i := 0) (As := [.int (xs (Int32.toNatClampNeg (x3 + 1)))]) (rest := [.int r19]) cx hB.2.1 (ct_11_lift h) (mw_12_56 cx.1.2.2.2.2 ⟨Nat.le_of_ble_eq_true rfl, Nat.le_of_ble_eq_true rfl⟩) (by decide) sm_0 rfl rfl hl.1 rfl (Nat.le_of_ble_eq_true rfl) d_12_law_388 ⟨Nat.le_of_ble_eq_true rfl, Nat.le_of_ble_eq_true rfl⟩) hB hL (fun r20 U20 V20 H locs h hB hL => ?_)
      refine lv_icmp_eq (tgt := 819) hx hb d_12_law_391 (by decide) (fun hc => ?_) (fun hc => ?_)
      · replace h := hm_pos hc h
        exact bk_12_law_819 cx hJ0 ho hX hbl hr hlk k18 h hB hL (lv_sub hl [0, 1, 2, 3] rfl)
      · replace h := hm_neg hc h
        refine lv_iconst (v := 0) hx hb d_12_law_394 (by decide) ?_
        exact h.elim
    replace h := hm_neg hc9 h
    refine hm_cs (x := ((xs (Int32.toNatClampNeg x3)) &&& 31)) (v := 10) (fun hc => ?_) (fun hc10 => ?_)
    · replace h := hm_pos hc h
      refine lv_tableIn (tgt := 396) (off := 364) hx hb d_12_law_32 (by rw [hc]; decide) (by rw [hc]; decide) (by rw [hc]; rfl) (by decide) ?_
      refine lv_aload_n hx hb d_12_law_396 rfl (lv_at hl 1 rfl) ?_
      refine lv_aload_n hx hb d_12_law_397 rfl (lv_at hl 0 rfl) ?_
      refine lv_iload_n hx hb d_12_law_398 rfl (lv_at hl 3 rfl) ?_
      refine lv_iconst (v := 1) hx hb d_12_law_399 (by decide) ?_
      refine lv_iadd hx hb d_12_law_400 ?_
      obtain ⟨hj, h⟩ := h
      refine va_sld hx hb hX hbl hbA (hB.vs hL) hj d_12_law_401 ?_
      refine lv_if_eq (tgt := 409) hx hb d_12_law_402 (by decide) (fun hc => ?_) (fun hc => ?_)
      · replace h := hm_pos hc h
        refine lv_iconst (v := 0) hx hb d_12_law_409 (by decide) ?_
        exact bk_12_law_410 cx hJ0 ho hX hbl hr hlk k18 h hB hL (lv_sub hl [0, 1, 2, 3] rfl)
      · replace h := hm_neg hc h
        refine lv_iconst (v := 1) hx hb d_12_law_405 (by decide) ?_
        refine lv_goto (tgt := 410) hx hb d_12_law_406 (by decide) ?_
        exact bk_12_law_410 cx hJ0 ho hX hbl hr hlk k18 h hB hL (lv_sub hl [0, 1, 2, 3] rfl)
    replace h := hm_neg hc10 h
    refine hm_cs (x := ((xs (Int32.toNatClampNeg x3)) &&& 31)) (v := 11) (fun hc => ?_) (fun hc11 => ?_)
    · replace h := hm_pos hc h
      refine lv_tableIn (tgt := 435) (off := 403) hx hb d_12_law_32 (by rw [hc]; decide) (by rw [hc]; decide) (by rw [hc]; rfl) (by decide) ?_
      refine lv_aload_n hx hb d_12_law_435 rfl (lv_at hl 1 rfl) ?_
      refine lw_callXi (hr := hm_rV (i := 0) (As := []) (rest := []) cx hB.1 (ct_10_readPosition h) (mw_12_61 cx.1.2.2.2.2 ⟨Nat.le_of_ble_eq_true rfl, Nat.le_of_ble_eq_true rfl⟩) (by decide) sx_0 rfl rfl hl.1 rfl (Nat.le_of_ble_eq_true rfl) d_12_law_436 ⟨Nat.le_of_ble_eq_true rfl, Nat.le_of_ble_eq_true rfl⟩) hB hL (fun r23 S23 T23 H locs h hB hL => ?_)
      refine lv_aload_n hx hb d_12_law_439 rfl (lv_at hl 2 rfl) ?_
      refine lw_callMi (hr := hm_rV (i := 0) (As := []) (rest := [.int r23]) cx hB.2.1 (ct_11_readPosition h) (mw_12_64 cx.1.2.2.2.2 ⟨Nat.le_of_ble_eq_true rfl, Nat.le_of_ble_eq_true rfl⟩) (by decide) sm_0 rfl rfl hl.1 rfl (Nat.le_of_ble_eq_true rfl) d_12_law_440 ⟨Nat.le_of_ble_eq_true rfl, Nat.le_of_ble_eq_true rfl⟩) hB hL (fun r24 U24 V24 H locs h hB hL => ?_)
      refine lv_icmp_eq (tgt := 819) hx hb d_12_law_443 (by decide) (fun hc => ?_) (fun hc => ?_)
      · replace h := hm_pos hc h
        exact bk_12_law_819 cx hJ0 ho hX hbl hr hlk k18 h hB hL (lv_sub hl [0, 1, 2, 3] rfl)
      · replace h := hm_neg hc h
        refine lv_iconst (v := 0) hx hb d_12_law_446 (by decide) ?_
        exact h.elim
    replace h := hm_neg hc11 h
    refine hm_cs (x := ((xs (Int32.toNatClampNeg x3)) &&& 31)) (v := 12) (fun hc => ?_) (fun hc12 => ?_)
    · replace h := hm_pos hc h
      refine lv_tableIn (tgt := 448) (off := 416) hx hb d_12_law_32 (by rw [hc]; decide) (by rw [hc]; decide) (by rw [hc]; rfl) (by decide) ?_
      refine lv_aload_n hx hb d_12_law_448 rfl (lv_at hl 1 rfl) ?_
      refine lv_aload_n hx hb d_12_law_449 rfl (lv_at hl 0 rfl) ?_
      refine lv_iload_n hx hb d_12_law_450 rfl (lv_at hl 3 rfl) ?_
      refine lv_iconst (v := 1) hx hb d_12_law_451 (by decide) ?_
      refine lv_iadd hx hb d_12_law_452 ?_
      obtain ⟨hj, h⟩ := h
      refine va_sld hx hb hX hbl hbA (hB.vs hL) hj d_12_law_453 ?_
      refine lv_aload_n hx hb d_12_law_454 rfl (lv_at hl 0 rfl) ?_
      refine lv_iload_n hx hb d_12_law_455 rfl (lv_at hl 3 rfl) ?_
      refine lv_iconst (v := 2) hx hb d_12_law_456 (by decide) ?_
      refine lv_iadd hx hb d_12_law_457 ?_
      obtain ⟨hj, h⟩ := h
      refine va_sld hx hb hX hbl hbA (hB.vs hL) hj d_12_law_458 ?_
      refine lw_callXi (hr := hm_rV (i := 0) (As := [.int (xs (Int32.toNatClampNeg (x3 + 1))), .int (xs (Int32.toNatClampNeg (x3 + 2)))]) (rest := []) cx hB.1 (ct_10_heap h) (mw_12_65 cx.1.2.2.2.2 ⟨Nat.le_of_ble_eq_true rfl, Nat.le_of_ble_eq_true rfl⟩) (by decide) sx_0 rfl rfl hl.1 rfl (Nat.le_of_ble_eq_true rfl) d_12_law_459 ⟨Nat.le_of_ble_eq_true rfl, Nat.le_of_ble_eq_true rfl⟩) hB hL (fun r25 S25 T25 H locs h hB hL => ?_)
      refine lv_aload_n hx hb d_12_law_462 rfl (lv_at hl 2 rfl) ?_
      refine lv_aload_n hx hb d_12_law_463 rfl (lv_at hl 0 rfl) ?_
      refine lv_iload_n hx hb d_12_law_464 rfl (lv_at hl 3 rfl) ?_
      refine lv_iconst (v := 1) hx hb d_12_law_465 (by decide) ?_
      refine lv_iadd hx hb d_12_law_466 ?_
      obtain ⟨hj, h⟩ := h
      refine va_sld hx hb hX hbl hbA (hB.vs hL) hj d_12_law_467 ?_
      refine lv_aload_n hx hb d_12_law_468 rfl (lv_at hl 0 rfl) ?_
      refine lv_iload_n hx hb d_12_law_469 rfl (lv_at hl 3 rfl) ?_
      refine lv_iconst (v := 2) hx hb d_12_law_470 (by decide) ?_
      refine lv_iadd hx hb d_12_law_471 ?_
      obtain ⟨hj, h⟩ := h
      refine va_sld hx hb hX hbl hbA (hB.vs hL) hj d_12_law_472 ?_
      refine lw_callMi (hr := hm_rV (i := 0) (As := [.int (xs (Int32.toNatClampNeg (x3 + 1))), .int (xs (Int32.toNatClampNeg (x3 + 2)))]) (rest := [.int r25]) cx hB.2.1 (ct_11_heap h) (mw_12_68 cx.1.2.2.2.2 ⟨Nat.le_of_ble_eq_true rfl, Nat.le_of_ble_eq_true rfl⟩) (by decide) sm_0 rfl rfl hl.1 rfl (Nat.le_of_ble_eq_true rfl) d_12_law_473 ⟨Nat.le_of_ble_eq_true rfl, Nat.le_of_ble_eq_true rfl⟩) hB hL (fun r26 U26 V26 H locs h hB hL => ?_)
      refine lv_icmp_eq (tgt := 819) hx hb d_12_law_476 (by decide) (fun hc => ?_) (fun hc => ?_)
      · replace h := hm_pos hc h
        exact bk_12_law_819 cx hJ0 ho hX hbl hr hlk k18 h hB hL (lv_sub hl [0, 1, 2, 3] rfl)
      · replace h := hm_neg hc h
        refine lv_iconst (v := 0) hx hb d_12_law_479 (by decide) ?_
        exact h.elim
    replace h := hm_neg hc12 h
    refine hm_cs (x := ((xs (Int32.toNatClampNeg x3)) &&& 31)) (v := 13) (fun hc => ?_) (fun hc13 => ?_)
    · replace h := hm_pos hc h
      refine lv_tableIn (tgt := 481) (off := 449) hx hb d_12_law_32 (by rw [hc]; decide) (by rw [hc]; decide) (by rw [hc]; rfl) (by decide) ?_
      refine lv_aload_n hx hb d_12_law_481 rfl (lv_at hl 1 rfl) ?_
      refine lw_callXi (hr := hm_rV (i := 0) (As := []) (rest := []) cx hB.1 (ct_10_undo h) (mw_12_69 cx.1.2.2.2.2 ⟨Nat.le_of_ble_eq_true rfl, Nat.le_of_ble_eq_true rfl⟩) (by decide) sx_0 rfl rfl hl.1 rfl (Nat.le_of_ble_eq_true rfl) d_12_law_482 ⟨Nat.le_of_ble_eq_true rfl, Nat.le_of_ble_eq_true rfl⟩) hB hL (fun r27 S27 T27 H locs h hB hL => ?_)
      refine lv_aload_n hx hb d_12_law_485 rfl (lv_at hl 2 rfl) ?_
      refine lw_callMi (hr := hm_rV (i := 0) (As := []) (rest := [.int r27]) cx hB.2.1 (ct_11_undo h) (mw_12_72 cx.1.2.2.2.2 ⟨Nat.le_of_ble_eq_true rfl, Nat.le_of_ble_eq_true rfl⟩) (by decide) sm_0 rfl rfl hl.1 rfl (Nat.le_of_ble_eq_true rfl) d_12_law_486 ⟨Nat.le_of_ble_eq_true rfl, Nat.le_of_ble_eq_true rfl⟩) hB hL (fun r28 U28 V28 H locs h hB hL => ?_)
      refine lv_icmp_eq (tgt := 819) hx hb d_12_law_489 (by decide) (fun hc => ?_) (fun hc => ?_)
      · replace h := hm_pos hc h
        exact bk_12_law_819 cx hJ0 ho hX hbl hr hlk k18 h hB hL (lv_sub hl [0, 1, 2, 3] rfl)
      · replace h := hm_neg hc h
        refine lv_iconst (v := 0) hx hb d_12_law_492 (by decide) ?_
        exact h.elim
    replace h := hm_neg hc13 h
    refine hm_cs (x := ((xs (Int32.toNatClampNeg x3)) &&& 31)) (v := 14) (fun hc => ?_) (fun hc14 => ?_)
    · replace h := hm_pos hc h
      refine lv_tableIn (tgt := 494) (off := 462) hx hb d_12_law_32 (by rw [hc]; decide) (by rw [hc]; decide) (by rw [hc]; rfl) (by decide) ?_
      refine lv_aload_n hx hb d_12_law_494 rfl (lv_at hl 1 rfl) ?_
      refine lv_aload_n hx hb d_12_law_495 rfl (lv_at hl 0 rfl) ?_
      refine lv_iload_n hx hb d_12_law_496 rfl (lv_at hl 3 rfl) ?_
      refine lv_iconst (v := 1) hx hb d_12_law_497 (by decide) ?_
      refine lv_iadd hx hb d_12_law_498 ?_
      obtain ⟨hj, h⟩ := h
      refine va_sld hx hb hX hbl hbA (hB.vs hL) hj d_12_law_499 ?_
      refine lv_aload_n hx hb d_12_law_500 rfl (lv_at hl 0 rfl) ?_
      refine lv_iload_n hx hb d_12_law_501 rfl (lv_at hl 3 rfl) ?_
      refine lv_iconst (v := 2) hx hb d_12_law_502 (by decide) ?_
      refine lv_iadd hx hb d_12_law_503 ?_
      obtain ⟨hj, h⟩ := h
      refine va_sld hx hb hX hbl hbA (hB.vs hL) hj d_12_law_504 ?_
      refine lw_callXi (hr := hm_rV (i := 0) (As := [.int (xs (Int32.toNatClampNeg (x3 + 1))), .int (xs (Int32.toNatClampNeg (x3 + 2)))]) (rest := []) cx hB.1 (ct_10_move h) (mw_12_73 cx.1.2.2.2.2 ⟨Nat.le_of_ble_eq_true rfl, Nat.le_of_ble_eq_true rfl⟩) (by decide) sx_0 rfl rfl hl.1 rfl (Nat.le_of_ble_eq_true rfl) d_12_law_505 ⟨Nat.le_of_ble_eq_true rfl, Nat.le_of_ble_eq_true rfl⟩) hB hL (fun r29 S29 T29 H locs h hB hL => ?_)
      refine lv_aload_n hx hb d_12_law_508 rfl (lv_at hl 2 rfl) ?_
      refine lv_aload_n hx hb d_12_law_509 rfl (lv_at hl 0 rfl) ?_
      refine lv_iload_n hx hb d_12_law_510 rfl (lv_at hl 3 rfl) ?_
      refine lv_iconst (v := 1) hx hb d_12_law_511 (by decide) ?_
      refine lv_iadd hx hb d_12_law_512 ?_
      obtain ⟨hj, h⟩ := h
      refine va_sld hx hb hX hbl hbA (hB.vs hL) hj d_12_law_513 ?_
      refine lv_aload_n hx hb d_12_law_514 rfl (lv_at hl 0 rfl) ?_
      refine lv_iload_n hx hb d_12_law_515 rfl (lv_at hl 3 rfl) ?_
      refine lv_iconst (v := 2) hx hb d_12_law_516 (by decide) ?_
      refine lv_iadd hx hb d_12_law_517 ?_
      obtain ⟨hj, h⟩ := h
      refine va_sld hx hb hX hbl hbA (hB.vs hL) hj d_12_law_518 ?_
      refine lw_callMi (hr := hm_rV (i := 0) (As := [.int (xs (Int32.toNatClampNeg (x3 + 1))), .int (xs (Int32.toNatClampNeg (x3 + 2)))]) (rest := [.int r29]) cx hB.2.1 (ct_11_move h) (mw_12_76 cx.1.2.2.2.2 ⟨Nat.le_of_ble_eq_true rfl, Nat.le_of_ble_eq_true rfl⟩) (by decide) sm_0 rfl rfl hl.1 rfl (Nat.le_of_ble_eq_true rfl) d_12_law_519 ⟨Nat.le_of_ble_eq_true rfl, Nat.le_of_ble_eq_true rfl⟩) hB hL (fun r30 U30 V30 H locs h hB hL => ?_)
      refine lv_icmp_eq (tgt := 819) hx hb d_12_law_522 (by decide) (fun hc => ?_) (fun hc => ?_)
      · replace h := hm_pos hc h
        exact bk_12_law_819 cx hJ0 ho hX hbl hr hlk k18 h hB hL (lv_sub hl [0, 1, 2, 3] rfl)
      · replace h := hm_neg hc h
        refine lv_iconst (v := 0) hx hb d_12_law_525 (by decide) ?_
        exact h.elim
    replace h := hm_neg hc14 h
    refine hm_cs (x := ((xs (Int32.toNatClampNeg x3)) &&& 31)) (v := 15) (fun hc => ?_) (fun hc15 => ?_)
    · replace h := hm_pos hc h
      refine lv_tableIn (tgt := 527) (off := 495) hx hb d_12_law_32 (by rw [hc]; decide) (by rw [hc]; decide) (by rw [hc]; rfl) (by decide) ?_
      refine lv_aload_n hx hb d_12_law_527 rfl (lv_at hl 1 rfl) ?_
      refine lv_aload_n hx hb d_12_law_528 rfl (lv_at hl 0 rfl) ?_
      refine lv_iload_n hx hb d_12_law_529 rfl (lv_at hl 3 rfl) ?_
      refine lv_iconst (v := 1) hx hb d_12_law_530 (by decide) ?_
      refine lv_iadd hx hb d_12_law_531 ?_
      obtain ⟨hj, h⟩ := h
      refine va_sld hx hb hX hbl hbA (hB.vs hL) hj d_12_law_532 ?_
      refine lw_callXi (hr := hm_rV (i := 0) (As := [.int (xs (Int32.toNatClampNeg (x3 + 1)))]) (rest := []) cx hB.1 (ct_10_play h) (mw_12_77 cx.1.2.2.2.2 ⟨Nat.le_of_ble_eq_true rfl, Nat.le_of_ble_eq_true rfl⟩) (by decide) sx_0 rfl rfl hl.1 rfl (Nat.le_of_ble_eq_true rfl) d_12_law_533 ⟨Nat.le_of_ble_eq_true rfl, Nat.le_of_ble_eq_true rfl⟩) hB hL (fun r31 S31 T31 H locs h hB hL => ?_)
      refine lv_aload_n hx hb d_12_law_536 rfl (lv_at hl 2 rfl) ?_
      refine lv_aload_n hx hb d_12_law_537 rfl (lv_at hl 0 rfl) ?_
      refine lv_iload_n hx hb d_12_law_538 rfl (lv_at hl 3 rfl) ?_
      refine lv_iconst (v := 1) hx hb d_12_law_539 (by decide) ?_
      refine lv_iadd hx hb d_12_law_540 ?_
      obtain ⟨hj, h⟩ := h
      refine va_sld hx hb hX hbl hbA (hB.vs hL) hj d_12_law_541 ?_
      refine lw_callMi (hr := hm_rV (i := 0) (As := [.int (xs (Int32.toNatClampNeg (x3 + 1)))]) (rest := [.int r31]) cx hB.2.1 (ct_11_play h) (mw_12_80 cx.1.2.2.2.2 ⟨Nat.le_of_ble_eq_true rfl, Nat.le_of_ble_eq_true rfl⟩) (by decide) sm_0 rfl rfl hl.1 rfl (Nat.le_of_ble_eq_true rfl) d_12_law_542 ⟨Nat.le_of_ble_eq_true rfl, Nat.le_of_ble_eq_true rfl⟩) hB hL (fun r32 U32 V32 H locs h hB hL => ?_)
      refine lv_icmp_eq (tgt := 819) hx hb d_12_law_545 (by decide) (fun hc => ?_) (fun hc => ?_)
      · replace h := hm_pos hc h
        exact bk_12_law_819 cx hJ0 ho hX hbl hr hlk k18 h hB hL (lv_sub hl [0, 1, 2, 3] rfl)
      · replace h := hm_neg hc h
        refine lv_iconst (v := 0) hx hb d_12_law_548 (by decide) ?_
        exact h.elim
    replace h := hm_neg hc15 h
    refine hm_cs (x := ((xs (Int32.toNatClampNeg x3)) &&& 31)) (v := 16) (fun hc => ?_) (fun hc16 => ?_)
    · replace h := hm_pos hc h
      refine lv_tableIn (tgt := 550) (off := 518) hx hb d_12_law_32 (by rw [hc]; decide) (by rw [hc]; decide) (by rw [hc]; rfl) (by decide) ?_
      refine lv_aload_n hx hb d_12_law_550 rfl (lv_at hl 1 rfl) ?_
      refine lw_callXi (hr := hm_rV (i := 0) (As := []) (rest := []) cx hB.1 (ct_10_outcome h) (mw_12_81 cx.1.2.2.2.2 ⟨Nat.le_of_ble_eq_true rfl, Nat.le_of_ble_eq_true rfl⟩) (by decide) sx_0 rfl rfl hl.1 rfl (Nat.le_of_ble_eq_true rfl) d_12_law_551 ⟨Nat.le_of_ble_eq_true rfl, Nat.le_of_ble_eq_true rfl⟩) hB hL (fun r33 S33 T33 H locs h hB hL => ?_)
      refine lv_aload_n hx hb d_12_law_554 rfl (lv_at hl 2 rfl) ?_
      refine lw_callMi (hr := hm_rV (i := 0) (As := []) (rest := [.int r33]) cx hB.2.1 (ct_11_outcome h) (mw_12_84 cx.1.2.2.2.2 ⟨Nat.le_of_ble_eq_true rfl, Nat.le_of_ble_eq_true rfl⟩) (by decide) sm_0 rfl rfl hl.1 rfl (Nat.le_of_ble_eq_true rfl) d_12_law_555 ⟨Nat.le_of_ble_eq_true rfl, Nat.le_of_ble_eq_true rfl⟩) hB hL (fun r34 U34 V34 H locs h hB hL => ?_)
      refine lv_icmp_eq (tgt := 819) hx hb d_12_law_558 (by decide) (fun hc => ?_) (fun hc => ?_)
      · replace h := hm_pos hc h
        exact bk_12_law_819 cx hJ0 ho hX hbl hr hlk k18 h hB hL (lv_sub hl [0, 1, 2, 3] rfl)
      · replace h := hm_neg hc h
        refine lv_iconst (v := 0) hx hb d_12_law_561 (by decide) ?_
        exact h.elim
    replace h := hm_neg hc16 h
    refine hm_cs (x := ((xs (Int32.toNatClampNeg x3)) &&& 31)) (v := 17) (fun hc => ?_) (fun hc17 => ?_)
    · replace h := hm_pos hc h
      refine lv_tableIn (tgt := 563) (off := 531) hx hb d_12_law_32 (by rw [hc]; decide) (by rw [hc]; decide) (by rw [hc]; rfl) (by decide) ?_
      refine lv_aload_n hx hb d_12_law_563 rfl (lv_at hl 1 rfl) ?_
      refine lw_callXi (hr := hm_rV (i := 0) (As := []) (rest := []) cx hB.1 (ct_10_distance h) (mw_12_85 cx.1.2.2.2.2 ⟨Nat.le_of_ble_eq_true rfl, Nat.le_of_ble_eq_true rfl⟩) (by decide) sx_0 rfl rfl hl.1 rfl (Nat.le_of_ble_eq_true rfl) d_12_law_564 ⟨Nat.le_of_ble_eq_true rfl, Nat.le_of_ble_eq_true rfl⟩) hB hL (fun r35 S35 T35 H locs h hB hL => ?_)
      refine lv_aload_n hx hb d_12_law_567 rfl (lv_at hl 2 rfl) ?_
      refine lw_callMi (hr := hm_rV (i := 0) (As := []) (rest := [.int r35]) cx hB.2.1 (ct_11_distance h) (mw_12_88 cx.1.2.2.2.2 ⟨Nat.le_of_ble_eq_true rfl, Nat.le_of_ble_eq_true rfl⟩) (by decide) sm_0 rfl rfl hl.1 rfl (Nat.le_of_ble_eq_true rfl) d_12_law_568 ⟨Nat.le_of_ble_eq_true rfl, Nat.le_of_ble_eq_true rfl⟩) hB hL (fun r36 U36 V36 H locs h hB hL => ?_)
      refine lv_icmp_eq (tgt := 819) hx hb d_12_law_571 (by decide) (fun hc => ?_) (fun hc => ?_)
      · replace h := hm_pos hc h
        exact bk_12_law_819 cx hJ0 ho hX hbl hr hlk k18 h hB hL (lv_sub hl [0, 1, 2, 3] rfl)
      · replace h := hm_neg hc h
        refine lv_iconst (v := 0) hx hb d_12_law_574 (by decide) ?_
        exact h.elim
    replace h := hm_neg hc17 h
    refine hm_cs (x := ((xs (Int32.toNatClampNeg x3)) &&& 31)) (v := 18) (fun hc => ?_) (fun hc18 => ?_)
    · replace h := hm_pos hc h
      refine lv_tableIn (tgt := 576) (off := 544) hx hb d_12_law_32 (by rw [hc]; decide) (by rw [hc]; decide) (by rw [hc]; rfl) (by decide) ?_
      refine lv_aload_n hx hb d_12_law_576 rfl (lv_at hl 1 rfl) ?_
      refine lw_callXi (hr := hm_rV (i := 0) (As := []) (rest := []) cx hB.1 (ct_10_best h) (mw_12_89 cx.1.2.2.2.2 ⟨Nat.le_of_ble_eq_true rfl, Nat.le_of_ble_eq_true rfl⟩) (by decide) sx_0 rfl rfl hl.1 rfl (Nat.le_of_ble_eq_true rfl) d_12_law_577 ⟨Nat.le_of_ble_eq_true rfl, Nat.le_of_ble_eq_true rfl⟩) hB hL (fun r37 S37 T37 H locs h hB hL => ?_)
      refine lv_aload_n hx hb d_12_law_580 rfl (lv_at hl 2 rfl) ?_
      refine lw_callMi (hr := hm_rV (i := 0) (As := []) (rest := [.int r37]) cx hB.2.1 (ct_11_best h) (mw_12_92 cx.1.2.2.2.2 ⟨Nat.le_of_ble_eq_true rfl, Nat.le_of_ble_eq_true rfl⟩) (by decide) sm_0 rfl rfl hl.1 rfl (Nat.le_of_ble_eq_true rfl) d_12_law_581 ⟨Nat.le_of_ble_eq_true rfl, Nat.le_of_ble_eq_true rfl⟩) hB hL (fun r38 U38 V38 H locs h hB hL => ?_)
      refine lv_icmp_eq (tgt := 819) hx hb d_12_law_584 (by decide) (fun hc => ?_) (fun hc => ?_)
      · replace h := hm_pos hc h
        exact bk_12_law_819 cx hJ0 ho hX hbl hr hlk k18 h hB hL (lv_sub hl [0, 1, 2, 3] rfl)
      · replace h := hm_neg hc h
        refine lv_iconst (v := 0) hx hb d_12_law_587 (by decide) ?_
        exact h.elim
    replace h := hm_neg hc18 h
    refine hm_cs (x := ((xs (Int32.toNatClampNeg x3)) &&& 31)) (v := 19) (fun hc => ?_) (fun hc19 => ?_)
    · replace h := hm_pos hc h
      refine lv_tableIn (tgt := 589) (off := 557) hx hb d_12_law_32 (by rw [hc]; decide) (by rw [hc]; decide) (by rw [hc]; rfl) (by decide) ?_
      refine lv_aload_n hx hb d_12_law_589 rfl (lv_at hl 1 rfl) ?_
      refine lw_callXi (hr := hm_rV (i := 0) (As := []) (rest := []) cx hB.1 (ct_10_good h) (mw_12_93 cx.1.2.2.2.2 ⟨Nat.le_of_ble_eq_true rfl, Nat.le_of_ble_eq_true rfl⟩) (by decide) sx_0 rfl rfl hl.1 rfl (Nat.le_of_ble_eq_true rfl) d_12_law_590 ⟨Nat.le_of_ble_eq_true rfl, Nat.le_of_ble_eq_true rfl⟩) hB hL (fun r39 S39 T39 H locs h hB hL => ?_)
      refine lv_aload_n hx hb d_12_law_593 rfl (lv_at hl 2 rfl) ?_
      refine lw_callMi (hr := hm_rV (i := 0) (As := []) (rest := [.int r39]) cx hB.2.1 (ct_11_good h) (mw_12_96 cx.1.2.2.2.2 ⟨Nat.le_of_ble_eq_true rfl, Nat.le_of_ble_eq_true rfl⟩) (by decide) sm_0 rfl rfl hl.1 rfl (Nat.le_of_ble_eq_true rfl) d_12_law_594 ⟨Nat.le_of_ble_eq_true rfl, Nat.le_of_ble_eq_true rfl⟩) hB hL (fun r40 U40 V40 H locs h hB hL => ?_)
      refine lv_icmp_eq (tgt := 819) hx hb d_12_law_597 (by decide) (fun hc => ?_) (fun hc => ?_)
      · replace h := hm_pos hc h
        exact bk_12_law_819 cx hJ0 ho hX hbl hr hlk k18 h hB hL (lv_sub hl [0, 1, 2, 3] rfl)
      · replace h := hm_neg hc h
        refine lv_iconst (v := 0) hx hb d_12_law_600 (by decide) ?_
        exact h.elim
    replace h := hm_neg hc19 h
    refine hm_cs (x := ((xs (Int32.toNatClampNeg x3)) &&& 31)) (v := 20) (fun hc => ?_) (fun hc20 => ?_)
    · replace h := hm_pos hc h
      refine lv_tableIn (tgt := 602) (off := 570) hx hb d_12_law_32 (by rw [hc]; decide) (by rw [hc]; decide) (by rw [hc]; rfl) (by decide) ?_
      refine lv_aload_n hx hb d_12_law_602 rfl (lv_at hl 1 rfl) ?_
      refine lv_aload_n hx hb d_12_law_603 rfl (lv_at hl 0 rfl) ?_
      refine lv_iload_n hx hb d_12_law_604 rfl (lv_at hl 3 rfl) ?_
      refine lv_iconst (v := 1) hx hb d_12_law_605 (by decide) ?_
      refine lv_iadd hx hb d_12_law_606 ?_
      obtain ⟨hj, h⟩ := h
      refine va_sld hx hb hX hbl hbA (hB.vs hL) hj d_12_law_607 ?_
      refine lw_callXi (hr := hm_rV (i := 0) (As := [.int (xs (Int32.toNatClampNeg (x3 + 1)))]) (rest := []) cx hB.1 (ct_10_playOut h) (mw_12_97 cx.1.2.2.2.2 ⟨Nat.le_of_ble_eq_true rfl, Nat.le_of_ble_eq_true rfl⟩) (by decide) sx_0 rfl rfl hl.1 rfl (Nat.le_of_ble_eq_true rfl) d_12_law_608 ⟨Nat.le_of_ble_eq_true rfl, Nat.le_of_ble_eq_true rfl⟩) hB hL (fun r41 S41 T41 H locs h hB hL => ?_)
      refine lv_aload_n hx hb d_12_law_611 rfl (lv_at hl 2 rfl) ?_
      refine lv_aload_n hx hb d_12_law_612 rfl (lv_at hl 0 rfl) ?_
      refine lv_iload_n hx hb d_12_law_613 rfl (lv_at hl 3 rfl) ?_
      refine lv_iconst (v := 1) hx hb d_12_law_614 (by decide) ?_
      refine lv_iadd hx hb d_12_law_615 ?_
      obtain ⟨hj, h⟩ := h
      refine va_sld hx hb hX hbl hbA (hB.vs hL) hj d_12_law_616 ?_
      refine lw_callMi (hr := hm_rV (i := 0) (As := [.int (xs (Int32.toNatClampNeg (x3 + 1)))]) (rest := [.int r41]) cx hB.2.1 (ct_11_playOut h) (mw_12_100 cx.1.2.2.2.2 ⟨Nat.le_of_ble_eq_true rfl, Nat.le_of_ble_eq_true rfl⟩) (by decide) sm_0 rfl rfl hl.1 rfl (Nat.le_of_ble_eq_true rfl) d_12_law_617 ⟨Nat.le_of_ble_eq_true rfl, Nat.le_of_ble_eq_true rfl⟩) hB hL (fun r42 U42 V42 H locs h hB hL => ?_)
      refine lv_icmp_eq (tgt := 819) hx hb d_12_law_620 (by decide) (fun hc => ?_) (fun hc => ?_)
      · replace h := hm_pos hc h
        exact bk_12_law_819 cx hJ0 ho hX hbl hr hlk k18 h hB hL (lv_sub hl [0, 1, 2, 3] rfl)
      · replace h := hm_neg hc h
        refine lv_iconst (v := 0) hx hb d_12_law_623 (by decide) ?_
        exact h.elim
    replace h := hm_neg hc20 h
    refine hm_cs (x := ((xs (Int32.toNatClampNeg x3)) &&& 31)) (v := 21) (fun hc => ?_) (fun hc21 => ?_)
    · replace h := hm_pos hc h
      refine lv_tableIn (tgt := 625) (off := 593) hx hb d_12_law_32 (by rw [hc]; decide) (by rw [hc]; decide) (by rw [hc]; rfl) (by decide) ?_
      refine lv_aload_n hx hb d_12_law_625 rfl (lv_at hl 1 rfl) ?_
      refine lv_aload_n hx hb d_12_law_626 rfl (lv_at hl 0 rfl) ?_
      refine lv_iload_n hx hb d_12_law_627 rfl (lv_at hl 3 rfl) ?_
      refine lv_iconst (v := 1) hx hb d_12_law_628 (by decide) ?_
      refine lv_iadd hx hb d_12_law_629 ?_
      obtain ⟨hj, h⟩ := h
      refine va_sld hx hb hX hbl hbA (hB.vs hL) hj d_12_law_630 ?_
      refine lv_if_eq (tgt := 638) hx hb d_12_law_631 (by decide) (fun hc => ?_) (fun hc => ?_)
      · replace h := hm_pos hc h
        refine lv_iconst (v := 0) hx hb d_12_law_638 (by decide) ?_
        exact bk_12_law_639 cx hJ0 ho hX hbl hr hlk k18 h hB hL (lv_sub hl [0, 1, 2, 3] rfl)
      · replace h := hm_neg hc h
        refine lv_iconst (v := 1) hx hb d_12_law_634 (by decide) ?_
        refine lv_goto (tgt := 639) hx hb d_12_law_635 (by decide) ?_
        exact bk_12_law_639 cx hJ0 ho hX hbl hr hlk k18 h hB hL (lv_sub hl [0, 1, 2, 3] rfl)
    replace h := hm_neg hc21 h
    refine hm_cs (x := ((xs (Int32.toNatClampNeg x3)) &&& 31)) (v := 22) (fun hc => ?_) (fun hc22 => ?_)
    · replace h := hm_pos hc h
      refine lv_tableIn (tgt := 664) (off := 632) hx hb d_12_law_32 (by rw [hc]; decide) (by rw [hc]; decide) (by rw [hc]; rfl) (by decide) ?_
      refine lv_aload_n hx hb d_12_law_664 rfl (lv_at hl 1 rfl) ?_
      refine lv_aload_n hx hb d_12_law_665 rfl (lv_at hl 0 rfl) ?_
      refine lv_iload_n hx hb d_12_law_666 rfl (lv_at hl 3 rfl) ?_
      refine lv_iconst (v := 1) hx hb d_12_law_667 (by decide) ?_
      refine lv_iadd hx hb d_12_law_668 ?_
      obtain ⟨hj, h⟩ := h
      refine va_sld hx hb hX hbl hbA (hB.vs hL) hj d_12_law_669 ?_
      refine lv_aload_n hx hb d_12_law_670 rfl (lv_at hl 0 rfl) ?_
      refine lv_iload_n hx hb d_12_law_671 rfl (lv_at hl 3 rfl) ?_
      refine lv_iconst (v := 2) hx hb d_12_law_672 (by decide) ?_
      refine lv_iadd hx hb d_12_law_673 ?_
      obtain ⟨hj, h⟩ := h
      refine va_sld hx hb hX hbl hbA (hB.vs hL) hj d_12_law_674 ?_
      refine lv_if_eq (tgt := 682) hx hb d_12_law_675 (by decide) (fun hc => ?_) (fun hc => ?_)
      · replace h := hm_pos hc h
        refine lv_iconst (v := 0) hx hb d_12_law_682 (by decide) ?_
        exact bk_12_law_683 cx hJ0 ho hX hbl hr hlk k18 h hB hL (lv_sub hl [0, 1, 2, 3] rfl)
      · replace h := hm_neg hc h
        refine lv_iconst (v := 1) hx hb d_12_law_678 (by decide) ?_
        refine lv_goto (tgt := 683) hx hb d_12_law_679 (by decide) ?_
        exact bk_12_law_683 cx hJ0 ho hX hbl hr hlk k18 h hB hL (lv_sub hl [0, 1, 2, 3] rfl)
    replace h := hm_neg hc22 h
    refine hm_cs (x := ((xs (Int32.toNatClampNeg x3)) &&& 31)) (v := 23) (fun hc => ?_) (fun hc23 => ?_)
    · replace h := hm_pos hc h
      refine lv_tableIn (tgt := 723) (off := 691) hx hb d_12_law_32 (by rw [hc]; decide) (by rw [hc]; decide) (by rw [hc]; rfl) (by decide) ?_
      refine lv_aload_n hx hb d_12_law_723 rfl (lv_at hl 1 rfl) ?_
      refine lv_aload_n hx hb d_12_law_724 rfl (lv_at hl 0 rfl) ?_
      refine lv_iload_n hx hb d_12_law_725 rfl (lv_at hl 3 rfl) ?_
      refine lv_iconst (v := 1) hx hb d_12_law_726 (by decide) ?_
      refine lv_iadd hx hb d_12_law_727 ?_
      obtain ⟨hj, h⟩ := h
      refine va_sld hx hb hX hbl hbA (hB.vs hL) hj d_12_law_728 ?_
      refine lw_callXi (hr := hm_rV (i := 0) (As := [.int (xs (Int32.toNatClampNeg (x3 + 1)))]) (rest := []) cx hB.1 (ct_10_grundy h) (mw_12_110 cx.1.2.2.2.2 ⟨Nat.le_of_ble_eq_true rfl, Nat.le_of_ble_eq_true rfl⟩) (by decide) sx_0 rfl rfl hl.1 rfl (Nat.le_of_ble_eq_true rfl) d_12_law_729 ⟨Nat.le_of_ble_eq_true rfl, Nat.le_of_ble_eq_true rfl⟩) hB hL (fun r47 S47 T47 H locs h hB hL => ?_)
      refine lv_aload_n hx hb d_12_law_732 rfl (lv_at hl 2 rfl) ?_
      refine lv_aload_n hx hb d_12_law_733 rfl (lv_at hl 0 rfl) ?_
      refine lv_iload_n hx hb d_12_law_734 rfl (lv_at hl 3 rfl) ?_
      refine lv_iconst (v := 1) hx hb d_12_law_735 (by decide) ?_
      refine lv_iadd hx hb d_12_law_736 ?_
      obtain ⟨hj, h⟩ := h
      refine va_sld hx hb hX hbl hbA (hB.vs hL) hj d_12_law_737 ?_
      refine lw_callMi (hr := hm_rV (i := 0) (As := [.int (xs (Int32.toNatClampNeg (x3 + 1)))]) (rest := [.int r47]) cx hB.2.1 (ct_11_grundy h) (mw_12_113 cx.1.2.2.2.2 ⟨Nat.le_of_ble_eq_true rfl, Nat.le_of_ble_eq_true rfl⟩) (by decide) sm_0 rfl rfl hl.1 rfl (Nat.le_of_ble_eq_true rfl) d_12_law_738 ⟨Nat.le_of_ble_eq_true rfl, Nat.le_of_ble_eq_true rfl⟩) hB hL (fun r48 U48 V48 H locs h hB hL => ?_)
      refine lv_icmp_eq (tgt := 819) hx hb d_12_law_741 (by decide) (fun hc => ?_) (fun hc => ?_)
      · replace h := hm_pos hc h
        exact bk_12_law_819 cx hJ0 ho hX hbl hr hlk k18 h hB hL (lv_sub hl [0, 1, 2, 3] rfl)
      · replace h := hm_neg hc h
        refine lv_iconst (v := 0) hx hb d_12_law_744 (by decide) ?_
        exact h.elim
    replace h := hm_neg hc23 h
    refine hm_cs (x := ((xs (Int32.toNatClampNeg x3)) &&& 31)) (v := 24) (fun hc => ?_) (fun hc24 => ?_)
    · replace h := hm_pos hc h
      refine lv_tableIn (tgt := 746) (off := 714) hx hb d_12_law_32 (by rw [hc]; decide) (by rw [hc]; decide) (by rw [hc]; rfl) (by decide) ?_
      refine lv_aload_n hx hb d_12_law_746 rfl (lv_at hl 1 rfl) ?_
      refine lw_callXi (hr := hm_rV (i := 0) (As := []) (rest := []) cx hB.1 (ct_10_nimSum h) (mw_12_114 cx.1.2.2.2.2 ⟨Nat.le_of_ble_eq_true rfl, Nat.le_of_ble_eq_true rfl⟩) (by decide) sx_0 rfl rfl hl.1 rfl (Nat.le_of_ble_eq_true rfl) d_12_law_747 ⟨Nat.le_of_ble_eq_true rfl, Nat.le_of_ble_eq_true rfl⟩) hB hL (fun r49 S49 T49 H locs h hB hL => ?_)
      refine lv_aload_n hx hb d_12_law_750 rfl (lv_at hl 2 rfl) ?_
      refine lw_callMi (hr := hm_rV (i := 0) (As := []) (rest := [.int r49]) cx hB.2.1 (ct_11_nimSum h) (mw_12_117 cx.1.2.2.2.2 ⟨Nat.le_of_ble_eq_true rfl, Nat.le_of_ble_eq_true rfl⟩) (by decide) sm_0 rfl rfl hl.1 rfl (Nat.le_of_ble_eq_true rfl) d_12_law_751 ⟨Nat.le_of_ble_eq_true rfl, Nat.le_of_ble_eq_true rfl⟩) hB hL (fun r50 U50 V50 H locs h hB hL => ?_)
      refine lv_icmp_eq (tgt := 819) hx hb d_12_law_754 (by decide) (fun hc => ?_) (fun hc => ?_)
      · replace h := hm_pos hc h
        exact bk_12_law_819 cx hJ0 ho hX hbl hr hlk k18 h hB hL (lv_sub hl [0, 1, 2, 3] rfl)
      · replace h := hm_neg hc h
        refine lv_iconst (v := 0) hx hb d_12_law_757 (by decide) ?_
        exact h.elim
    replace h := hm_neg hc24 h
    refine hm_cs (x := ((xs (Int32.toNatClampNeg x3)) &&& 31)) (v := 25) (fun hc => ?_) (fun hc25 => ?_)
    · replace h := hm_pos hc h
      refine lv_tableIn (tgt := 759) (off := 727) hx hb d_12_law_32 (by rw [hc]; decide) (by rw [hc]; decide) (by rw [hc]; rfl) (by decide) ?_
      refine lv_aload_n hx hb d_12_law_759 rfl (lv_at hl 1 rfl) ?_
      refine lv_aload_n hx hb d_12_law_760 rfl (lv_at hl 0 rfl) ?_
      refine lv_iload_n hx hb d_12_law_761 rfl (lv_at hl 3 rfl) ?_
      refine lv_iconst (v := 1) hx hb d_12_law_762 (by decide) ?_
      refine lv_iadd hx hb d_12_law_763 ?_
      obtain ⟨hj, h⟩ := h
      refine va_sld hx hb hX hbl hbA (hB.vs hL) hj d_12_law_764 ?_
      refine lw_callXi (hr := hm_rV (i := 0) (As := [.int (xs (Int32.toNatClampNeg (x3 + 1)))]) (rest := []) cx hB.1 (ct_10_period h) (mw_12_118 cx.1.2.2.2.2 ⟨Nat.le_of_ble_eq_true rfl, Nat.le_of_ble_eq_true rfl⟩) (by decide) sx_0 rfl rfl hl.1 rfl (Nat.le_of_ble_eq_true rfl) d_12_law_765 ⟨Nat.le_of_ble_eq_true rfl, Nat.le_of_ble_eq_true rfl⟩) hB hL (fun r51 S51 T51 H locs h hB hL => ?_)
      refine lv_aload_n hx hb d_12_law_768 rfl (lv_at hl 2 rfl) ?_
      refine lv_aload_n hx hb d_12_law_769 rfl (lv_at hl 0 rfl) ?_
      refine lv_iload_n hx hb d_12_law_770 rfl (lv_at hl 3 rfl) ?_
      refine lv_iconst (v := 1) hx hb d_12_law_771 (by decide) ?_
      refine lv_iadd hx hb d_12_law_772 ?_
      obtain ⟨hj, h⟩ := h
      refine va_sld hx hb hX hbl hbA (hB.vs hL) hj d_12_law_773 ?_
      refine lw_callMi (hr := hm_rV (i := 0) (As := [.int (xs (Int32.toNatClampNeg (x3 + 1)))]) (rest := [.int r51]) cx hB.2.1 (ct_11_period h) (mw_12_121 cx.1.2.2.2.2 ⟨Nat.le_of_ble_eq_true rfl, Nat.le_of_ble_eq_true rfl⟩) (by decide) sm_0 rfl rfl hl.1 rfl (Nat.le_of_ble_eq_true rfl) d_12_law_774 ⟨Nat.le_of_ble_eq_true rfl, Nat.le_of_ble_eq_true rfl⟩) hB hL (fun r52 U52 V52 H locs h hB hL => ?_)
      refine lv_icmp_eq (tgt := 819) hx hb d_12_law_777 (by decide) (fun hc => ?_) (fun hc => ?_)
      · replace h := hm_pos hc h
        exact bk_12_law_819 cx hJ0 ho hX hbl hr hlk k18 h hB hL (lv_sub hl [0, 1, 2, 3] rfl)
      · replace h := hm_neg hc h
        refine lv_iconst (v := 0) hx hb d_12_law_780 (by decide) ?_
        exact h.elim
    replace h := hm_neg hc25 h
    refine hm_cs (x := ((xs (Int32.toNatClampNeg x3)) &&& 31)) (v := 26) (fun hc => ?_) (fun hc26 => ?_)
    · replace h := hm_pos hc h
      refine lv_tableIn (tgt := 782) (off := 750) hx hb d_12_law_32 (by rw [hc]; decide) (by rw [hc]; decide) (by rw [hc]; rfl) (by decide) ?_
      refine lv_aload_n hx hb d_12_law_782 rfl (lv_at hl 1 rfl) ?_
      refine lv_aload_n hx hb d_12_law_783 rfl (lv_at hl 0 rfl) ?_
      refine lv_iload_n hx hb d_12_law_784 rfl (lv_at hl 3 rfl) ?_
      refine lv_iconst (v := 1) hx hb d_12_law_785 (by decide) ?_
      refine lv_iadd hx hb d_12_law_786 ?_
      obtain ⟨hj, h⟩ := h
      refine va_sld hx hb hX hbl hbA (hB.vs hL) hj d_12_law_787 ?_
      refine lw_callXi (hr := hm_rV (i := 0) (As := [.int (xs (Int32.toNatClampNeg (x3 + 1)))]) (rest := []) cx hB.1 (ct_10_count h) (mw_12_122 cx.1.2.2.2.2 ⟨Nat.le_of_ble_eq_true rfl, Nat.le_of_ble_eq_true rfl⟩) (by decide) sx_0 rfl rfl hl.1 rfl (Nat.le_of_ble_eq_true rfl) d_12_law_788 ⟨Nat.le_of_ble_eq_true rfl, Nat.le_of_ble_eq_true rfl⟩) hB hL (fun r53 S53 T53 H locs h hB hL => ?_)
      refine lv_aload_n hx hb d_12_law_791 rfl (lv_at hl 2 rfl) ?_
      refine lv_aload_n hx hb d_12_law_792 rfl (lv_at hl 0 rfl) ?_
      refine lv_iload_n hx hb d_12_law_793 rfl (lv_at hl 3 rfl) ?_
      refine lv_iconst (v := 1) hx hb d_12_law_794 (by decide) ?_
      refine lv_iadd hx hb d_12_law_795 ?_
      obtain ⟨hj, h⟩ := h
      refine va_sld hx hb hX hbl hbA (hB.vs hL) hj d_12_law_796 ?_
      refine lw_callMi (hr := hm_rV (i := 0) (As := [.int (xs (Int32.toNatClampNeg (x3 + 1)))]) (rest := [.int r53]) cx hB.2.1 (ct_11_count h) (mw_12_125 cx.1.2.2.2.2 ⟨Nat.le_of_ble_eq_true rfl, Nat.le_of_ble_eq_true rfl⟩) (by decide) sm_0 rfl rfl hl.1 rfl (Nat.le_of_ble_eq_true rfl) d_12_law_797 ⟨Nat.le_of_ble_eq_true rfl, Nat.le_of_ble_eq_true rfl⟩) hB hL (fun r54 U54 V54 H locs h hB hL => ?_)
      refine lv_icmp_eq (tgt := 819) hx hb d_12_law_800 (by decide) (fun hc => ?_) (fun hc => ?_)
      · replace h := hm_pos hc h
        exact bk_12_law_819 cx hJ0 ho hX hbl hr hlk k18 h hB hL (lv_sub hl [0, 1, 2, 3] rfl)
      · replace h := hm_neg hc h
        refine lv_iconst (v := 0) hx hb d_12_law_803 (by decide) ?_
        exact h.elim
    replace h := hm_neg hc26 h
    refine hm_cs (x := ((xs (Int32.toNatClampNeg x3)) &&& 31)) (v := 27) (fun hc => ?_) (fun hc27 => ?_)
    · replace h := hm_pos hc h
      refine lv_tableIn (tgt := 805) (off := 773) hx hb d_12_law_32 (by rw [hc]; decide) (by rw [hc]; decide) (by rw [hc]; rfl) (by decide) ?_
      refine lv_aload_n hx hb d_12_law_805 rfl (lv_at hl 1 rfl) ?_
      refine lw_callXl (hr := hm_rV (i := 0) (As := []) (rest := []) cx hB.1 (ct_10_digest h) (mw_12_126 cx.1.2.2.2.2 ⟨Nat.le_of_ble_eq_true rfl, Nat.le_of_ble_eq_true rfl⟩) (by decide) sx_0 rfl rfl hl.1 rfl (Nat.le_of_ble_eq_true rfl) d_12_law_806 ⟨Nat.le_of_ble_eq_true rfl, Nat.le_of_ble_eq_true rfl⟩) hB hL (fun r55 S55 T55 H locs h hB hL => ?_)
      refine lv_aload_n hx hb d_12_law_809 rfl (lv_at hl 2 rfl) ?_
      refine lw_callMl (hr := hm_rV (i := 0) (As := []) (rest := [.long r55]) cx hB.2.1 (ct_11_digest h) (mw_12_130 cx.1.2.2.2.2 ⟨Nat.le_of_ble_eq_true rfl, Nat.le_of_ble_eq_true rfl⟩) (by decide) sm_0 rfl rfl hl.1 rfl (Nat.le_of_ble_eq_true rfl) d_12_law_810 ⟨Nat.le_of_ble_eq_true rfl, Nat.le_of_ble_eq_true rfl⟩) hB hL (fun r56 U56 V56 H locs h hB hL => ?_)
      refine W.lcmp hx hb d_12_law_813 ?_
      refine lv_if_eq (tgt := 819) hx hb d_12_law_814 (by decide) (fun hc => ?_) (fun hc => ?_)
      · replace h := hm_pos hc h
        exact bk_12_law_819 cx hJ0 ho hX hbl hr hlk k18 h hB hL (lv_sub hl [0, 1, 2, 3] rfl)
      · replace h := hm_neg hc h
        refine lv_iconst (v := 0) hx hb d_12_law_817 (by decide) ?_
        exact h.elim
    replace h := hm_neg hc27 h
    refine lv_tableOut (tgt := 819) hx hb d_12_law_32 (hm_out0_27 hc0 hc1 hc2 hc3 hc4 hc5 hc6 hc7 hc8 hc9 hc10 hc11 hc12 hc13 hc14 hc15 hc16 hc17 hc18 hc19 hc20 hc21 hc22 hc23 hc24 hc25 hc26 hc27) (by decide) ?_
    exact bk_12_law_819 cx hJ0 ho hX hbl hr hlk k18 h hB hL (lv_sub hl [0, 1, 2, 3] rfl)
def wl_12_law_18 (xs : Nat → Int32) (L : Nat) : Nat → Int32 → hm_S → hm_T → hm_S → hm_T → Prop
  | 0, _, _, _, _, _ => False
  | f + 1, x3, S, T, U, V => wb_12_law_18 xs L (wl_12_law_18 xs L f) x3 S T U V
theorem lp_12_law_18 (cx : hm_cx G p s m #[Value.ref b] c code 4 "HeapGamesLaw") (hJ0 : hm_Jh adK adV o s.heap s) (ho : o = s.heap.size) (hX : va_X b L xs s s.heap) (hbl : b < s.heap.size) (hr : meth.sig.returnType = ret) (hlk : meth.locks = false) : ∀ (f : Nat) (x3 : Int32) (S : hm_S) (T : hm_T) (U : hm_S) (V : hm_T) (H : Heap) (locs : List Loc) (ls : Array Slot), wl_12_law_18 xs L f x3 S T U V → lw_B G s.heap o S T U V H → hm_Lc o locs → lv_has ls 4 [(0, .ref b), (1, .ref (o + 0)), (2, .ref (o + 74 + 0)), (3, .int x3)] → W p l e room_1 s m #[Value.ref b] below meth c H locs 97 211894 (lw_Z below #[Value.ref b] s) (F0 m 18 ls []) := by
  intro f
  induction f with
  | zero => intro x3 S T U V H locs ls h; exact h.elim
  | succ f ih => intro x3 S T U V H locs ls h hB hL hl; exact bk_12_law_18 cx hJ0 ho hX hbl hr hlk ih h hB hL hl
end LW
