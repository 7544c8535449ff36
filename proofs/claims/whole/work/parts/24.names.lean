theorem hq_3 : Cond.selects "HeapGames$RulesReader" ⟨"HeapGames$RulesReader", "readName", "(LHeapGames$Text;)I"⟩ ⟨"HeapGames$RulesReader", "readName", "(LHeapGames$Text;)I"⟩ ∈ hm_tbl := hm_in 3 (by decide +kernel) rfl
theorem hq_4 : Cond.selects "HeapGames$RulesReader" ⟨"HeapGames$RulesReader", "readOctals", "(LHeapGames$Text;)I"⟩ ⟨"HeapGames$RulesReader", "readOctals", "(LHeapGames$Text;)I"⟩ ∈ hm_tbl := hm_in 4 (by decide +kernel) rfl
theorem hq_507 : Cond.methodLink "HeapGames" 114 ⟨"HeapGames$RulesReader", "faultOf", "(LHeapGames$Text;)I"⟩ ∈ hm_tbl := hm_in 507 (by decide +kernel) rfl
theorem hq_508 : Cond.instanceMethod ⟨"HeapGames$RulesReader", "faultOf", "(LHeapGames$Text;)I"⟩ ∈ hm_tbl := hm_in 508 (by decide +kernel) rfl
theorem hq_509 : Cond.selects "HeapGames$RulesReader" ⟨"HeapGames$RulesReader", "faultOf", "(LHeapGames$Text;)I"⟩ ⟨"HeapGames$RulesReader", "faultOf", "(LHeapGames$Text;)I"⟩ ∈ hm_tbl := hm_in 509 (by decide +kernel) rfl
theorem hq_510 : Cond.code ⟨"HeapGames$RulesReader", "faultOf", "(LHeapGames$Text;)I"⟩ prog_9_method_3_code 3 (some .int) ∈ hm_tbl := hm_in 510 (by decide +kernel) rfl
theorem hq_511 : Cond.methodLink "HeapGames$RulesReader" 24 ⟨"HeapGames$Row", "clear", "()V"⟩ ∈ hm_tbl := hm_in 511 (by decide +kernel) rfl
theorem hq_512 : Cond.methodLink "HeapGames$RulesReader" 27 ⟨"HeapGames$Text", "startReading", "()V"⟩ ∈ hm_tbl := hm_in 512 (by decide +kernel) rfl
theorem hq_521 : Cond.methodLink "HeapGames$RulesReader" 32 ⟨"HeapGames$Text", "isNextSmallLetter", "()Z"⟩ ∈ hm_tbl := hm_in 521 (by decide +kernel) rfl
theorem hq_522 : Cond.instanceMethod ⟨"HeapGames$Text", "isNextSmallLetter", "()Z"⟩ ∈ hm_tbl := hm_in 522 (by decide +kernel) rfl
theorem hq_523 : Cond.selects "HeapGames$Text" ⟨"HeapGames$Text", "isNextSmallLetter", "()Z"⟩ ⟨"HeapGames$Text", "isNextSmallLetter", "()Z"⟩ ∈ hm_tbl := hm_in 523 (by decide +kernel) rfl
theorem hq_524 : Cond.code ⟨"HeapGames$Text", "isNextSmallLetter", "()Z"⟩ prog_11_method_8_code 1 (some .boolean) ∈ hm_tbl := hm_in 524 (by decide +kernel) rfl
theorem hq_533 : Cond.methodLink "HeapGames$RulesReader" 36 ⟨"HeapGames$RulesReader", "readName", "(LHeapGames$Text;)I"⟩ ∈ hm_tbl := hm_in 533 (by decide +kernel) rfl
theorem hq_535 : Cond.instanceMethod ⟨"HeapGames$RulesReader", "readName", "(LHeapGames$Text;)I"⟩ ∈ hm_tbl := hm_in 535 (by decide +kernel) rfl
theorem hq_536 : Cond.code ⟨"HeapGames$RulesReader", "readName", "(LHeapGames$Text;)I"⟩ prog_9_method_4_code 5 (some .int) ∈ hm_tbl := hm_in 536 (by decide +kernel) rfl
theorem hq_537 : Cond.methodLink "HeapGames$RulesReader" 54 ⟨"HeapGames$RulesReader", "digitsOfName", "(LHeapGames$Text;I)Ljava/lang/String;"⟩ ∈ hm_tbl := hm_in 537 (by decide +kernel) rfl
theorem hq_538 : Cond.static ⟨"HeapGames$RulesReader", "digitsOfName", "(LHeapGames$Text;I)Ljava/lang/String;"⟩ ∈ hm_tbl := hm_in 538 (by decide +kernel) rfl
theorem hq_539 : Cond.code ⟨"HeapGames$RulesReader", "digitsOfName", "(LHeapGames$Text;I)Ljava/lang/String;"⟩ prog_9_method_5_code 2 (some (.object "java/lang/String")) ∈ hm_tbl := hm_in 539 (by decide +kernel) rfl
theorem hq_541 : Cond.methodLink "HeapGames$RulesReader" 75 ⟨"HeapGames$Text", "spells", "(ILjava/lang/String;)Z"⟩ ∈ hm_tbl := hm_in 541 (by decide +kernel) rfl
theorem hq_542 : Cond.instanceMethod ⟨"HeapGames$Text", "spells", "(ILjava/lang/String;)Z"⟩ ∈ hm_tbl := hm_in 542 (by decide +kernel) rfl
theorem hq_543 : Cond.selects "HeapGames$Text" ⟨"HeapGames$Text", "spells", "(ILjava/lang/String;)Z"⟩ ⟨"HeapGames$Text", "spells", "(ILjava/lang/String;)Z"⟩ ∈ hm_tbl := hm_in 543 (by decide +kernel) rfl
theorem hq_544 : Cond.code ⟨"HeapGames$Text", "spells", "(ILjava/lang/String;)Z"⟩ prog_11_method_12_code 4 (some .boolean) ∈ hm_tbl := hm_in 544 (by decide +kernel) rfl
theorem hq_545 : Cond.methodLink "HeapGames$Text" 45 ⟨"java/lang/String", "length", "()I"⟩ ∈ hm_tbl := hm_in 545 (by decide +kernel) rfl
theorem hq_546 : Cond.instanceMethod ⟨"java/lang/String", "length", "()I"⟩ ∈ hm_tbl := hm_in 546 (by decide +kernel) rfl
theorem hq_547 : Cond.selects "java/lang/String" ⟨"java/lang/String", "length", "()I"⟩ ⟨"java/lang/String", "length", "()I"⟩ ∈ hm_tbl := hm_in 547 (by decide +kernel) rfl
theorem hq_548 : Cond.code ⟨"java/lang/String", "length", "()I"⟩ prog_15_method_54_code 1 (some .int) ∈ hm_tbl := hm_in 548 (by decide +kernel) rfl
theorem hq_555 : Cond.methodLink "HeapGames$Text" 49 ⟨"java/lang/String", "charAt", "(I)C"⟩ ∈ hm_tbl := hm_in 555 (by decide +kernel) rfl
theorem hq_556 : Cond.instanceMethod ⟨"java/lang/String", "charAt", "(I)C"⟩ ∈ hm_tbl := hm_in 556 (by decide +kernel) rfl
theorem hq_557 : Cond.selects "java/lang/String" ⟨"java/lang/String", "charAt", "(I)C"⟩ ⟨"java/lang/String", "charAt", "(I)C"⟩ ∈ hm_tbl := hm_in 557 (by decide +kernel) rfl
theorem hq_558 : Cond.code ⟨"java/lang/String", "charAt", "(I)C"⟩ prog_15_method_56_code 2 (some .char) ∈ hm_tbl := hm_in 558 (by decide +kernel) rfl
theorem hq_601 : Cond.methodLink "HeapGames$RulesReader" 58 ⟨"java/lang/String", "length", "()I"⟩ ∈ hm_tbl := hm_in 601 (by decide +kernel) rfl
theorem hq_602 : Cond.methodLink "HeapGames$RulesReader" 62 ⟨"java/lang/String", "charAt", "(I)C"⟩ ∈ hm_tbl := hm_in 602 (by decide +kernel) rfl
theorem hq_604 : Cond.methodLink "HeapGames$RulesReader" 70 ⟨"java/lang/String", "isEmpty", "()Z"⟩ ∈ hm_tbl := hm_in 604 (by decide +kernel) rfl
theorem hq_605 : Cond.instanceMethod ⟨"java/lang/String", "isEmpty", "()Z"⟩ ∈ hm_tbl := hm_in 605 (by decide +kernel) rfl
theorem hq_606 : Cond.selects "java/lang/String" ⟨"java/lang/String", "isEmpty", "()Z"⟩ ⟨"java/lang/String", "isEmpty", "()Z"⟩ ∈ hm_tbl := hm_in 606 (by decide +kernel) rfl
theorem hq_607 : Cond.code ⟨"java/lang/String", "isEmpty", "()Z"⟩ prog_15_method_55_code 1 (some .boolean) ∈ hm_tbl := hm_in 607 (by decide +kernel) rfl
theorem hq_608 : Cond.methodLink "HeapGames$RulesReader" 40 ⟨"HeapGames$RulesReader", "readOctals", "(LHeapGames$Text;)I"⟩ ∈ hm_tbl := hm_in 608 (by decide +kernel) rfl
theorem hq_610 : Cond.instanceMethod ⟨"HeapGames$RulesReader", "readOctals", "(LHeapGames$Text;)I"⟩ ∈ hm_tbl := hm_in 610 (by decide +kernel) rfl
theorem hq_611 : Cond.code ⟨"HeapGames$RulesReader", "readOctals", "(LHeapGames$Text;)I"⟩ prog_9_method_6_code 5 (some .int) ∈ hm_tbl := hm_in 611 (by decide +kernel) rfl
theorem hq_617 : Cond.methodLink "HeapGames$RulesReader" 43 ⟨"HeapGames$Text", "faultOfRest", "()I"⟩ ∈ hm_tbl := hm_in 617 (by decide +kernel) rfl
theorem hq_621 : Cond.methodLink "HeapGames" 118 ⟨"HeapGames$RulesReader", "digitOf", "(I)I"⟩ ∈ hm_tbl := hm_in 621 (by decide +kernel) rfl
theorem hq_622 : Cond.instanceMethod ⟨"HeapGames$RulesReader", "digitOf", "(I)I"⟩ ∈ hm_tbl := hm_in 622 (by decide +kernel) rfl
theorem hq_623 : Cond.selects "HeapGames$RulesReader" ⟨"HeapGames$RulesReader", "digitOf", "(I)I"⟩ ⟨"HeapGames$RulesReader", "digitOf", "(I)I"⟩ ∈ hm_tbl := hm_in 623 (by decide +kernel) rfl
theorem hq_624 : Cond.code ⟨"HeapGames$RulesReader", "digitOf", "(I)I"⟩ prog_9_method_2_code 2 (some .int) ∈ hm_tbl := hm_in 624 (by decide +kernel) rfl
def hm_PcJ (adK adV : Nat → Nat) (G : hm_G) (H0 : Heap) (o n : Nat) (sh : hm_Sh) (S : hm_S) (T : hm_T) (av : List Value) : Array Value → State → Prop := fun v U => v = av.toArray ∧ hm_K G U ∧ hm_w G H0 o n sh S T U.heap ∧ hm_Jh adK adV o H0 U
theorem hm_blindJ (adK adV : Nat → Nat) (G : hm_G) (H0 : Heap) (o n : Nat) (sh : hm_Sh) (S : hm_S) (T : hm_T) (av : List Value) : FrameBlind (hm_PcJ adK adV G H0 o n sh S T av) := fun a U g mk h => ⟨h.1, h.2.1.same rfl, h.2.2.1, h.2.2.2.same rfl⟩
def hm_Qs (adK : Nat → Nat) (G : hm_G) (H0 : Heap) (o n : Nat) (sh : hm_Sh) (Q : Nat → hm_S → hm_T → Prop) : Array Value → State → Outcome → State → Prop := fun _ _ oc t => ∃ (j : Nat) (S' : hm_S) (T' : hm_T), oc = .returned (some (.ref (adK j))) ∧ Q j S' T' ∧ hm_w G H0 o n sh S' T' t.heap
abbrev hm_MJ (adK adV : Nat → Nat) (l : Launch) (G : hm_G) (H0 : Heap) (o n : Nat) (sh : hm_Sh) (y : MethodName) (cc : ByteArray) (k : Nat) (r : Option FieldType) (rm : Room) (S : hm_S) (T : hm_T) (av : List Value) (Qc : Array Value → State → Outcome → State → Prop) : Prop := Met l y (hm_ws y cc k r) rm (hm_PcJ adK adV G H0 o n sh S T av) Qc 0 0 (t_fr o (o + n))
theorem hm_Jh.here {adK adV : Nat → Nat} {G : hm_G} {H0 H : Heap} {o n : Nat} {sh : hm_Sh} {S : hm_S} {T : hm_T} {s : State} (h : hm_Jh adK adV o H0 s) (hw : hm_w G H0 o n sh S T H) : hm_Jh adK adV o H s := h.kept (fun q hq => hw.2.1 q (Or.inl hq))
section HJ
variable {p : Program} {l : Launch} {e : Env} {R : Room} {s : State} {m : MethodId} {args : Array Value} {below : List Frame} {meth : Method} {c : Code} {H : Heap} {locs : List Loc} {cells slots : Nat} {Q : State → Prop}
variable {cc : ByteArray} {pc nL : Nat} {ls : Array Slot} {rest : List Value} {own : String} {G : hm_G} {H0 : Heap} {o n : Nat} {sh : hm_Sh} {S : hm_S} {T : hm_T} {adK adV : Nat → Nat}
variable {y : MethodName} {bytes : ByteArray} {maxL k index : Nat} {ret : Option FieldType} {rm : Room} {As st0 : List Value} {Qc : Array Value → State → Outcome → State → Prop}
theorem hm_rVJ {C : String} {ci : Nat} {fs : List Nat} {TT : u_T} {N i : Nat} (hJ : hm_Jh adK adV o H0 s) (cx : hm_cx G p s m args c cc nL own) (hw : hm_w G H0 o n sh S T H) (hM : hm_MJ adK adV l G H0 o n sh y bytes maxL ret rm S T (.ref (o + i) :: As) Qc) (cw : CallW R s args own C index y bytes maxL ret (hm_ws y bytes maxL ret) rm 0 0 k) (hi : i < n) (hs : sh i = .inr (ci, fs)) (hc : hm_cl[ci]? = some (C, TT, N)) (hn : As.length = k) (hsz : ls.size = nL) (hst : st0 = As.reverse ++ .ref (o + i) :: rest) (hW : (rest.map fun v => v.category).sum ≤ 8) (hdg : decode cc pc = .ok (.invokevirtual index, 3)) (hf : cells ≤ R.cells ∧ slots ≤ R.slots) :
    va_Run p l e R s m args below meth c H locs cells slots 0 0 (F0 m pc ls st0) rest (Qc (Value.ref (o + i) :: As).toArray) (t_fr o (o + n)) :=
  va_runV cx.1 hM cw ⟨hm_blindJ adK adV G H0 o n sh S T _, hm_recv cx.2 hw hi hs hc, fun U hU hW => ⟨rfl, cx.2.warm hW, by rw [hU]; exact hw, hJ.warm hW⟩⟩ rfl hn hsz hst (by rw [show (F0 m pc ls st0).monitorRoom = 0 from rfl, Nat.mul_zero, Nat.zero_add]; exact hW) hdg hf
theorem hm_rSJ (hJ : hm_Jh adK adV o H0 s) (cx : hm_cx G p s m args c cc nL own) (hw : hm_w G H0 o n sh S T H) (hM : hm_MJ adK adV l G H0 o n sh y bytes maxL ret rm S T As Qc) (cw : CallB R s args own index y bytes maxL ret (hm_ws y bytes maxL ret) rm 0 0 k ∧ (Cond.static y).before args s = true) (hn : As.length = k) (hsz : ls.size = nL) (hst : st0 = As.reverse ++ rest) (hW : (rest.map fun v => v.category).sum ≤ 8) (hdg : decode cc pc = .ok (.invokestatic index, 3)) (hf : cells ≤ R.cells ∧ slots ≤ R.slots) :
    va_Run p l e R s m args below meth c H locs cells slots 0 0 (F0 m pc ls st0) rest (Qc As.toArray) (t_fr o (o + n)) :=
  va_runS cx.1 hM cw ⟨hm_blindJ adK adV G H0 o n sh S T _, fun U hU hW => ⟨rfl, cx.2.warm hW, by rw [hU]; exact hw, hJ.warm hW⟩⟩ rfl hn hsz hst (by rw [show (F0 m pc ls st0).monitorRoom = 0 from rfl, Nat.mul_zero, Nat.zero_add]; exact hW) hdg hf
theorem hm_calls {a : Array Value} {Qp : Nat → hm_S → hm_T → Prop} (hr : va_Run p l e R s m args below meth c H locs cells slots 0 0 (F0 m pc ls st0) rest (hm_Qs adK G H0 o n sh Qp a) (t_fr o (o + n))) (hL : hm_L o n locs)
    (kk : ∀ (r : Nat) (S' : hm_S) (T' : hm_T) (H1 : Heap) (locs1 : List Loc), Qp r S' T' → hm_w G H0 o n sh S' T' H1 → hm_L o n locs1 → W p l e R s m args below meth c H1 locs1 cells slots Q (F0 m (pc + 3) ls (.ref (adK r) :: rest))) : W p l e R s m args below meth c H locs cells slots Q (F0 m pc ls st0) := by
  intro T hT X
  obtain ⟨v, st₀, t, T', L, h0, X', hLL, e1, e2, ⟨r, S', T1, hv, hq, hw⟩, st⟩ := hr T hT X
  cases hv
  obtain ⟨t2, a1, b1⟩ := kk r S' T1 T'.heap (locs ++ L) hq (by rw [e1]; exact hw) (hL.app hLL) T' rfl X'
  exact ⟨t2, st t2 a1, b1⟩
end HJ
theorem hm_recvS {adK adV : Nat → Nat} {o : Nat} {H : Heap} {s : State} {j : Nat} (h : hm_Jh adK adV o H s) (hj : j < 9) : ∃ cell : Cell, H[adK j]? = some cell ∧ cell.vm.isStatics = false ∧ s.vm.findClass "java/lang/String" = some cell.cls := by
  obtain ⟨cell, h1, h2, h3, -⟩ := (h.1.1 j hj).1
  exact ⟨cell, h1, h2, h3⟩
section RJ
variable {p : Program} {l : Launch} {e : Env} {s : State} {m : MethodId} {args : Array Value} {below : List Frame} {meth : Method} {c : Code} {G : hm_G} {H0 : Heap} {o n : Nat} {sh : hm_Sh} {adK adV : Nat → Nat} {R : Room}
abbrev rm_9_spells : Room := { frames := 5, cells := 0, slots := 0, locals := 141 }
def y_9_spells : MethodName := ⟨"HeapGames$Text", "spells", "(ILjava/lang/String;)Z"⟩
abbrev rm_7_digitsOfName : Room := { frames := 6, cells := 0, slots := 0, locals := 164 }
def y_7_digitsOfName : MethodName := ⟨"HeapGames$RulesReader", "digitsOfName", "(LHeapGames$Text;I)Ljava/lang/String;"⟩
abbrev rm_7_readName : Room := { frames := 7, cells := 0, slots := 0, locals := 185 }
def y_7_readName : MethodName := ⟨"HeapGames$RulesReader", "readName", "(LHeapGames$Text;)I"⟩
abbrev rm_7_faultOf : Room := { frames := 8, cells := 0, slots := 0, locals := 209 }
def y_7_faultOf : MethodName := ⟨"HeapGames$RulesReader", "faultOf", "(LHeapGames$Text;)I"⟩
abbrev rm_10_readRules : Room := { frames := 9, cells := 0, slots := 0, locals := 231 }
def y_10_readRules : MethodName := ⟨"HeapGames", "readRules", "()I"⟩
theorem gf_10_60 {R : Room} {H : Heap} {locs : List Loc} {cells slots : Nat} {Q : State → Prop} {cc : ByteArray} {pc nL : Nat} {ls : Array Slot} {rest : List Value} {S : hm_S} {T : hm_T} (cx : hm_cx G p s m args c cc nL "HeapGames") (hw : hm_w G H0 o n sh S T H) {i : Nat} {r : Nat} (hi : i < n) {fs : List Nat} (hs : sh i = .inr (10, fs)) (hv : fs[6]? = some (r + 3)) (hdg : decode cc pc = .ok (.getfield 60, 3)) (kk : W p l e R s m args below meth c H locs cells slots Q (F0 m (pc + 3) ls (.ref (o + r) :: rest))) : W p l e R s m args below meth c H locs cells slots Q (F0 m pc ls (.ref (o + i) :: rest)) := hm_get cx hw hin_10 rfl 6 (by decide) hq_412 rfl hi hs hv hdg kk
theorem gf_7_51 {R : Room} {H : Heap} {locs : List Loc} {cells slots : Nat} {Q : State → Prop} {cc : ByteArray} {pc nL : Nat} {ls : Array Slot} {rest : List Value} {S : hm_S} {T : hm_T} (cx : hm_cx G p s m args c cc nL "HeapGames$RulesReader") (hw : hm_w G H0 o n sh S T H) {i : Nat} (hi : i < n) {fs : List Nat} (hs : sh i = .inr (9, fs)) (hv : fs[1]? = some 0) (hdg : decode cc pc = .ok (.getfield 51, 3)) (kk : W p l e R s m args below meth c H locs cells slots Q (F0 m (pc + 3) ls (.int (S i 1) :: rest))) : W p l e R s m args below meth c H locs cells slots Q (F0 m pc ls (.ref (o + i) :: rest)) := hm_getN cx hw (host := "HeapGames") hin_9 rfl 1 (by decide) (by decide +kernel) rfl hi hs hv hdg kk
theorem mw_10_114 {R : Room} (ht : ∀ w ∈ hm_tbl, w.before args s = true) (hR : rm_7_faultOf.frames + 1 ≤ R.frames ∧ 8 + (3 + 11) + rm_7_faultOf.locals ≤ R.locals) : CallW R s args "HeapGames" "HeapGames$RulesReader" 114 y_7_faultOf prog_9_method_3_code 3 (some .int) (hm_ws y_7_faultOf prog_9_method_3_code 3 (some .int)) rm_7_faultOf 0 0 1 := ⟨callB_of 1 ht (hm_good hq_510) rfl rfl rfl (ht _ hq_83) (ht _ hq_507) (by decide +kernel) hR, ht _ hq_508, ht _ hq_509⟩
theorem mw_10_118 {R : Room} (ht : ∀ w ∈ hm_tbl, w.before args s = true) (hR : rm_7_digitOf.frames + 1 ≤ R.frames ∧ 8 + (2 + 11) + rm_7_digitOf.locals ≤ R.locals) : CallW R s args "HeapGames" "HeapGames$RulesReader" 118 y_7_digitOf prog_9_method_2_code 2 (some .int) (hm_ws y_7_digitOf prog_9_method_2_code 2 (some .int)) rm_7_digitOf 0 0 1 := ⟨callB_of 1 ht (hm_good hq_624) rfl rfl rfl (ht _ hq_83) (ht _ hq_621) (by decide +kernel) hR, ht _ hq_622, ht _ hq_623⟩
theorem mw_7_24 {R : Room} (ht : ∀ w ∈ hm_tbl, w.before args s = true) (hR : rm_5_clear.frames + 1 ≤ R.frames ∧ 8 + (1 + 11) + rm_5_clear.locals ≤ R.locals) : CallW R s args "HeapGames$RulesReader" "HeapGames$Row" 24 y_5_clear prog_7_method_5_code 1 none (hm_ws y_5_clear prog_7_method_5_code 1 none) rm_5_clear 0 0 0 := ⟨callB_of 0 ht (hm_good hq_466) rfl rfl rfl (ht _ hq_76) (ht _ hq_511) (by decide +kernel) hR, ht _ hq_464, ht _ hq_465⟩
theorem mw_7_27 {R : Room} (ht : ∀ w ∈ hm_tbl, w.before args s = true) (hR : rm_9_startReading.frames + 1 ≤ R.frames ∧ 8 + (1 + 11) + rm_9_startReading.locals ≤ R.locals) : CallW R s args "HeapGames$RulesReader" "HeapGames$Text" 27 y_9_startReading prog_11_method_5_code 1 none (hm_ws y_9_startReading prog_11_method_5_code 1 none) rm_9_startReading 0 0 0 := ⟨callB_of 0 ht (hm_good hq_515) rfl rfl rfl (ht _ hq_82) (ht _ hq_512) (by decide +kernel) hR, ht _ hq_513, ht _ hq_514⟩
theorem mw_7_32 {R : Room} (ht : ∀ w ∈ hm_tbl, w.before args s = true) (hR : rm_9_isNextSmallLetter.frames + 1 ≤ R.frames ∧ 8 + (1 + 11) + rm_9_isNextSmallLetter.locals ≤ R.locals) : CallW R s args "HeapGames$RulesReader" "HeapGames$Text" 32 y_9_isNextSmallLetter prog_11_method_8_code 1 (some .boolean) (hm_ws y_9_isNextSmallLetter prog_11_method_8_code 1 (some .boolean)) rm_9_isNextSmallLetter 0 0 0 := ⟨callB_of 0 ht (hm_good hq_524) rfl rfl rfl (ht _ hq_82) (ht _ hq_521) (by decide +kernel) hR, ht _ hq_522, ht _ hq_523⟩
theorem mw_7_36 {R : Room} (ht : ∀ w ∈ hm_tbl, w.before args s = true) (hR : rm_7_readName.frames + 1 ≤ R.frames ∧ 8 + (5 + 11) + rm_7_readName.locals ≤ R.locals) : CallW R s args "HeapGames$RulesReader" "HeapGames$RulesReader" 36 y_7_readName prog_9_method_4_code 5 (some .int) (hm_ws y_7_readName prog_9_method_4_code 5 (some .int)) rm_7_readName 0 0 1 := ⟨callB_of 1 ht (hm_good hq_536) rfl rfl rfl (ht _ hq_83) (ht _ hq_533) (by decide +kernel) hR, ht _ hq_535, ht _ hq_3⟩
theorem mw_7_40 {R : Room} (ht : ∀ w ∈ hm_tbl, w.before args s = true) (hR : rm_7_readOctals.frames + 1 ≤ R.frames ∧ 8 + (5 + 11) + rm_7_readOctals.locals ≤ R.locals) : CallW R s args "HeapGames$RulesReader" "HeapGames$RulesReader" 40 y_7_readOctals prog_9_method_6_code 5 (some .int) (hm_ws y_7_readOctals prog_9_method_6_code 5 (some .int)) rm_7_readOctals 0 0 1 := ⟨callB_of 1 ht (hm_good hq_611) rfl rfl rfl (ht _ hq_83) (ht _ hq_608) (by decide +kernel) hR, ht _ hq_610, ht _ hq_4⟩
theorem mw_7_43 {R : Room} (ht : ∀ w ∈ hm_tbl, w.before args s = true) (hR : rm_9_faultOfRest.frames + 1 ≤ R.frames ∧ 8 + (1 + 11) + rm_9_faultOfRest.locals ≤ R.locals) : CallW R s args "HeapGames$RulesReader" "HeapGames$Text" 43 y_9_faultOfRest prog_11_method_11_code 1 (some .int) (hm_ws y_9_faultOfRest prog_11_method_11_code 1 (some .int)) rm_9_faultOfRest 0 0 0 := ⟨callB_of 0 ht (hm_good hq_620) rfl rfl rfl (ht _ hq_82) (ht _ hq_617) (by decide +kernel) hR, ht _ hq_618, ht _ hq_619⟩
theorem mw_7_54 {R : Room} (ht : ∀ w ∈ hm_tbl, w.before args s = true) (hR : rm_7_digitsOfName.frames + 1 ≤ R.frames ∧ 8 + (2 + 11) + rm_7_digitsOfName.locals ≤ R.locals) : CallB R s args "HeapGames$RulesReader" 54 y_7_digitsOfName prog_9_method_5_code 2 (some (.object "java/lang/String")) (hm_ws y_7_digitsOfName prog_9_method_5_code 2 (some (.object "java/lang/String"))) rm_7_digitsOfName 0 0 2 ∧ (Cond.static y_7_digitsOfName).before args s = true := ⟨callB_of 2 ht (hm_good hq_539) rfl rfl rfl (ht _ hq_83) (ht _ hq_537) (by decide +kernel) hR, ht _ hq_538⟩
theorem mw_7_75 {R : Room} (ht : ∀ w ∈ hm_tbl, w.before args s = true) (hR : rm_9_spells.frames + 1 ≤ R.frames ∧ 8 + (4 + 11) + rm_9_spells.locals ≤ R.locals) : CallW R s args "HeapGames$RulesReader" "HeapGames$Text" 75 y_9_spells prog_11_method_12_code 4 (some .boolean) (hm_ws y_9_spells prog_11_method_12_code 4 (some .boolean)) rm_9_spells 0 0 2 := ⟨callB_of 2 ht (hm_good hq_544) rfl rfl rfl (ht _ hq_82) (ht _ hq_541) (by decide +kernel) hR, ht _ hq_542, ht _ hq_543⟩
theorem ms_9_45 (ht : ∀ w ∈ hm_tbl, w.before args s = true) (hR : rm_j_length.frames + 1 ≤ R.frames ∧ 8 + (1 + 11) + rm_j_length.locals ≤ R.locals) : CallW R s args "HeapGames$Text" "java/lang/String" 45 y_j_length prog_15_method_54_code 1 (some .int) (hm_ws y_j_length prog_15_method_54_code 1 (some .int)) rm_j_length 0 0 0 := ⟨callB_of 0 ht (hm_good hq_548) rfl rfl rfl (ht _ hq_88) (ht _ hq_545) (by decide +kernel) hR, ht _ hq_546, ht _ hq_547⟩
theorem ms_9_49 (ht : ∀ w ∈ hm_tbl, w.before args s = true) (hR : rm_j_charAt.frames + 1 ≤ R.frames ∧ 8 + (2 + 11) + rm_j_charAt.locals ≤ R.locals) : CallW R s args "HeapGames$Text" "java/lang/String" 49 y_j_charAt prog_15_method_56_code 2 (some .char) (hm_ws y_j_charAt prog_15_method_56_code 2 (some .char)) rm_j_charAt 0 0 1 := ⟨callB_of 1 ht (hm_good hq_558) rfl rfl rfl (ht _ hq_88) (ht _ hq_555) (by decide +kernel) hR, ht _ hq_556, ht _ hq_557⟩
theorem ms_7_58 (ht : ∀ w ∈ hm_tbl, w.before args s = true) (hR : rm_j_length.frames + 1 ≤ R.frames ∧ 8 + (1 + 11) + rm_j_length.locals ≤ R.locals) : CallW R s args "HeapGames$RulesReader" "java/lang/String" 58 y_j_length prog_15_method_54_code 1 (some .int) (hm_ws y_j_length prog_15_method_54_code 1 (some .int)) rm_j_length 0 0 0 := ⟨callB_of 0 ht (hm_good hq_548) rfl rfl rfl (ht _ hq_88) (ht _ hq_601) (by decide +kernel) hR, ht _ hq_546, ht _ hq_547⟩
theorem ms_7_70 (ht : ∀ w ∈ hm_tbl, w.before args s = true) (hR : rm_j_isEmpty.frames + 1 ≤ R.frames ∧ 8 + (1 + 11) + rm_j_isEmpty.locals ≤ R.locals) : CallW R s args "HeapGames$RulesReader" "java/lang/String" 70 y_j_isEmpty prog_15_method_55_code 1 (some .boolean) (hm_ws y_j_isEmpty prog_15_method_55_code 1 (some .boolean)) rm_j_isEmpty 0 0 0 := ⟨callB_of 0 ht (hm_good hq_607) rfl rfl rfl (ht _ hq_88) (ht _ hq_604) (by decide +kernel) hR, ht _ hq_605, ht _ hq_606⟩
theorem ms_7_62 (ht : ∀ w ∈ hm_tbl, w.before args s = true) (hR : rm_j_charAt.frames + 1 ≤ R.frames ∧ 8 + (2 + 11) + rm_j_charAt.locals ≤ R.locals) : CallW R s args "HeapGames$RulesReader" "java/lang/String" 62 y_j_charAt prog_15_method_56_code 2 (some .char) (hm_ws y_j_charAt prog_15_method_56_code 2 (some .char)) rm_j_charAt 0 0 1 := ⟨callB_of 1 ht (hm_good hq_558) rfl rfl rfl (ht _ hq_88) (ht _ hq_602) (by decide +kernel) hR, ht _ hq_556, ht _ hq_557⟩
/-! ===== HeapGames$Text.spells ===== -/
theorem d_9_spells_0 : decode prog_11_method_12_code 0 = .ok (.aload_n 0, 1) := by decide +kernel
theorem d_9_spells_1 : decode prog_11_method_12_code 1 = .ok (.getfield 32, 3) := by decide +kernel
theorem d_9_spells_4 : decode prog_11_method_12_code 4 = .ok (.iload_n 1, 1) := by decide +kernel
theorem d_9_spells_5 : decode prog_11_method_12_code 5 = .ok (.isub, 1) := by decide +kernel
theorem d_9_spells_6 : decode prog_11_method_12_code 6 = .ok (.aload_n 2, 1) := by decide +kernel
theorem d_9_spells_7 : decode prog_11_method_12_code 7 = .ok (.invokevirtual 45, 3) := by decide +kernel
theorem d_9_spells_10 : decode prog_11_method_12_code 10 = .ok (.if_icmp .eq 5, 3) := by decide +kernel
theorem d_9_spells_13 : decode prog_11_method_12_code 13 = .ok (.iconst 0, 1) := by decide +kernel
theorem d_9_spells_14 : decode prog_11_method_12_code 14 = .ok (.ireturn, 1) := by decide +kernel
theorem d_9_spells_15 : decode prog_11_method_12_code 15 = .ok (.iconst 0, 1) := by decide +kernel
theorem d_9_spells_16 : decode prog_11_method_12_code 16 = .ok (.istore_n 3, 1) := by decide +kernel
theorem d_9_spells_17 : decode prog_11_method_12_code 17 = .ok (.iload_n 3, 1) := by decide +kernel
theorem d_9_spells_18 : decode prog_11_method_12_code 18 = .ok (.aload_n 2, 1) := by decide +kernel
theorem d_9_spells_19 : decode prog_11_method_12_code 19 = .ok (.invokevirtual 45, 3) := by decide +kernel
theorem d_9_spells_22 : decode prog_11_method_12_code 22 = .ok (.if_icmp .ge 26, 3) := by decide +kernel
theorem d_9_spells_25 : decode prog_11_method_12_code 25 = .ok (.aload_n 0, 1) := by decide +kernel
theorem d_9_spells_26 : decode prog_11_method_12_code 26 = .ok (.iload_n 1, 1) := by decide +kernel
theorem d_9_spells_27 : decode prog_11_method_12_code 27 = .ok (.iload_n 3, 1) := by decide +kernel
theorem d_9_spells_28 : decode prog_11_method_12_code 28 = .ok (.iadd, 1) := by decide +kernel
theorem d_9_spells_29 : decode prog_11_method_12_code 29 = .ok (.invokevirtual 38, 3) := by decide +kernel
theorem d_9_spells_32 : decode prog_11_method_12_code 32 = .ok (.aload_n 2, 1) := by decide +kernel
theorem d_9_spells_33 : decode prog_11_method_12_code 33 = .ok (.iload_n 3, 1) := by decide +kernel
theorem d_9_spells_34 : decode prog_11_method_12_code 34 = .ok (.invokevirtual 49, 3) := by decide +kernel
theorem d_9_spells_37 : decode prog_11_method_12_code 37 = .ok (.if_icmp .eq 5, 3) := by decide +kernel
theorem d_9_spells_40 : decode prog_11_method_12_code 40 = .ok (.iconst 0, 1) := by decide +kernel
theorem d_9_spells_41 : decode prog_11_method_12_code 41 = .ok (.ireturn, 1) := by decide +kernel
theorem d_9_spells_42 : decode prog_11_method_12_code 42 = .ok (.iinc 3 1, 3) := by decide +kernel
theorem d_9_spells_45 : decode prog_11_method_12_code 45 = .ok (.goto (-28), 3) := by decide +kernel
theorem d_9_spells_48 : decode prog_11_method_12_code 48 = .ok (.iconst 1, 1) := by decide +kernel
theorem d_9_spells_49 : decode prog_11_method_12_code 49 = .ok (.ireturn, 1) := by decide +kernel
def wb_9_spells_17 (Q : Int32 → hm_S → hm_T → Prop) (K17 : Int32 → Nat → Int32 → hm_S → hm_T → Prop) (x1 : Int32) (j2 : Nat) (x3 : Int32) (S : hm_S) (T : hm_T) : Prop :=
  (j2 < 9 ∧ (if (nI (lenJ j2)) ≤ x3 then Q 1 S T else wp_9_letterAt (x1 + x3) S T (fun r1 S1 T1 => (j2 < 9 ∧ vp_in x3 (lenJ j2) ∧ (if r1 = (chJ j2 (Int32.toNatClampNeg x3)) then K17 x1 j2 (x3 + 1) S1 T1 else Q 0 S1 T1)))))
set_option maxHeartbeats 4000000 in
set_option maxRecDepth 20000 in
theorem bk_9_spells_17 {Q : Int32 → hm_S → hm_T → Prop} {K17 : Int32 → Nat → Int32 → hm_S → hm_T → Prop} (hJ : hm_Jh adK adV o H0 s) (cx : hm_cx G p s m args c prog_11_method_12_code 4 "HeapGames$Text") (hr : meth.sig.returnType = some .boolean) (hlk : meth.locks = false) (k17 : ∀ (x1 : Int32) (j2 : Nat) (x3 : Int32) (S : hm_S) (T : hm_T) (H : Heap) (locs : List Loc) (ls : Array Slot), K17 x1 j2 x3 S T → hm_w G H0 o 74 shX S T H → hm_L o 74 locs → lv_has ls 4 [(0, .ref (o + 64)), (1, .int x1), (2, .ref (adK j2)), (3, .int x3)] → W p l e rm_9_spells s m args below meth c H locs 0 0 (MQ below (hm_Qi G H0 o 74 shX Q) args s 0 0 (t_fr o (o + 74))) (F0 m 17 ls [])) {x1 : Int32} {j2 : Nat} {x3 : Int32} {S : hm_S} {T : hm_T} {H : Heap} {locs : List Loc} {ls : Array Slot} (h : wb_9_spells_17 Q K17 x1 j2 x3 S T) (hw : hm_w G H0 o 74 shX S T H) (hL : hm_L o 74 locs) (hl : lv_has ls 4 [(0, .ref (o + 64)), (1, .int x1), (2, .ref (adK j2)), (3, .int x3)]) : W p l e rm_9_spells s m args below meth c H locs 0 0 (MQ below (hm_Qi G H0 o 74 shX Q) args s 0 0 (t_fr o (o + 74))) (F0 m 17 ls []) := by
  have hx := cx.1.1
  have hb := cx.1.2.1
  unfold wb_9_spells_17 at h
  refine lv_iload_n hx hb d_9_spells_17 rfl (lv_at hl 3 rfl) ?_
  refine lv_aload_n hx hb d_9_spells_18 rfl (lv_at hl 2 rfl) ?_
  obtain ⟨hj, h⟩ := h
  have hJh := hJ.here hw
  refine hj_calli (va_runV (As := []) (rest := [.int x3]) cx.1 (cj_length hj) (ms_9_45 cx.1.2.2.2.2 ⟨Nat.le_of_ble_eq_true rfl, Nat.le_of_ble_eq_true rfl⟩) ⟨hj_blind adK adV o _, hm_recvS hJh hj, fun U hU hW => ⟨rfl, by rw [hU]; exact hJh.warm hW⟩⟩ rfl rfl hl.1 rfl (lv_room (Nat.le_of_ble_eq_true rfl)) d_9_spells_19 ⟨Nat.zero_le _, Nat.zero_le _⟩) (fun r hr0 => ?_)
  subst hr0
  refine lv_icmp_ge (tgt := 48) hx hb d_9_spells_22 (by decide) (fun hc => ?_) (fun hc => ?_)
  · replace h := hm_pos hc h
    refine lv_iconst (v := 1) hx hb d_9_spells_48 (by decide) ?_
    exact W.zret hx hb hr rfl (fun t ht _ => ⟨_, _, _, rfl, h, by rw [ht]; exact hw⟩) hL d_9_spells_49
  · replace h := hm_neg hc h
    refine lv_aload_n hx hb d_9_spells_25 rfl (lv_at hl 0 rfl) ?_
    refine lv_iload_n hx hb d_9_spells_26 rfl (lv_at hl 1 rfl) ?_
    refine lv_iload_n hx hb d_9_spells_27 rfl (lv_at hl 3 rfl) ?_
    refine lv_iadd hx hb d_9_spells_28 ?_
    refine hm_calli (hm_rV (i := 64) (As := [.int (x1 + x3)]) (rest := []) cx hw (ct_9_letterAt h) (mw_9_38 cx.1.2.2.2.2 ⟨Nat.le_of_ble_eq_true rfl, Nat.le_of_ble_eq_true rfl⟩) (by decide) sx_64 rfl rfl hl.1 rfl (Nat.le_of_ble_eq_true rfl) d_9_spells_29 ⟨Nat.zero_le _, Nat.zero_le _⟩) hL (fun r1 S1 T1 H locs h hw hL => ?_)
    refine lv_aload_n hx hb d_9_spells_32 rfl (lv_at hl 2 rfl) ?_
    refine lv_iload_n hx hb d_9_spells_33 rfl (lv_at hl 3 rfl) ?_
    obtain ⟨hj, hx1, h⟩ := h
    have hJh := hJ.here hw
    refine hj_calli (va_runV (As := [.int x3]) (rest := [.int r1]) cx.1 (cj_charAt hj hx1) (ms_9_49 cx.1.2.2.2.2 ⟨Nat.le_of_ble_eq_true rfl, Nat.le_of_ble_eq_true rfl⟩) ⟨hj_blind adK adV o _, hm_recvS hJh hj, fun U hU hW => ⟨rfl, by rw [hU]; exact hJh.warm hW⟩⟩ rfl rfl hl.1 rfl (lv_room (Nat.le_of_ble_eq_true rfl)) d_9_spells_34 ⟨Nat.zero_le _, Nat.zero_le _⟩) (fun r hr0 => ?_)
    subst hr0
    refine lv_icmp_eq (tgt := 42) hx hb d_9_spells_37 (by decide) (fun hc => ?_) (fun hc => ?_)
    · replace h := hm_pos hc h
      refine lv_iinc (v := (x3 + 1)) (lv' := [(3, .int (x3 + 1)), (0, .ref (o + 64)), (1, .int x1), (2, .ref (adK j2))]) hx hb d_9_spells_42 hl (k := 3) rfl rfl (by decide) rfl (fun ls hl => ?_)
      refine lv_goto (tgt := 17) hx hb d_9_spells_45 (by decide) ?_
      exact k17 _ _ _ _ _ _ _ _ h hw hL (lv_sub hl [1, 2, 3, 0] rfl)
    · replace h := hm_neg hc h
      refine lv_iconst (v := 0) hx hb d_9_spells_40 (by decide) ?_
      exact W.zret hx hb hr rfl (fun t ht _ => ⟨_, _, _, rfl, h, by rw [ht]; exact hw⟩) hL d_9_spells_41
def wl_9_spells_17 (Q : Int32 → hm_S → hm_T → Prop) : Nat → Int32 → Nat → Int32 → hm_S → hm_T → Prop
  | 0, _, _, _, _, _ => False
  | f + 1, x1, j2, x3, S, T => wb_9_spells_17 Q (wl_9_spells_17 Q f) x1 j2 x3 S T
theorem lp_9_spells_17 {Q : Int32 → hm_S → hm_T → Prop} (hJ : hm_Jh adK adV o H0 s) (cx : hm_cx G p s m args c prog_11_method_12_code 4 "HeapGames$Text") (hr : meth.sig.returnType = some .boolean) (hlk : meth.locks = false) : ∀ (f : Nat) (x1 : Int32) (j2 : Nat) (x3 : Int32) (S : hm_S) (T : hm_T) (H : Heap) (locs : List Loc) (ls : Array Slot), wl_9_spells_17 Q f x1 j2 x3 S T → hm_w G H0 o 74 shX S T H → hm_L o 74 locs → lv_has ls 4 [(0, .ref (o + 64)), (1, .int x1), (2, .ref (adK j2)), (3, .int x3)] → W p l e rm_9_spells s m args below meth c H locs 0 0 (MQ below (hm_Qi G H0 o 74 shX Q) args s 0 0 (t_fr o (o + 74))) (F0 m 17 ls []) := by
  intro f
  induction f with
  | zero => intro x1 j2 x3 S T H locs ls h; exact h.elim
  | succ f ih => intro x1 j2 x3 S T H locs ls h hw hL hl; exact bk_9_spells_17 hJ cx hr hlk ih h hw hL hl
def wp_9_spells (x1 : Int32) (j2 : Nat) (S : hm_S) (T : hm_T) (Q : Int32 → hm_S → hm_T → Prop) : Prop :=
  (j2 < 9 ∧ (if ((S 64 2) - x1) = (nI (lenJ j2)) then ∃ f, wl_9_spells_17 Q f x1 j2 0 S T else Q 0 S T))
set_option maxHeartbeats 4000000 in
set_option maxRecDepth 20000 in
theorem bk_9_spells_0 {Q : Int32 → hm_S → hm_T → Prop} (hJ : hm_Jh adK adV o H0 s) (cx : hm_cx G p s m args c prog_11_method_12_code 4 "HeapGames$Text") (hr : meth.sig.returnType = some .boolean) (hlk : meth.locks = false) {x1 : Int32} {j2 : Nat} {S : hm_S} {T : hm_T} {H : Heap} {locs : List Loc} {ls : Array Slot} (h : wp_9_spells x1 j2 S T Q) (hw : hm_w G H0 o 74 shX S T H) (hL : hm_L o 74 locs) (hl : lv_has ls 4 [(0, .ref (o + 64)), (1, .int x1), (2, .ref (adK j2))]) : W p l e rm_9_spells s m args below meth c H locs 0 0 (MQ below (hm_Qi G H0 o 74 shX Q) args s 0 0 (t_fr o (o + 74))) (F0 m 0 ls []) := by
  have hx := cx.1.1
  have hb := cx.1.2.1
  unfold wp_9_spells at h
  refine lv_aload_n hx hb d_9_spells_0 rfl (lv_at hl 0 rfl) ?_
  refine gf_9_32 cx hw (i := 64) (by decide) sx_64 rfl d_9_spells_1 ?_
  refine lv_iload_n hx hb d_9_spells_4 rfl (lv_at hl 1 rfl) ?_
  refine lv_isub hx hb d_9_spells_5 ?_
  refine lv_aload_n hx hb d_9_spells_6 rfl (lv_at hl 2 rfl) ?_
  obtain ⟨hj, h⟩ := h
  have hJh := hJ.here hw
  refine hj_calli (va_runV (As := []) (rest := [.int ((S 64 2) - x1)]) cx.1 (cj_length hj) (ms_9_45 cx.1.2.2.2.2 ⟨Nat.le_of_ble_eq_true rfl, Nat.le_of_ble_eq_true rfl⟩) ⟨hj_blind adK adV o _, hm_recvS hJh hj, fun U hU hW => ⟨rfl, by rw [hU]; exact hJh.warm hW⟩⟩ rfl rfl hl.1 rfl (lv_room (Nat.le_of_ble_eq_true rfl)) d_9_spells_7 ⟨Nat.zero_le _, Nat.zero_le _⟩) (fun r hr0 => ?_)
  subst hr0
  refine lv_icmp_eq (tgt := 15) hx hb d_9_spells_10 (by decide) (fun hc => ?_) (fun hc => ?_)
  · replace h := hm_pos hc h
    refine lv_iconst (v := 0) hx hb d_9_spells_15 (by decide) ?_
    refine lv_istore_n (lv' := [(3, .int 0), (0, .ref (o + 64)), (1, .int x1), (2, .ref (adK j2))]) hx hb d_9_spells_16 rfl hl (by decide) rfl (fun ls hl => ?_)
    obtain ⟨f, h⟩ := h
    exact lp_9_spells_17 hJ cx hr hlk f _ _ _ _ _ _ _ _ h hw hL (lv_sub hl [1, 2, 3, 0] rfl)
  · replace h := hm_neg hc h
    refine lv_iconst (v := 0) hx hb d_9_spells_13 (by decide) ?_
    exact W.zret hx hb hr rfl (fun t ht _ => ⟨_, _, _, rfl, h, by rw [ht]; exact hw⟩) hL d_9_spells_14
set_option maxHeartbeats 4000000 in
set_option maxRecDepth 20000 in
theorem ct_9_spells {x1 : Int32} {j2 : Nat} {S : hm_S} {T : hm_T} {Q : Int32 → hm_S → hm_T → Prop} (h : wp_9_spells x1 j2 S T Q) : hm_MJ adK adV l G H0 o 74 shX y_9_spells prog_11_method_12_code 4 (some .boolean) rm_9_spells S T [.ref (o + 64), .int x1, .ref (adK j2)] (hm_Qi G H0 o 74 shX Q) := by
  refine Met.ofW (cc := prog_11_method_12_code) (maxL := 4) (ret := some .boolean) (by decide) rfl ?_
  intro p e s m args below meth c s₁ B hml hv
  obtain ⟨rfl, hK, hw, hJ⟩ := hv
  have cx : hm_cx G p s m _ c prog_11_method_12_code 4 "HeapGames$Text" := ⟨⟨B.exec, B.bytes, hml, findClass_of_methodNamed B.named, fun w hq => atoms_spec (ws := hm_ws y_9_spells prog_11_method_12_code 4 (some .boolean)) B.pre w (List.mem_cons_of_mem _ hq)⟩, hK⟩
  have hl := lv_entry ([.ref (o + 64), .int x1, .ref (adK j2)]) (n := 4) (Nat.le_of_ble_eq_true rfl)
  rw [lg_entry_eq]
  generalize (lg_sl ([.ref (o + 64), .int x1, .ref (adK j2)]) ++ List.replicate (4 - (lg_sl ([.ref (o + 64), .int x1, .ref (adK j2)])).length) Slot.unset).toArray = ls at hl ⊢
  have hl : lv_has ls 4 [(0, .ref (o + 64)), (1, .int x1), (2, .ref (adK j2))] := hl
  exact bk_9_spells_0 hJ cx B.returns B.notSynchronized h hw (hm_L0 _ _) hl
/-! ===== HeapGames$RulesReader.digitsOfName ===== -/
theorem d_7_digitsOfName_0 : decode prog_9_method_5_code 0 = .ok (.aload_n 0, 1) := by decide +kernel
theorem d_7_digitsOfName_1 : decode prog_9_method_5_code 1 = .ok (.iload_n 1, 1) := by decide +kernel
theorem d_7_digitsOfName_2 : decode prog_9_method_5_code 2 = .ok (.ldc 73, 2) := by decide +kernel
theorem d_7_digitsOfName_4 : decode prog_9_method_5_code 4 = .ok (.invokevirtual 75, 3) := by decide +kernel
theorem d_7_digitsOfName_7 : decode prog_9_method_5_code 7 = .ok (.ifCond .eq 6, 3) := by decide +kernel
theorem d_7_digitsOfName_10 : decode prog_9_method_5_code 10 = .ok (.ldc 79, 2) := by decide +kernel
theorem d_7_digitsOfName_12 : decode prog_9_method_5_code 12 = .ok (.areturn, 1) := by decide +kernel
theorem d_7_digitsOfName_13 : decode prog_9_method_5_code 13 = .ok (.aload_n 0, 1) := by decide +kernel
theorem d_7_digitsOfName_14 : decode prog_9_method_5_code 14 = .ok (.iload_n 1, 1) := by decide +kernel
theorem d_7_digitsOfName_15 : decode prog_9_method_5_code 15 = .ok (.ldc 81, 2) := by decide +kernel
theorem d_7_digitsOfName_17 : decode prog_9_method_5_code 17 = .ok (.invokevirtual 75, 3) := by decide +kernel
theorem d_7_digitsOfName_20 : decode prog_9_method_5_code 20 = .ok (.ifCond .eq 6, 3) := by decide +kernel
theorem d_7_digitsOfName_23 : decode prog_9_method_5_code 23 = .ok (.ldc 83, 2) := by decide +kernel
theorem d_7_digitsOfName_25 : decode prog_9_method_5_code 25 = .ok (.areturn, 1) := by decide +kernel
theorem d_7_digitsOfName_26 : decode prog_9_method_5_code 26 = .ok (.aload_n 0, 1) := by decide +kernel
theorem d_7_digitsOfName_27 : decode prog_9_method_5_code 27 = .ok (.iload_n 1, 1) := by decide +kernel
theorem d_7_digitsOfName_28 : decode prog_9_method_5_code 28 = .ok (.ldc 85, 2) := by decide +kernel
theorem d_7_digitsOfName_30 : decode prog_9_method_5_code 30 = .ok (.invokevirtual 75, 3) := by decide +kernel
theorem d_7_digitsOfName_33 : decode prog_9_method_5_code 33 = .ok (.ifCond .eq 6, 3) := by decide +kernel
theorem d_7_digitsOfName_36 : decode prog_9_method_5_code 36 = .ok (.ldc 87, 2) := by decide +kernel
theorem d_7_digitsOfName_38 : decode prog_9_method_5_code 38 = .ok (.areturn, 1) := by decide +kernel
theorem d_7_digitsOfName_39 : decode prog_9_method_5_code 39 = .ok (.aload_n 0, 1) := by decide +kernel
theorem d_7_digitsOfName_40 : decode prog_9_method_5_code 40 = .ok (.iload_n 1, 1) := by decide +kernel
theorem d_7_digitsOfName_41 : decode prog_9_method_5_code 41 = .ok (.ldc 89, 2) := by decide +kernel
theorem d_7_digitsOfName_43 : decode prog_9_method_5_code 43 = .ok (.invokevirtual 75, 3) := by decide +kernel
theorem d_7_digitsOfName_46 : decode prog_9_method_5_code 46 = .ok (.ifCond .eq 8, 3) := by decide +kernel
theorem d_7_digitsOfName_49 : decode prog_9_method_5_code 49 = .ok (.ldc 91, 2) := by decide +kernel
theorem d_7_digitsOfName_51 : decode prog_9_method_5_code 51 = .ok (.goto 5, 3) := by decide +kernel
theorem d_7_digitsOfName_54 : decode prog_9_method_5_code 54 = .ok (.ldc 93, 2) := by decide +kernel
theorem d_7_digitsOfName_56 : decode prog_9_method_5_code 56 = .ok (.areturn, 1) := by decide +kernel
def wp_7_digitsOfName (x1 : Int32) (S : hm_S) (T : hm_T) (Q : Nat → hm_S → hm_T → Prop) : Prop :=
  wp_9_spells x1 0 S T (fun r1 S1 T1 => (if r1 = 0 then wp_9_spells x1 2 S1 T1 (fun r2 S2 T2 => (if r2 = 0 then wp_9_spells x1 4 S2 T2 (fun r3 S3 T3 => (if r3 = 0 then wp_9_spells x1 6 S3 T3 (fun r4 S4 T4 => (if r4 = 0 then Q 8 S4 T4 else Q 7 S4 T4)) else Q 5 S3 T3)) else Q 3 S2 T2)) else Q 1 S1 T1))
set_option maxHeartbeats 4000000 in
set_option maxRecDepth 20000 in
theorem bk_7_digitsOfName_0 {Q : Nat → hm_S → hm_T → Prop} (hJ : hm_Jh adK adV o H0 s) (cx : hm_cx G p s m args c prog_9_method_5_code 2 "HeapGames$RulesReader") (hr : meth.sig.returnType = some (.object "java/lang/String")) (hlk : meth.locks = false) {x1 : Int32} {S : hm_S} {T : hm_T} {H : Heap} {locs : List Loc} {ls : Array Slot} (h : wp_7_digitsOfName x1 S T Q) (hw : hm_w G H0 o 74 shX S T H) (hL : hm_L o 74 locs) (hl : lv_has ls 2 [(0, .ref (o + 64)), (1, .int x1)]) : W p l e rm_7_digitsOfName s m args below meth c H locs 0 0 (MQ below (hm_Qs adK G H0 o 74 shX Q) args s 0 0 (t_fr o (o + 74))) (F0 m 0 ls []) := by
  have hx := cx.1.1
  have hb := cx.1.2.1
  unfold wp_7_digitsOfName at h
  refine lv_aload_n hx hb d_7_digitsOfName_0 rfl (lv_at hl 0 rfl) ?_
  refine lv_iload_n hx hb d_7_digitsOfName_1 rfl (lv_at hl 1 rfl) ?_
  refine va_ldcS hx hb cx.1.2.2.2.1 (hJ.2.2.2 (73, "nim", 0) (by decide)) d_7_digitsOfName_2 ?_
  refine hm_calli (hm_rVJ (i := 64) (As := [.int x1, .ref (adK 0)]) (rest := []) hJ cx hw (ct_9_spells h) (mw_7_75 cx.1.2.2.2.2 ⟨Nat.le_of_ble_eq_true rfl, Nat.le_of_ble_eq_true rfl⟩) (by decide) sx_64 rfl rfl hl.1 rfl (Nat.le_of_ble_eq_true rfl) d_7_digitsOfName_4 ⟨Nat.zero_le _, Nat.zero_le _⟩) hL (fun r1 S1 T1 H locs h hw hL => ?_)
  refine lv_if_eq (tgt := 13) hx hb d_7_digitsOfName_7 (by decide) (fun hc => ?_) (fun hc => ?_)
  · replace h := hm_pos hc h
    refine lv_aload_n hx hb d_7_digitsOfName_13 rfl (lv_at hl 0 rfl) ?_
    refine lv_iload_n hx hb d_7_digitsOfName_14 rfl (lv_at hl 1 rfl) ?_
    refine va_ldcS hx hb cx.1.2.2.2.1 (hJ.2.2.2 (81, "kayles", 2) (by decide)) d_7_digitsOfName_15 ?_
    refine hm_calli (hm_rVJ (i := 64) (As := [.int x1, .ref (adK 2)]) (rest := []) hJ cx hw (ct_9_spells h) (mw_7_75 cx.1.2.2.2.2 ⟨Nat.le_of_ble_eq_true rfl, Nat.le_of_ble_eq_true rfl⟩) (by decide) sx_64 rfl rfl hl.1 rfl (Nat.le_of_ble_eq_true rfl) d_7_digitsOfName_17 ⟨Nat.zero_le _, Nat.zero_le _⟩) hL (fun r2 S2 T2 H locs h hw hL => ?_)
    refine lv_if_eq (tgt := 26) hx hb d_7_digitsOfName_20 (by decide) (fun hc => ?_) (fun hc => ?_)
    · replace h := hm_pos hc h
      refine lv_aload_n hx hb d_7_digitsOfName_26 rfl (lv_at hl 0 rfl) ?_
      refine lv_iload_n hx hb d_7_digitsOfName_27 rfl (lv_at hl 1 rfl) ?_
      refine va_ldcS hx hb cx.1.2.2.2.1 (hJ.2.2.2 (85, "dawson", 4) (by decide)) d_7_digitsOfName_28 ?_
      refine hm_calli (hm_rVJ (i := 64) (As := [.int x1, .ref (adK 4)]) (rest := []) hJ cx hw (ct_9_spells h) (mw_7_75 cx.1.2.2.2.2 ⟨Nat.le_of_ble_eq_true rfl, Nat.le_of_ble_eq_true rfl⟩) (by decide) sx_64 rfl rfl hl.1 rfl (Nat.le_of_ble_eq_true rfl) d_7_digitsOfName_30 ⟨Nat.zero_le _, Nat.zero_le _⟩) hL (fun r3 S3 T3 H locs h hw hL => ?_)
      refine lv_if_eq (tgt := 39) hx hb d_7_digitsOfName_33 (by decide) (fun hc => ?_) (fun hc => ?_)
      · replace h := hm_pos hc h
        refine lv_aload_n hx hb d_7_digitsOfName_39 rfl (lv_at hl 0 rfl) ?_
        refine lv_iload_n hx hb d_7_digitsOfName_40 rfl (lv_at hl 1 rfl) ?_
        refine va_ldcS hx hb cx.1.2.2.2.1 (hJ.2.2.2 (89, "guiles", 6) (by decide)) d_7_digitsOfName_41 ?_
        refine hm_calli (hm_rVJ (i := 64) (As := [.int x1, .ref (adK 6)]) (rest := []) hJ cx hw (ct_9_spells h) (mw_7_75 cx.1.2.2.2.2 ⟨Nat.le_of_ble_eq_true rfl, Nat.le_of_ble_eq_true rfl⟩) (by decide) sx_64 rfl rfl hl.1 rfl (Nat.le_of_ble_eq_true rfl) d_7_digitsOfName_43 ⟨Nat.zero_le _, Nat.zero_le _⟩) hL (fun r4 S4 T4 H locs h hw hL => ?_)
        refine lv_if_eq (tgt := 54) hx hb d_7_digitsOfName_46 (by decide) (fun hc => ?_) (fun hc => ?_)
        · replace h := hm_pos hc h
          refine va_ldcS hx hb cx.1.2.2.2.1 (hJ.2.2.2 (93, "", 8) (by decide)) d_7_digitsOfName_54 ?_
          exact W.aret hx hb hr (Or.inl ⟨_, rfl⟩) (Or.inr ⟨_, rfl⟩) (fun t ht _ => ⟨_, _, _, rfl, h, by rw [ht]; exact hw⟩) hL d_7_digitsOfName_56
        · replace h := hm_neg hc h
          refine va_ldcS hx hb cx.1.2.2.2.1 (hJ.2.2.2 (91, "15", 7) (by decide)) d_7_digitsOfName_49 ?_
          refine lv_goto (tgt := 56) hx hb d_7_digitsOfName_51 (by decide) ?_
          exact W.aret hx hb hr (Or.inl ⟨_, rfl⟩) (Or.inr ⟨_, rfl⟩) (fun t ht _ => ⟨_, _, _, rfl, h, by rw [ht]; exact hw⟩) hL d_7_digitsOfName_56
      · replace h := hm_neg hc h
        refine va_ldcS hx hb cx.1.2.2.2.1 (hJ.2.2.2 (87, "137", 5) (by decide)) d_7_digitsOfName_36 ?_
        exact W.aret hx hb hr (Or.inl ⟨_, rfl⟩) (Or.inr ⟨_, rfl⟩) (fun t ht _ => ⟨_, _, _, rfl, h, by rw [ht]; exact hw⟩) hL d_7_digitsOfName_38
    · replace h := hm_neg hc h
      refine va_ldcS hx hb cx.1.2.2.2.1 (hJ.2.2.2 (83, "77", 3) (by decide)) d_7_digitsOfName_23 ?_
      exact W.aret hx hb hr (Or.inl ⟨_, rfl⟩) (Or.inr ⟨_, rfl⟩) (fun t ht _ => ⟨_, _, _, rfl, h, by rw [ht]; exact hw⟩) hL d_7_digitsOfName_25
  · replace h := hm_neg hc h
    refine va_ldcS hx hb cx.1.2.2.2.1 (hJ.2.2.2 (79, "3333333333", 1) (by decide)) d_7_digitsOfName_10 ?_
    exact W.aret hx hb hr (Or.inl ⟨_, rfl⟩) (Or.inr ⟨_, rfl⟩) (fun t ht _ => ⟨_, _, _, rfl, h, by rw [ht]; exact hw⟩) hL d_7_digitsOfName_12
set_option maxHeartbeats 4000000 in
set_option maxRecDepth 20000 in
theorem ct_7_digitsOfName {x1 : Int32} {S : hm_S} {T : hm_T} {Q : Nat → hm_S → hm_T → Prop} (h : wp_7_digitsOfName x1 S T Q) : hm_MJ adK adV l G H0 o 74 shX y_7_digitsOfName prog_9_method_5_code 2 (some (.object "java/lang/String")) rm_7_digitsOfName S T [.ref (o + 64), .int x1] (hm_Qs adK G H0 o 74 shX Q) := by
  refine Met.ofW (cc := prog_9_method_5_code) (maxL := 2) (ret := some (.object "java/lang/String")) (by decide) rfl ?_
  intro p e s m args below meth c s₁ B hml hv
  obtain ⟨rfl, hK, hw, hJ⟩ := hv
  have cx : hm_cx G p s m _ c prog_9_method_5_code 2 "HeapGames$RulesReader" := ⟨⟨B.exec, B.bytes, hml, findClass_of_methodNamed B.named, fun w hq => atoms_spec (ws := hm_ws y_7_digitsOfName prog_9_method_5_code 2 (some (.object "java/lang/String"))) B.pre w (List.mem_cons_of_mem _ hq)⟩, hK⟩
  have hl := lv_entry ([.ref (o + 64), .int x1]) (n := 2) (Nat.le_of_ble_eq_true rfl)
  rw [lg_entry_eq]
  generalize (lg_sl ([.ref (o + 64), .int x1]) ++ List.replicate (2 - (lg_sl ([.ref (o + 64), .int x1])).length) Slot.unset).toArray = ls at hl ⊢
  have hl : lv_has ls 2 [(0, .ref (o + 64)), (1, .int x1)] := hl
  exact bk_7_digitsOfName_0 hJ cx B.returns B.notSynchronized h hw (hm_L0 _ _) hl
/-! ===== HeapGames$RulesReader.readName ===== -/
theorem d_7_readName_0 : decode prog_9_method_4_code 0 = .ok (.aload_n 1, 1) := by decide +kernel
theorem d_7_readName_1 : decode prog_9_method_4_code 1 = .ok (.getfield 47, 3) := by decide +kernel
theorem d_7_readName_4 : decode prog_9_method_4_code 4 = .ok (.istore_n 2, 1) := by decide +kernel
theorem d_7_readName_5 : decode prog_9_method_4_code 5 = .ok (.aload_n 1, 1) := by decide +kernel
theorem d_7_readName_6 : decode prog_9_method_4_code 6 = .ok (.getfield 47, 3) := by decide +kernel
theorem d_7_readName_9 : decode prog_9_method_4_code 9 = .ok (.aload_n 1, 1) := by decide +kernel
theorem d_7_readName_10 : decode prog_9_method_4_code 10 = .ok (.getfield 51, 3) := by decide +kernel
theorem d_7_readName_13 : decode prog_9_method_4_code 13 = .ok (.if_icmp .ge 23, 3) := by decide +kernel
theorem d_7_readName_16 : decode prog_9_method_4_code 16 = .ok (.aload_n 1, 1) := by decide +kernel
theorem d_7_readName_17 : decode prog_9_method_4_code 17 = .ok (.invokevirtual 32, 3) := by decide +kernel
theorem d_7_readName_20 : decode prog_9_method_4_code 20 = .ok (.ifCond .eq 16, 3) := by decide +kernel
theorem d_7_readName_23 : decode prog_9_method_4_code 23 = .ok (.aload_n 1, 1) := by decide +kernel
theorem d_7_readName_24 : decode prog_9_method_4_code 24 = .ok (.dup, 1) := by decide +kernel
theorem d_7_readName_25 : decode prog_9_method_4_code 25 = .ok (.getfield 47, 3) := by decide +kernel
theorem d_7_readName_28 : decode prog_9_method_4_code 28 = .ok (.iconst 1, 1) := by decide +kernel
theorem d_7_readName_29 : decode prog_9_method_4_code 29 = .ok (.iadd, 1) := by decide +kernel
theorem d_7_readName_30 : decode prog_9_method_4_code 30 = .ok (.putfield 47, 3) := by decide +kernel
theorem d_7_readName_33 : decode prog_9_method_4_code 33 = .ok (.goto (-28), 3) := by decide +kernel
theorem d_7_readName_36 : decode prog_9_method_4_code 36 = .ok (.aload_n 1, 1) := by decide +kernel
theorem d_7_readName_37 : decode prog_9_method_4_code 37 = .ok (.iload_n 2, 1) := by decide +kernel
theorem d_7_readName_38 : decode prog_9_method_4_code 38 = .ok (.invokestatic 54, 3) := by decide +kernel
theorem d_7_readName_41 : decode prog_9_method_4_code 41 = .ok (.astore_n 3, 1) := by decide +kernel
theorem d_7_readName_42 : decode prog_9_method_4_code 42 = .ok (.iconst 0, 1) := by decide +kernel
theorem d_7_readName_43 : decode prog_9_method_4_code 43 = .ok (.istore 4, 2) := by decide +kernel
theorem d_7_readName_45 : decode prog_9_method_4_code 45 = .ok (.iload 4, 2) := by decide +kernel
theorem d_7_readName_47 : decode prog_9_method_4_code 47 = .ok (.aload_n 3, 1) := by decide +kernel
theorem d_7_readName_48 : decode prog_9_method_4_code 48 = .ok (.invokevirtual 58, 3) := by decide +kernel
theorem d_7_readName_51 : decode prog_9_method_4_code 51 = .ok (.if_icmp .ge 29, 3) := by decide +kernel
theorem d_7_readName_54 : decode prog_9_method_4_code 54 = .ok (.aload_n 0, 1) := by decide +kernel
theorem d_7_readName_55 : decode prog_9_method_4_code 55 = .ok (.getfield 14, 3) := by decide +kernel
theorem d_7_readName_58 : decode prog_9_method_4_code 58 = .ok (.iload 4, 2) := by decide +kernel
theorem d_7_readName_60 : decode prog_9_method_4_code 60 = .ok (.iconst 1, 1) := by decide +kernel
theorem d_7_readName_61 : decode prog_9_method_4_code 61 = .ok (.iadd, 1) := by decide +kernel
theorem d_7_readName_62 : decode prog_9_method_4_code 62 = .ok (.aload_n 3, 1) := by decide +kernel
theorem d_7_readName_63 : decode prog_9_method_4_code 63 = .ok (.iload 4, 2) := by decide +kernel
theorem d_7_readName_65 : decode prog_9_method_4_code 65 = .ok (.invokevirtual 62, 3) := by decide +kernel
theorem d_7_readName_68 : decode prog_9_method_4_code 68 = .ok (.bipush 48, 2) := by decide +kernel
theorem d_7_readName_70 : decode prog_9_method_4_code 70 = .ok (.isub, 1) := by decide +kernel
theorem d_7_readName_71 : decode prog_9_method_4_code 71 = .ok (.invokevirtual 66, 3) := by decide +kernel
theorem d_7_readName_74 : decode prog_9_method_4_code 74 = .ok (.iinc 4 1, 3) := by decide +kernel
theorem d_7_readName_77 : decode prog_9_method_4_code 77 = .ok (.goto (-32), 3) := by decide +kernel
theorem d_7_readName_80 : decode prog_9_method_4_code 80 = .ok (.aload_n 3, 1) := by decide +kernel
theorem d_7_readName_81 : decode prog_9_method_4_code 81 = .ok (.invokevirtual 70, 3) := by decide +kernel
theorem d_7_readName_84 : decode prog_9_method_4_code 84 = .ok (.ifCond .eq 7, 3) := by decide +kernel
theorem d_7_readName_87 : decode prog_9_method_4_code 87 = .ok (.iload_n 2, 1) := by decide +kernel
theorem d_7_readName_88 : decode prog_9_method_4_code 88 = .ok (.goto 4, 3) := by decide +kernel
theorem d_7_readName_91 : decode prog_9_method_4_code 91 = .ok (.iconst (-1), 1) := by decide +kernel
theorem d_7_readName_92 : decode prog_9_method_4_code 92 = .ok (.ireturn, 1) := by decide +kernel
def wb_7_readName_80 (Q : Int32 → hm_S → hm_T → Prop) (x2 : Int32) (j3 : Nat) (S : hm_S) (T : hm_T) : Prop :=
  (j3 < 9 ∧ (if (if lenJ j3 = 0 then (1 : Int32) else 0) = 0 then Q (-1) S T else Q x2 S T))
set_option maxHeartbeats 4000000 in
set_option maxRecDepth 20000 in
theorem bk_7_readName_80 {Q : Int32 → hm_S → hm_T → Prop} (hJ : hm_Jh adK adV o H0 s) (cx : hm_cx G p s m args c prog_9_method_4_code 5 "HeapGames$RulesReader") (hr : meth.sig.returnType = some .int) (hlk : meth.locks = false) {x2 : Int32} {j3 : Nat} {S : hm_S} {T : hm_T} {H : Heap} {locs : List Loc} {ls : Array Slot} (h : wb_7_readName_80 Q x2 j3 S T) (hw : hm_w G H0 o 74 shX S T H) (hL : hm_L o 74 locs) (hl : lv_has ls 5 [(2, .int x2), (3, .ref (adK j3))]) : W p l e rm_7_readName s m args below meth c H locs 0 0 (MQ below (hm_Qi G H0 o 74 shX Q) args s 0 0 (t_fr o (o + 74))) (F0 m 80 ls []) := by
  have hx := cx.1.1
  have hb := cx.1.2.1
  unfold wb_7_readName_80 at h
  refine lv_aload_n hx hb d_7_readName_80 rfl (lv_at hl 1 rfl) ?_
  obtain ⟨hj, h⟩ := h
  have hJh := hJ.here hw
  refine hj_calli (va_runV (As := []) (rest := []) cx.1 (cj_isEmpty hj) (ms_7_70 cx.1.2.2.2.2 ⟨Nat.le_of_ble_eq_true rfl, Nat.le_of_ble_eq_true rfl⟩) ⟨hj_blind adK adV o _, hm_recvS hJh hj, fun U hU hW => ⟨rfl, by rw [hU]; exact hJh.warm hW⟩⟩ rfl rfl hl.1 rfl (lv_room (Nat.le_of_ble_eq_true rfl)) d_7_readName_81 ⟨Nat.zero_le _, Nat.zero_le _⟩) (fun r hr0 => ?_)
  subst hr0
  refine lv_if_eq (tgt := 91) hx hb d_7_readName_84 (by decide) (fun hc => ?_) (fun hc => ?_)
  · replace h := hm_pos hc h
    refine lv_iconst (v := (-1)) hx hb d_7_readName_91 (by decide) ?_
    exact W.iret hx hb hr (fun t ht _ => ⟨_, _, _, rfl, h, by rw [ht]; exact hw⟩) hL d_7_readName_92
  · replace h := hm_neg hc h
    refine lv_iload_n hx hb d_7_readName_87 rfl (lv_at hl 0 rfl) ?_
    refine lv_goto (tgt := 92) hx hb d_7_readName_88 (by decide) ?_
    exact W.iret hx hb hr (fun t ht _ => ⟨_, _, _, rfl, h, by rw [ht]; exact hw⟩) hL d_7_readName_92
def wb_7_readName_45 (Q : Int32 → hm_S → hm_T → Prop) (K45 : Int32 → Nat → Int32 → hm_S → hm_T → Prop) (x2 : Int32) (j3 : Nat) (x4 : Int32) (S : hm_S) (T : hm_T) : Prop :=
  (j3 < 9 ∧ (if (nI (lenJ j3)) ≤ x4 then wb_7_readName_80 Q x2 j3 S T else (j3 < 9 ∧ vp_in x4 (lenJ j3) ∧ wp_5_set 68 11 (x4 + 1) ((chJ j3 (Int32.toNatClampNeg x4)) - 48) S T (fun S2 T2 => K45 x2 j3 (x4 + 1) S2 T2))))
set_option maxHeartbeats 4000000 in
set_option maxRecDepth 20000 in
theorem bk_7_readName_45 {Q : Int32 → hm_S → hm_T → Prop} {K45 : Int32 → Nat → Int32 → hm_S → hm_T → Prop} (hJ : hm_Jh adK adV o H0 s) (cx : hm_cx G p s m args c prog_9_method_4_code 5 "HeapGames$RulesReader") (hr : meth.sig.returnType = some .int) (hlk : meth.locks = false) (k45 : ∀ (x2 : Int32) (j3 : Nat) (x4 : Int32) (S : hm_S) (T : hm_T) (H : Heap) (locs : List Loc) (ls : Array Slot), K45 x2 j3 x4 S T → hm_w G H0 o 74 shX S T H → hm_L o 74 locs → lv_has ls 5 [(0, .ref (o + 67)), (2, .int x2), (3, .ref (adK j3)), (4, .int x4)] → W p l e rm_7_readName s m args below meth c H locs 0 0 (MQ below (hm_Qi G H0 o 74 shX Q) args s 0 0 (t_fr o (o + 74))) (F0 m 45 ls [])) {x2 : Int32} {j3 : Nat} {x4 : Int32} {S : hm_S} {T : hm_T} {H : Heap} {locs : List Loc} {ls : Array Slot} (h : wb_7_readName_45 Q K45 x2 j3 x4 S T) (hw : hm_w G H0 o 74 shX S T H) (hL : hm_L o 74 locs) (hl : lv_has ls 5 [(0, .ref (o + 67)), (2, .int x2), (3, .ref (adK j3)), (4, .int x4)]) : W p l e rm_7_readName s m args below meth c H locs 0 0 (MQ below (hm_Qi G H0 o 74 shX Q) args s 0 0 (t_fr o (o + 74))) (F0 m 45 ls []) := by
  have hx := cx.1.1
  have hb := cx.1.2.1
  unfold wb_7_readName_45 at h
  refine lv_iload hx hb d_7_readName_45 (lv_at hl 3 rfl) ?_
  refine lv_aload_n hx hb d_7_readName_47 rfl (lv_at hl 2 rfl) ?_
  obtain ⟨hj, h⟩ := h
  have hJh := hJ.here hw
  refine hj_calli (va_runV (As := []) (rest := [.int x4]) cx.1 (cj_length hj) (ms_7_58 cx.1.2.2.2.2 ⟨Nat.le_of_ble_eq_true rfl, Nat.le_of_ble_eq_true rfl⟩) ⟨hj_blind adK adV o _, hm_recvS hJh hj, fun U hU hW => ⟨rfl, by rw [hU]; exact hJh.warm hW⟩⟩ rfl rfl hl.1 rfl (lv_room (Nat.le_of_ble_eq_true rfl)) d_7_readName_48 ⟨Nat.zero_le _, Nat.zero_le _⟩) (fun r hr0 => ?_)
  subst hr0
  refine lv_icmp_ge (tgt := 80) hx hb d_7_readName_51 (by decide) (fun hc => ?_) (fun hc => ?_)
  · replace h := hm_pos hc h
    exact bk_7_readName_80 hJ cx hr hlk h hw hL (lv_sub hl [1, 2] rfl)
  · replace h := hm_neg hc h
    refine lv_aload_n hx hb d_7_readName_54 rfl (lv_at hl 0 rfl) ?_
    refine gf_7_14 cx hw (i := 67) (r := 68) (by decide) sx_67 rfl d_7_readName_55 ?_
    refine lv_iload hx hb d_7_readName_58 (lv_at hl 3 rfl) ?_
    refine lv_iconst (v := 1) hx hb d_7_readName_60 (by decide) ?_
    refine lv_iadd hx hb d_7_readName_61 ?_
    refine lv_aload_n hx hb d_7_readName_62 rfl (lv_at hl 2 rfl) ?_
    refine lv_iload hx hb d_7_readName_63 (lv_at hl 3 rfl) ?_
    obtain ⟨hj, hx1, h⟩ := h
    have hJh := hJ.here hw
    refine hj_calli (va_runV (As := [.int x4]) (rest := [.int (x4 + 1), .ref (o + 68)]) cx.1 (cj_charAt hj hx1) (ms_7_62 cx.1.2.2.2.2 ⟨Nat.le_of_ble_eq_true rfl, Nat.le_of_ble_eq_true rfl⟩) ⟨hj_blind adK adV o _, hm_recvS hJh hj, fun U hU hW => ⟨rfl, by rw [hU]; exact hJh.warm hW⟩⟩ rfl rfl hl.1 rfl (lv_room (Nat.le_of_ble_eq_true rfl)) d_7_readName_65 ⟨Nat.zero_le _, Nat.zero_le _⟩) (fun r hr0 => ?_)
    subst hr0
    refine lv_bipush (v := 48) hx hb d_7_readName_68 (by decide) ?_
    refine lv_isub hx hb d_7_readName_70 ?_
    refine hm_callv (hm_rV (i := 68) (As := [.int (x4 + 1), .int ((chJ j3 (Int32.toNatClampNeg x4)) - 48)]) (rest := []) cx hw (ct_5_set (by decide) sx_68 sx_69 h) (mw_7_66 cx.1.2.2.2.2 ⟨Nat.le_of_ble_eq_true rfl, Nat.le_of_ble_eq_true rfl⟩) (by decide) sx_68 rfl rfl hl.1 rfl (Nat.le_of_ble_eq_true rfl) d_7_readName_71 ⟨Nat.zero_le _, Nat.zero_le _⟩) hL (fun S2 T2 H locs h hw hL => ?_)
    refine lv_iinc (v := (x4 + 1)) (lv' := [(4, .int (x4 + 1)), (0, .ref (o + 67)), (2, .int x2), (3, .ref (adK j3))]) hx hb d_7_readName_74 hl (k := 3) rfl rfl (by decide) rfl (fun ls hl => ?_)
    refine lv_goto (tgt := 45) hx hb d_7_readName_77 (by decide) ?_
    exact k45 _ _ _ _ _ _ _ _ h hw hL (lv_sub hl [1, 2, 3, 0] rfl)
def wl_7_readName_45 (Q : Int32 → hm_S → hm_T → Prop) : Nat → Int32 → Nat → Int32 → hm_S → hm_T → Prop
  | 0, _, _, _, _, _ => False
  | f + 1, x2, j3, x4, S, T => wb_7_readName_45 Q (wl_7_readName_45 Q f) x2 j3 x4 S T
theorem lp_7_readName_45 {Q : Int32 → hm_S → hm_T → Prop} (hJ : hm_Jh adK adV o H0 s) (cx : hm_cx G p s m args c prog_9_method_4_code 5 "HeapGames$RulesReader") (hr : meth.sig.returnType = some .int) (hlk : meth.locks = false) : ∀ (f : Nat) (x2 : Int32) (j3 : Nat) (x4 : Int32) (S : hm_S) (T : hm_T) (H : Heap) (locs : List Loc) (ls : Array Slot), wl_7_readName_45 Q f x2 j3 x4 S T → hm_w G H0 o 74 shX S T H → hm_L o 74 locs → lv_has ls 5 [(0, .ref (o + 67)), (2, .int x2), (3, .ref (adK j3)), (4, .int x4)] → W p l e rm_7_readName s m args below meth c H locs 0 0 (MQ below (hm_Qi G H0 o 74 shX Q) args s 0 0 (t_fr o (o + 74))) (F0 m 45 ls []) := by
  intro f
  induction f with
  | zero => intro x2 j3 x4 S T H locs ls h; exact h.elim
  | succ f ih => intro x2 j3 x4 S T H locs ls h hw hL hl; exact bk_7_readName_45 hJ cx hr hlk ih h hw hL hl
def wb_7_readName_36 (Q : Int32 → hm_S → hm_T → Prop) (x2 : Int32) (S : hm_S) (T : hm_T) : Prop :=
  wp_7_digitsOfName x2 S T (fun r1 S1 T1 => ∃ f, wl_7_readName_45 Q f x2 r1 0 S1 T1)
set_option maxHeartbeats 4000000 in
set_option maxRecDepth 20000 in
theorem bk_7_readName_36 {Q : Int32 → hm_S → hm_T → Prop} (hJ : hm_Jh adK adV o H0 s) (cx : hm_cx G p s m args c prog_9_method_4_code 5 "HeapGames$RulesReader") (hr : meth.sig.returnType = some .int) (hlk : meth.locks = false) {x2 : Int32} {S : hm_S} {T : hm_T} {H : Heap} {locs : List Loc} {ls : Array Slot} (h : wb_7_readName_36 Q x2 S T) (hw : hm_w G H0 o 74 shX S T H) (hL : hm_L o 74 locs) (hl : lv_has ls 5 [(0, .ref (o + 67)), (1, .ref (o + 64)), (2, .int x2)]) : W p l e rm_7_readName s m args below meth c H locs 0 0 (MQ below (hm_Qi G H0 o 74 shX Q) args s 0 0 (t_fr o (o + 74))) (F0 m 36 ls []) := by
  have hx := cx.1.1
  have hb := cx.1.2.1
  unfold wb_7_readName_36 at h
  refine lv_aload_n hx hb d_7_readName_36 rfl (lv_at hl 1 rfl) ?_
  refine lv_iload_n hx hb d_7_readName_37 rfl (lv_at hl 2 rfl) ?_
  refine hm_calls (hm_rSJ (As := [.ref (o + 64), .int x2]) (rest := []) hJ cx hw (ct_7_digitsOfName h) (mw_7_54 cx.1.2.2.2.2 ⟨Nat.le_of_ble_eq_true rfl, Nat.le_of_ble_eq_true rfl⟩) rfl hl.1 rfl (Nat.le_of_ble_eq_true rfl) d_7_readName_38 ⟨Nat.zero_le _, Nat.zero_le _⟩) hL (fun r1 S1 T1 H locs h hw hL => ?_)
  refine lv_astore_n (lv' := [(3, .ref (adK r1)), (0, .ref (o + 67)), (1, .ref (o + 64)), (2, .int x2)]) hx hb d_7_readName_41 rfl hl (by decide) rfl (fun ls hl => ?_)
  refine lv_iconst (v := 0) hx hb d_7_readName_42 (by decide) ?_
  refine lv_istore (lv' := [(4, .int 0), (3, .ref (adK r1)), (0, .ref (o + 67)), (1, .ref (o + 64)), (2, .int x2)]) hx hb d_7_readName_43 hl (by decide) rfl (fun ls hl => ?_)
  obtain ⟨f, h⟩ := h
  exact lp_7_readName_45 hJ cx hr hlk f _ _ _ _ _ _ _ _ h hw hL (lv_sub hl [2, 4, 1, 0] rfl)
def wb_7_readName_5 (Q : Int32 → hm_S → hm_T → Prop) (K5 : Int32 → hm_S → hm_T → Prop) (x2 : Int32) (S : hm_S) (T : hm_T) : Prop :=
  (if (S 64 1) ≤ (S 64 2) then wb_7_readName_36 Q x2 S T else wp_9_isNextSmallLetter S T (fun r3 S3 T3 => (if r3 = 0 then wb_7_readName_36 Q x2 S3 T3 else K5 x2 (hm_up S3 64 2 ((S3 64 2) + 1)) T3)))
set_option maxHeartbeats 4000000 in
set_option maxRecDepth 20000 in
theorem bk_7_readName_5 {Q : Int32 → hm_S → hm_T → Prop} {K5 : Int32 → hm_S → hm_T → Prop} (hJ : hm_Jh adK adV o H0 s) (cx : hm_cx G p s m args c prog_9_method_4_code 5 "HeapGames$RulesReader") (hr : meth.sig.returnType = some .int) (hlk : meth.locks = false) (k5 : ∀ (x2 : Int32) (S : hm_S) (T : hm_T) (H : Heap) (locs : List Loc) (ls : Array Slot), K5 x2 S T → hm_w G H0 o 74 shX S T H → hm_L o 74 locs → lv_has ls 5 [(0, .ref (o + 67)), (1, .ref (o + 64)), (2, .int x2)] → W p l e rm_7_readName s m args below meth c H locs 0 0 (MQ below (hm_Qi G H0 o 74 shX Q) args s 0 0 (t_fr o (o + 74))) (F0 m 5 ls [])) {x2 : Int32} {S : hm_S} {T : hm_T} {H : Heap} {locs : List Loc} {ls : Array Slot} (h : wb_7_readName_5 Q K5 x2 S T) (hw : hm_w G H0 o 74 shX S T H) (hL : hm_L o 74 locs) (hl : lv_has ls 5 [(0, .ref (o + 67)), (1, .ref (o + 64)), (2, .int x2)]) : W p l e rm_7_readName s m args below meth c H locs 0 0 (MQ below (hm_Qi G H0 o 74 shX Q) args s 0 0 (t_fr o (o + 74))) (F0 m 5 ls []) := by
  have hx := cx.1.1
  have hb := cx.1.2.1
  unfold wb_7_readName_5 at h
  refine lv_aload_n hx hb d_7_readName_5 rfl (lv_at hl 1 rfl) ?_
  refine gf_7_47 cx hw (i := 64) (by decide) sx_64 rfl d_7_readName_6 ?_
  refine lv_aload_n hx hb d_7_readName_9 rfl (lv_at hl 1 rfl) ?_
  refine gf_7_51 cx hw (i := 64) (by decide) sx_64 rfl d_7_readName_10 ?_
  refine lv_icmp_ge (tgt := 36) hx hb d_7_readName_13 (by decide) (fun hc => ?_) (fun hc => ?_)
  · replace h := hm_pos hc h
    exact bk_7_readName_36 hJ cx hr hlk h hw hL (lv_sub hl [0, 1, 2] rfl)
  · replace h := hm_neg hc h
    refine lv_aload_n hx hb d_7_readName_16 rfl (lv_at hl 1 rfl) ?_
    refine hm_calli (hm_rV (i := 64) (As := []) (rest := []) cx hw (ct_9_isNextSmallLetter h) (mw_7_32 cx.1.2.2.2.2 ⟨Nat.le_of_ble_eq_true rfl, Nat.le_of_ble_eq_true rfl⟩) (by decide) sx_64 rfl rfl hl.1 rfl (Nat.le_of_ble_eq_true rfl) d_7_readName_17 ⟨Nat.zero_le _, Nat.zero_le _⟩) hL (fun r3 S3 T3 H locs h hw hL => ?_)
    refine lv_if_eq (tgt := 36) hx hb d_7_readName_20 (by decide) (fun hc => ?_) (fun hc => ?_)
    · replace h := hm_pos hc h
      exact bk_7_readName_36 hJ cx hr hlk h hw hL (lv_sub hl [0, 1, 2] rfl)
    · replace h := hm_neg hc h
      refine lv_aload_n hx hb d_7_readName_23 rfl (lv_at hl 1 rfl) ?_
      refine lv_dup hx hb d_7_readName_24 rfl ?_
      refine gf_7_47 cx hw (i := 64) (by decide) sx_64 rfl d_7_readName_25 ?_
      refine lv_iconst (v := 1) hx hb d_7_readName_28 (by decide) ?_
      refine lv_iadd hx hb d_7_readName_29 ?_
      refine pf_7_47 cx hw (i := 64) (by decide) sx_64 rfl hL d_7_readName_30 (fun H locs hw hL => ?_)
      refine lv_goto (tgt := 5) hx hb d_7_readName_33 (by decide) ?_
      exact k5 _ _ _ _ _ _ h hw hL (lv_sub hl [0, 1, 2] rfl)
def wl_7_readName_5 (Q : Int32 → hm_S → hm_T → Prop) : Nat → Int32 → hm_S → hm_T → Prop
  | 0, _, _, _ => False
  | f + 1, x2, S, T => wb_7_readName_5 Q (wl_7_readName_5 Q f) x2 S T
theorem lp_7_readName_5 {Q : Int32 → hm_S → hm_T → Prop} (hJ : hm_Jh adK adV o H0 s) (cx : hm_cx G p s m args c prog_9_method_4_code 5 "HeapGames$RulesReader") (hr : meth.sig.returnType = some .int) (hlk : meth.locks = false) : ∀ (f : Nat) (x2 : Int32) (S : hm_S) (T : hm_T) (H : Heap) (locs : List Loc) (ls : Array Slot), wl_7_readName_5 Q f x2 S T → hm_w G H0 o 74 shX S T H → hm_L o 74 locs → lv_has ls 5 [(0, .ref (o + 67)), (1, .ref (o + 64)), (2, .int x2)] → W p l e rm_7_readName s m args below meth c H locs 0 0 (MQ below (hm_Qi G H0 o 74 shX Q) args s 0 0 (t_fr o (o + 74))) (F0 m 5 ls []) := by
  intro f
  induction f with
  | zero => intro x2 S T H locs ls h; exact h.elim
  | succ f ih => intro x2 S T H locs ls h hw hL hl; exact bk_7_readName_5 hJ cx hr hlk ih h hw hL hl
def wp_7_readName (S : hm_S) (T : hm_T) (Q : Int32 → hm_S → hm_T → Prop) : Prop :=
  ∃ f, wl_7_readName_5 Q f (S 64 2) S T
set_option maxHeartbeats 4000000 in
set_option maxRecDepth 20000 in
theorem bk_7_readName_0 {Q : Int32 → hm_S → hm_T → Prop} (hJ : hm_Jh adK adV o H0 s) (cx : hm_cx G p s m args c prog_9_method_4_code 5 "HeapGames$RulesReader") (hr : meth.sig.returnType = some .int) (hlk : meth.locks = false) {S : hm_S} {T : hm_T} {H : Heap} {locs : List Loc} {ls : Array Slot} (h : wp_7_readName S T Q) (hw : hm_w G H0 o 74 shX S T H) (hL : hm_L o 74 locs) (hl : lv_has ls 5 [(0, .ref (o + 67)), (1, .ref (o + 64))]) : W p l e rm_7_readName s m args below meth c H locs 0 0 (MQ below (hm_Qi G H0 o 74 shX Q) args s 0 0 (t_fr o (o + 74))) (F0 m 0 ls []) := by
  have hx := cx.1.1
  have hb := cx.1.2.1
  unfold wp_7_readName at h
  refine lv_aload_n hx hb d_7_readName_0 rfl (lv_at hl 1 rfl) ?_
  refine gf_7_47 cx hw (i := 64) (by decide) sx_64 rfl d_7_readName_1 ?_
  refine lv_istore_n (lv' := [(2, .int (S 64 2)), (0, .ref (o + 67)), (1, .ref (o + 64))]) hx hb d_7_readName_4 rfl hl (by decide) rfl (fun ls hl => ?_)
  obtain ⟨f, h⟩ := h
  exact lp_7_readName_5 hJ cx hr hlk f _ _ _ _ _ _ h hw hL (lv_sub hl [1, 2, 0] rfl)
set_option maxHeartbeats 4000000 in
set_option maxRecDepth 20000 in
theorem ct_7_readName {S : hm_S} {T : hm_T} {Q : Int32 → hm_S → hm_T → Prop} (h : wp_7_readName S T Q) : hm_MJ adK adV l G H0 o 74 shX y_7_readName prog_9_method_4_code 5 (some .int) rm_7_readName S T [.ref (o + 67), .ref (o + 64)] (hm_Qi G H0 o 74 shX Q) := by
  refine Met.ofW (cc := prog_9_method_4_code) (maxL := 5) (ret := some .int) (by decide) rfl ?_
  intro p e s m args below meth c s₁ B hml hv
  obtain ⟨rfl, hK, hw, hJ⟩ := hv
  have cx : hm_cx G p s m _ c prog_9_method_4_code 5 "HeapGames$RulesReader" := ⟨⟨B.exec, B.bytes, hml, findClass_of_methodNamed B.named, fun w hq => atoms_spec (ws := hm_ws y_7_readName prog_9_method_4_code 5 (some .int)) B.pre w (List.mem_cons_of_mem _ hq)⟩, hK⟩
  have hl := lv_entry ([.ref (o + 67), .ref (o + 64)]) (n := 5) (Nat.le_of_ble_eq_true rfl)
  rw [lg_entry_eq]
  generalize (lg_sl ([.ref (o + 67), .ref (o + 64)]) ++ List.replicate (5 - (lg_sl ([.ref (o + 67), .ref (o + 64)])).length) Slot.unset).toArray = ls at hl ⊢
  have hl : lv_has ls 5 [(0, .ref (o + 67)), (1, .ref (o + 64))] := hl
  exact bk_7_readName_0 hJ cx B.returns B.notSynchronized h hw (hm_L0 _ _) hl
/-! ===== HeapGames$RulesReader.faultOf ===== -/
theorem d_7_faultOf_0 : decode prog_9_method_3_code 0 = .ok (.aload_n 0, 1) := by decide +kernel
theorem d_7_faultOf_1 : decode prog_9_method_3_code 1 = .ok (.getfield 14, 3) := by decide +kernel
theorem d_7_faultOf_4 : decode prog_9_method_3_code 4 = .ok (.invokevirtual 24, 3) := by decide +kernel
theorem d_7_faultOf_7 : decode prog_9_method_3_code 7 = .ok (.aload_n 1, 1) := by decide +kernel
theorem d_7_faultOf_8 : decode prog_9_method_3_code 8 = .ok (.invokevirtual 27, 3) := by decide +kernel
theorem d_7_faultOf_11 : decode prog_9_method_3_code 11 = .ok (.aload_n 1, 1) := by decide +kernel
theorem d_7_faultOf_12 : decode prog_9_method_3_code 12 = .ok (.invokevirtual 32, 3) := by decide +kernel
theorem d_7_faultOf_15 : decode prog_9_method_3_code 15 = .ok (.ifCond .eq 11, 3) := by decide +kernel
theorem d_7_faultOf_18 : decode prog_9_method_3_code 18 = .ok (.aload_n 0, 1) := by decide +kernel
theorem d_7_faultOf_19 : decode prog_9_method_3_code 19 = .ok (.aload_n 1, 1) := by decide +kernel
theorem d_7_faultOf_20 : decode prog_9_method_3_code 20 = .ok (.invokevirtual 36, 3) := by decide +kernel
theorem d_7_faultOf_23 : decode prog_9_method_3_code 23 = .ok (.goto 8, 3) := by decide +kernel
theorem d_7_faultOf_26 : decode prog_9_method_3_code 26 = .ok (.aload_n 0, 1) := by decide +kernel
theorem d_7_faultOf_27 : decode prog_9_method_3_code 27 = .ok (.aload_n 1, 1) := by decide +kernel
theorem d_7_faultOf_28 : decode prog_9_method_3_code 28 = .ok (.invokevirtual 40, 3) := by decide +kernel
theorem d_7_faultOf_31 : decode prog_9_method_3_code 31 = .ok (.istore_n 2, 1) := by decide +kernel
theorem d_7_faultOf_32 : decode prog_9_method_3_code 32 = .ok (.iload_n 2, 1) := by decide +kernel
theorem d_7_faultOf_33 : decode prog_9_method_3_code 33 = .ok (.iconst (-1), 1) := by decide +kernel
theorem d_7_faultOf_34 : decode prog_9_method_3_code 34 = .ok (.if_icmp .eq 7, 3) := by decide +kernel
theorem d_7_faultOf_37 : decode prog_9_method_3_code 37 = .ok (.iload_n 2, 1) := by decide +kernel
theorem d_7_faultOf_38 : decode prog_9_method_3_code 38 = .ok (.goto 7, 3) := by decide +kernel
theorem d_7_faultOf_41 : decode prog_9_method_3_code 41 = .ok (.aload_n 1, 1) := by decide +kernel
theorem d_7_faultOf_42 : decode prog_9_method_3_code 42 = .ok (.invokevirtual 43, 3) := by decide +kernel
theorem d_7_faultOf_45 : decode prog_9_method_3_code 45 = .ok (.ireturn, 1) := by decide +kernel
def wb_7_faultOf_31 (Q : Int32 → hm_S → hm_T → Prop) (z0 : Int32) (S : hm_S) (T : hm_T) : Prop :=
  (if z0 = (-1) then wp_9_faultOfRest S T (fun r5 S5 T5 => Q r5 S5 T5) else Q z0 S T)
set_option maxHeartbeats 4000000 in
set_option maxRecDepth 20000 in
theorem bk_7_faultOf_31 {Q : Int32 → hm_S → hm_T → Prop} (hJ : hm_Jh adK adV o H0 s) (cx : hm_cx G p s m args c prog_9_method_3_code 3 "HeapGames$RulesReader") (hr : meth.sig.returnType = some .int) (hlk : meth.locks = false) {z0 : Int32} {S : hm_S} {T : hm_T} {H : Heap} {locs : List Loc} {ls : Array Slot} (h : wb_7_faultOf_31 Q z0 S T) (hw : hm_w G H0 o 74 shX S T H) (hL : hm_L o 74 locs) (hl : lv_has ls 3 [(1, .ref (o + 64))]) : W p l e rm_7_faultOf s m args below meth c H locs 0 0 (MQ below (hm_Qi G H0 o 74 shX Q) args s 0 0 (t_fr o (o + 74))) (F0 m 31 ls [.int z0]) := by
  have hx := cx.1.1
  have hb := cx.1.2.1
  unfold wb_7_faultOf_31 at h
  refine lv_istore_n (lv' := [(2, .int z0), (1, .ref (o + 64))]) hx hb d_7_faultOf_31 rfl hl (by decide) rfl (fun ls hl => ?_)
  refine lv_iload_n hx hb d_7_faultOf_32 rfl (lv_at hl 0 rfl) ?_
  refine lv_iconst (v := (-1)) hx hb d_7_faultOf_33 (by decide) ?_
  refine lv_icmp_eq (tgt := 41) hx hb d_7_faultOf_34 (by decide) (fun hc => ?_) (fun hc => ?_)
  · replace h := hm_pos hc h
    refine lv_aload_n hx hb d_7_faultOf_41 rfl (lv_at hl 1 rfl) ?_
    refine hm_calli (hm_rV (i := 64) (As := []) (rest := []) cx hw (ct_9_faultOfRest h) (mw_7_43 cx.1.2.2.2.2 ⟨Nat.le_of_ble_eq_true rfl, Nat.le_of_ble_eq_true rfl⟩) (by decide) sx_64 rfl rfl hl.1 rfl (Nat.le_of_ble_eq_true rfl) d_7_faultOf_42 ⟨Nat.zero_le _, Nat.zero_le _⟩) hL (fun r5 S5 T5 H locs h hw hL => ?_)
    exact W.iret hx hb hr (fun t ht _ => ⟨_, _, _, rfl, h, by rw [ht]; exact hw⟩) hL d_7_faultOf_45
  · replace h := hm_neg hc h
    refine lv_iload_n hx hb d_7_faultOf_37 rfl (lv_at hl 0 rfl) ?_
    refine lv_goto (tgt := 45) hx hb d_7_faultOf_38 (by decide) ?_
    exact W.iret hx hb hr (fun t ht _ => ⟨_, _, _, rfl, h, by rw [ht]; exact hw⟩) hL d_7_faultOf_45
def wp_7_faultOf (S : hm_S) (T : hm_T) (Q : Int32 → hm_S → hm_T → Prop) : Prop :=
  wp_5_clear 68 11 S T (fun S1 T1 => wp_9_startReading S1 T1 (fun S2 T2 => wp_9_isNextSmallLetter S2 T2 (fun r3 S3 T3 => (if r3 = 0 then wp_7_readOctals S3 T3 (fun r4 S4 T4 => wb_7_faultOf_31 Q r4 S4 T4) else wp_7_readName S3 T3 (fun r6 S6 T6 => wb_7_faultOf_31 Q r6 S6 T6)))))
set_option maxHeartbeats 4000000 in
set_option maxRecDepth 20000 in
theorem bk_7_faultOf_0 {Q : Int32 → hm_S → hm_T → Prop} (hJ : hm_Jh adK adV o H0 s) (cx : hm_cx G p s m args c prog_9_method_3_code 3 "HeapGames$RulesReader") (hr : meth.sig.returnType = some .int) (hlk : meth.locks = false) {S : hm_S} {T : hm_T} {H : Heap} {locs : List Loc} {ls : Array Slot} (h : wp_7_faultOf S T Q) (hw : hm_w G H0 o 74 shX S T H) (hL : hm_L o 74 locs) (hl : lv_has ls 3 [(0, .ref (o + 67)), (1, .ref (o + 64))]) : W p l e rm_7_faultOf s m args below meth c H locs 0 0 (MQ below (hm_Qi G H0 o 74 shX Q) args s 0 0 (t_fr o (o + 74))) (F0 m 0 ls []) := by
  have hx := cx.1.1
  have hb := cx.1.2.1
  unfold wp_7_faultOf at h
  refine lv_aload_n hx hb d_7_faultOf_0 rfl (lv_at hl 0 rfl) ?_
  refine gf_7_14 cx hw (i := 67) (r := 68) (by decide) sx_67 rfl d_7_faultOf_1 ?_
  refine hm_callv (hm_rV (i := 68) (As := []) (rest := []) cx hw (ct_5_clear (by decide) sx_68 sx_69 h) (mw_7_24 cx.1.2.2.2.2 ⟨Nat.le_of_ble_eq_true rfl, Nat.le_of_ble_eq_true rfl⟩) (by decide) sx_68 rfl rfl hl.1 rfl (Nat.le_of_ble_eq_true rfl) d_7_faultOf_4 ⟨Nat.zero_le _, Nat.zero_le _⟩) hL (fun S1 T1 H locs h hw hL => ?_)
  refine lv_aload_n hx hb d_7_faultOf_7 rfl (lv_at hl 1 rfl) ?_
  refine hm_callv (hm_rV (i := 64) (As := []) (rest := []) cx hw (ct_9_startReading h) (mw_7_27 cx.1.2.2.2.2 ⟨Nat.le_of_ble_eq_true rfl, Nat.le_of_ble_eq_true rfl⟩) (by decide) sx_64 rfl rfl hl.1 rfl (Nat.le_of_ble_eq_true rfl) d_7_faultOf_8 ⟨Nat.zero_le _, Nat.zero_le _⟩) hL (fun S2 T2 H locs h hw hL => ?_)
  refine lv_aload_n hx hb d_7_faultOf_11 rfl (lv_at hl 1 rfl) ?_
  refine hm_calli (hm_rV (i := 64) (As := []) (rest := []) cx hw (ct_9_isNextSmallLetter h) (mw_7_32 cx.1.2.2.2.2 ⟨Nat.le_of_ble_eq_true rfl, Nat.le_of_ble_eq_true rfl⟩) (by decide) sx_64 rfl rfl hl.1 rfl (Nat.le_of_ble_eq_true rfl) d_7_faultOf_12 ⟨Nat.zero_le _, Nat.zero_le _⟩) hL (fun r3 S3 T3 H locs h hw hL => ?_)
  refine lv_if_eq (tgt := 26) hx hb d_7_faultOf_15 (by decide) (fun hc => ?_) (fun hc => ?_)
  · replace h := hm_pos hc h
    refine lv_aload_n hx hb d_7_faultOf_26 rfl (lv_at hl 0 rfl) ?_
    refine lv_aload_n hx hb d_7_faultOf_27 rfl (lv_at hl 1 rfl) ?_
    refine hm_calli (hm_rV (i := 67) (As := [.ref (o + 64)]) (rest := []) cx hw (ct_7_readOctals h) (mw_7_40 cx.1.2.2.2.2 ⟨Nat.le_of_ble_eq_true rfl, Nat.le_of_ble_eq_true rfl⟩) (by decide) sx_67 rfl rfl hl.1 rfl (Nat.le_of_ble_eq_true rfl) d_7_faultOf_28 ⟨Nat.zero_le _, Nat.zero_le _⟩) hL (fun r4 S4 T4 H locs h hw hL => ?_)
    exact bk_7_faultOf_31 hJ cx hr hlk h hw hL (lv_sub hl [1] rfl)
  · replace h := hm_neg hc h
    refine lv_aload_n hx hb d_7_faultOf_18 rfl (lv_at hl 0 rfl) ?_
    refine lv_aload_n hx hb d_7_faultOf_19 rfl (lv_at hl 1 rfl) ?_
    refine hm_calli (hm_rVJ (i := 67) (As := [.ref (o + 64)]) (rest := []) hJ cx hw (ct_7_readName h) (mw_7_36 cx.1.2.2.2.2 ⟨Nat.le_of_ble_eq_true rfl, Nat.le_of_ble_eq_true rfl⟩) (by decide) sx_67 rfl rfl hl.1 rfl (Nat.le_of_ble_eq_true rfl) d_7_faultOf_20 ⟨Nat.zero_le _, Nat.zero_le _⟩) hL (fun r6 S6 T6 H locs h hw hL => ?_)
    refine lv_goto (tgt := 31) hx hb d_7_faultOf_23 (by decide) ?_
    exact bk_7_faultOf_31 hJ cx hr hlk h hw hL (lv_sub hl [1] rfl)
set_option maxHeartbeats 4000000 in
set_option maxRecDepth 20000 in
theorem ct_7_faultOf {S : hm_S} {T : hm_T} {Q : Int32 → hm_S → hm_T → Prop} (h : wp_7_faultOf S T Q) : hm_MJ adK adV l G H0 o 74 shX y_7_faultOf prog_9_method_3_code 3 (some .int) rm_7_faultOf S T [.ref (o + 67), .ref (o + 64)] (hm_Qi G H0 o 74 shX Q) := by
  refine Met.ofW (cc := prog_9_method_3_code) (maxL := 3) (ret := some .int) (by decide) rfl ?_
  intro p e s m args below meth c s₁ B hml hv
  obtain ⟨rfl, hK, hw, hJ⟩ := hv
  have cx : hm_cx G p s m _ c prog_9_method_3_code 3 "HeapGames$RulesReader" := ⟨⟨B.exec, B.bytes, hml, findClass_of_methodNamed B.named, fun w hq => atoms_spec (ws := hm_ws y_7_faultOf prog_9_method_3_code 3 (some .int)) B.pre w (List.mem_cons_of_mem _ hq)⟩, hK⟩
  have hl := lv_entry ([.ref (o + 67), .ref (o + 64)]) (n := 3) (Nat.le_of_ble_eq_true rfl)
  rw [lg_entry_eq]
  generalize (lg_sl ([.ref (o + 67), .ref (o + 64)]) ++ List.replicate (3 - (lg_sl ([.ref (o + 67), .ref (o + 64)])).length) Slot.unset).toArray = ls at hl ⊢
  have hl : lv_has ls 3 [(0, .ref (o + 67)), (1, .ref (o + 64))] := hl
  exact bk_7_faultOf_0 hJ cx B.returns B.notSynchronized h hw (hm_L0 _ _) hl
/-! ===== HeapGames.readRules ===== -/
theorem d_10_readRules_0 : decode prog_1_method_8_code 0 = .ok (.aload_n 0, 1) := by decide +kernel
theorem d_10_readRules_1 : decode prog_1_method_8_code 1 = .ok (.getfield 60, 3) := by decide +kernel
theorem d_10_readRules_4 : decode prog_1_method_8_code 4 = .ok (.aload_n 0, 1) := by decide +kernel
theorem d_10_readRules_5 : decode prog_1_method_8_code 5 = .ok (.getfield 53, 3) := by decide +kernel
theorem d_10_readRules_8 : decode prog_1_method_8_code 8 = .ok (.invokevirtual 114, 3) := by decide +kernel
theorem d_10_readRules_11 : decode prog_1_method_8_code 11 = .ok (.istore_n 1, 1) := by decide +kernel
theorem d_10_readRules_12 : decode prog_1_method_8_code 12 = .ok (.iload_n 1, 1) := by decide +kernel
theorem d_10_readRules_13 : decode prog_1_method_8_code 13 = .ok (.iconst (-1), 1) := by decide +kernel
theorem d_10_readRules_14 : decode prog_1_method_8_code 14 = .ok (.if_icmp .eq 9, 3) := by decide +kernel
theorem d_10_readRules_17 : decode prog_1_method_8_code 17 = .ok (.sipush (-2000), 3) := by decide +kernel
theorem d_10_readRules_20 : decode prog_1_method_8_code 20 = .ok (.iload_n 1, 1) := by decide +kernel
theorem d_10_readRules_21 : decode prog_1_method_8_code 21 = .ok (.isub, 1) := by decide +kernel
theorem d_10_readRules_22 : decode prog_1_method_8_code 22 = .ok (.ireturn, 1) := by decide +kernel
theorem d_10_readRules_23 : decode prog_1_method_8_code 23 = .ok (.iconst 0, 1) := by decide +kernel
theorem d_10_readRules_24 : decode prog_1_method_8_code 24 = .ok (.istore_n 2, 1) := by decide +kernel
theorem d_10_readRules_25 : decode prog_1_method_8_code 25 = .ok (.iconst 1, 1) := by decide +kernel
theorem d_10_readRules_26 : decode prog_1_method_8_code 26 = .ok (.istore_n 3, 1) := by decide +kernel
theorem d_10_readRules_27 : decode prog_1_method_8_code 27 = .ok (.iload_n 3, 1) := by decide +kernel
theorem d_10_readRules_28 : decode prog_1_method_8_code 28 = .ok (.bipush 10, 2) := by decide +kernel
theorem d_10_readRules_30 : decode prog_1_method_8_code 30 = .ok (.if_icmp .gt 42, 3) := by decide +kernel
theorem d_10_readRules_33 : decode prog_1_method_8_code 33 = .ok (.aload_n 0, 1) := by decide +kernel
theorem d_10_readRules_34 : decode prog_1_method_8_code 34 = .ok (.getfield 60, 3) := by decide +kernel
theorem d_10_readRules_37 : decode prog_1_method_8_code 37 = .ok (.iload_n 3, 1) := by decide +kernel
theorem d_10_readRules_38 : decode prog_1_method_8_code 38 = .ok (.invokevirtual 118, 3) := by decide +kernel
theorem d_10_readRules_41 : decode prog_1_method_8_code 41 = .ok (.istore 4, 2) := by decide +kernel
theorem d_10_readRules_43 : decode prog_1_method_8_code 43 = .ok (.aload_n 0, 1) := by decide +kernel
theorem d_10_readRules_44 : decode prog_1_method_8_code 44 = .ok (.getfield 20, 3) := by decide +kernel
theorem d_10_readRules_47 : decode prog_1_method_8_code 47 = .ok (.iload_n 3, 1) := by decide +kernel
theorem d_10_readRules_48 : decode prog_1_method_8_code 48 = .ok (.iload 4, 2) := by decide +kernel
theorem d_10_readRules_50 : decode prog_1_method_8_code 50 = .ok (.invokevirtual 88, 3) := by decide +kernel
theorem d_10_readRules_53 : decode prog_1_method_8_code 53 = .ok (.iload_n 2, 1) := by decide +kernel
theorem d_10_readRules_54 : decode prog_1_method_8_code 54 = .ok (.iload 4, 2) := by decide +kernel
theorem d_10_readRules_56 : decode prog_1_method_8_code 56 = .ok (.ifCond .eq 7, 3) := by decide +kernel
theorem d_10_readRules_59 : decode prog_1_method_8_code 59 = .ok (.iconst 1, 1) := by decide +kernel
theorem d_10_readRules_60 : decode prog_1_method_8_code 60 = .ok (.goto 4, 3) := by decide +kernel
theorem d_10_readRules_63 : decode prog_1_method_8_code 63 = .ok (.iconst 0, 1) := by decide +kernel
theorem d_10_readRules_64 : decode prog_1_method_8_code 64 = .ok (.iadd, 1) := by decide +kernel
theorem d_10_readRules_65 : decode prog_1_method_8_code 65 = .ok (.istore_n 2, 1) := by decide +kernel
theorem d_10_readRules_66 : decode prog_1_method_8_code 66 = .ok (.iinc 3 1, 3) := by decide +kernel
theorem d_10_readRules_69 : decode prog_1_method_8_code 69 = .ok (.goto (-42), 3) := by decide +kernel
theorem d_10_readRules_72 : decode prog_1_method_8_code 72 = .ok (.aload_n 0, 1) := by decide +kernel
theorem d_10_readRules_73 : decode prog_1_method_8_code 73 = .ok (.getfield 53, 3) := by decide +kernel
theorem d_10_readRules_76 : decode prog_1_method_8_code 76 = .ok (.invokevirtual 111, 3) := by decide +kernel
theorem d_10_readRules_79 : decode prog_1_method_8_code 79 = .ok (.aload_n 0, 1) := by decide +kernel
theorem d_10_readRules_80 : decode prog_1_method_8_code 80 = .ok (.invokevirtual 92, 3) := by decide +kernel
theorem d_10_readRules_83 : decode prog_1_method_8_code 83 = .ok (.iload_n 2, 1) := by decide +kernel
theorem d_10_readRules_84 : decode prog_1_method_8_code 84 = .ok (.ireturn, 1) := by decide +kernel
def wb_10_readRules_72 (Q : Int32 → hm_S → hm_T → Prop) (x2 : Int32) (S : hm_S) (T : hm_T) : Prop :=
  wp_9_clear S T (fun S2 T2 => wp_10_forgetAnswers S2 T2 (fun S3 T3 => Q x2 S3 T3))
set_option maxHeartbeats 4000000 in
set_option maxRecDepth 20000 in
theorem bk_10_readRules_72 {Q : Int32 → hm_S → hm_T → Prop} (hJ : hm_Jh adK adV o H0 s) (cx : hm_cx G p s m args c prog_1_method_8_code 5 "HeapGames") (hr : meth.sig.returnType = some .int) (hlk : meth.locks = false) {x2 : Int32} {S : hm_S} {T : hm_T} {H : Heap} {locs : List Loc} {ls : Array Slot} (h : wb_10_readRules_72 Q x2 S T) (hw : hm_w G H0 o 74 shX S T H) (hL : hm_L o 74 locs) (hl : lv_has ls 5 [(0, .ref (o + 0)), (2, .int x2)]) : W p l e rm_10_readRules s m args below meth c H locs 0 0 (MQ below (hm_Qi G H0 o 74 shX Q) args s 0 0 (t_fr o (o + 74))) (F0 m 72 ls []) := by
  have hx := cx.1.1
  have hb := cx.1.2.1
  unfold wb_10_readRules_72 at h
  refine lv_aload_n hx hb d_10_readRules_72 rfl (lv_at hl 0 rfl) ?_
  refine gf_10_53 cx hw (i := 0) (r := 64) (by decide) sx_0 rfl d_10_readRules_73 ?_
  refine hm_callv (hm_rV (i := 64) (As := []) (rest := []) cx hw (ct_9_clear h) (mw_10_111 cx.1.2.2.2.2 ⟨Nat.le_of_ble_eq_true rfl, Nat.le_of_ble_eq_true rfl⟩) (by decide) sx_64 rfl rfl hl.1 rfl (Nat.le_of_ble_eq_true rfl) d_10_readRules_76 ⟨Nat.zero_le _, Nat.zero_le _⟩) hL (fun S2 T2 H locs h hw hL => ?_)
  refine lv_aload_n hx hb d_10_readRules_79 rfl (lv_at hl 0 rfl) ?_
  refine hm_callv (hm_rV (i := 0) (As := []) (rest := []) cx hw (ct_10_forgetAnswers h) (mw_10_92 cx.1.2.2.2.2 ⟨Nat.le_of_ble_eq_true rfl, Nat.le_of_ble_eq_true rfl⟩) (by decide) sx_0 rfl rfl hl.1 rfl (Nat.le_of_ble_eq_true rfl) d_10_readRules_80 ⟨Nat.zero_le _, Nat.zero_le _⟩) hL (fun S3 T3 H locs h hw hL => ?_)
  refine lv_iload_n hx hb d_10_readRules_83 rfl (lv_at hl 1 rfl) ?_
  exact W.iret hx hb hr (fun t ht _ => ⟨_, _, _, rfl, h, by rw [ht]; exact hw⟩) hL d_10_readRules_84
def wb_10_readRules_64 (Q : Int32 → hm_S → hm_T → Prop) (K27 : Int32 → Int32 → hm_S → hm_T → Prop) (x3 : Int32) (z0 : Int32) (z1 : Int32) (S : hm_S) (T : hm_T) : Prop :=
  K27 (z1 + z0) (x3 + 1) S T
set_option maxHeartbeats 4000000 in
set_option maxRecDepth 20000 in
theorem bk_10_readRules_64 {Q : Int32 → hm_S → hm_T → Prop} {K27 : Int32 → Int32 → hm_S → hm_T → Prop} (hJ : hm_Jh adK adV o H0 s) (cx : hm_cx G p s m args c prog_1_method_8_code 5 "HeapGames") (hr : meth.sig.returnType = some .int) (hlk : meth.locks = false) (k27 : ∀ (x2 : Int32) (x3 : Int32) (S : hm_S) (T : hm_T) (H : Heap) (locs : List Loc) (ls : Array Slot), K27 x2 x3 S T → hm_w G H0 o 74 shX S T H → hm_L o 74 locs → lv_has ls 5 [(0, .ref (o + 0)), (2, .int x2), (3, .int x3)] → W p l e rm_10_readRules s m args below meth c H locs 0 0 (MQ below (hm_Qi G H0 o 74 shX Q) args s 0 0 (t_fr o (o + 74))) (F0 m 27 ls [])) {x3 : Int32} {z0 : Int32} {z1 : Int32} {S : hm_S} {T : hm_T} {H : Heap} {locs : List Loc} {ls : Array Slot} (h : wb_10_readRules_64 Q K27 x3 z0 z1 S T) (hw : hm_w G H0 o 74 shX S T H) (hL : hm_L o 74 locs) (hl : lv_has ls 5 [(0, .ref (o + 0)), (3, .int x3)]) : W p l e rm_10_readRules s m args below meth c H locs 0 0 (MQ below (hm_Qi G H0 o 74 shX Q) args s 0 0 (t_fr o (o + 74))) (F0 m 64 ls [.int z0, .int z1]) := by
  have hx := cx.1.1
  have hb := cx.1.2.1
  unfold wb_10_readRules_64 at h
  refine lv_iadd hx hb d_10_readRules_64 ?_
  refine lv_istore_n (lv' := [(2, .int (z1 + z0)), (0, .ref (o + 0)), (3, .int x3)]) hx hb d_10_readRules_65 rfl hl (by decide) rfl (fun ls hl => ?_)
  refine lv_iinc (v := (x3 + 1)) (lv' := [(3, .int (x3 + 1)), (2, .int (z1 + z0)), (0, .ref (o + 0))]) hx hb d_10_readRules_66 hl (k := 2) rfl rfl (by decide) rfl (fun ls hl => ?_)
  refine lv_goto (tgt := 27) hx hb d_10_readRules_69 (by decide) ?_
  exact k27 _ _ _ _ _ _ _ h hw hL (lv_sub hl [2, 1, 0] rfl)
def wb_10_readRules_27 (Q : Int32 → hm_S → hm_T → Prop) (K27 : Int32 → Int32 → hm_S → hm_T → Prop) (x2 : Int32) (x3 : Int32) (S : hm_S) (T : hm_T) : Prop :=
  (if 10 < x3 then wb_10_readRules_72 Q x2 S T else wp_7_digitOf x3 S T (fun r4 S4 T4 => wp_6_changeDigit x3 r4 S4 T4 (fun S5 T5 => (if r4 = 0 then wb_10_readRules_64 Q K27 x3 0 x2 S5 T5 else wb_10_readRules_64 Q K27 x3 1 x2 S5 T5))))
set_option maxHeartbeats 4000000 in
set_option maxRecDepth 20000 in
theorem bk_10_readRules_27 {Q : Int32 → hm_S → hm_T → Prop} {K27 : Int32 → Int32 → hm_S → hm_T → Prop} (hJ : hm_Jh adK adV o H0 s) (cx : hm_cx G p s m args c prog_1_method_8_code 5 "HeapGames") (hr : meth.sig.returnType = some .int) (hlk : meth.locks = false) (k27 : ∀ (x2 : Int32) (x3 : Int32) (S : hm_S) (T : hm_T) (H : Heap) (locs : List Loc) (ls : Array Slot), K27 x2 x3 S T → hm_w G H0 o 74 shX S T H → hm_L o 74 locs → lv_has ls 5 [(0, .ref (o + 0)), (2, .int x2), (3, .int x3)] → W p l e rm_10_readRules s m args below meth c H locs 0 0 (MQ below (hm_Qi G H0 o 74 shX Q) args s 0 0 (t_fr o (o + 74))) (F0 m 27 ls [])) {x2 : Int32} {x3 : Int32} {S : hm_S} {T : hm_T} {H : Heap} {locs : List Loc} {ls : Array Slot} (h : wb_10_readRules_27 Q K27 x2 x3 S T) (hw : hm_w G H0 o 74 shX S T H) (hL : hm_L o 74 locs) (hl : lv_has ls 5 [(0, .ref (o + 0)), (2, .int x2), (3, .int x3)]) : W p l e rm_10_readRules s m args below meth c H locs 0 0 (MQ below (hm_Qi G H0 o 74 shX Q) args s 0 0 (t_fr o (o + 74))) (F0 m 27 ls []) := by
  have hx := cx.1.1
  have hb := cx.1.2.1
  unfold wb_10_readRules_27 at h
  refine lv_iload_n hx hb d_10_readRules_27 rfl (lv_at hl 2 rfl) ?_
  refine lv_bipush (v := 10) hx hb d_10_readRules_28 (by decide) ?_
  refine lv_icmp_gt (tgt := 72) hx hb d_10_readRules_30 (by decide) (fun hc => ?_) (fun hc => ?_)
  · replace h := hm_pos hc h
    exact bk_10_readRules_72 hJ cx hr hlk h hw hL (lv_sub hl [0, 1] rfl)
  · replace h := hm_neg hc h
    refine lv_aload_n hx hb d_10_readRules_33 rfl (lv_at hl 0 rfl) ?_
    refine gf_10_60 cx hw (i := 0) (r := 67) (by decide) sx_0 rfl d_10_readRules_34 ?_
    refine lv_iload_n hx hb d_10_readRules_37 rfl (lv_at hl 2 rfl) ?_
    refine hm_calli (hm_rV (i := 67) (As := [.int x3]) (rest := []) cx hw (ct_7_digitOf h) (mw_10_118 cx.1.2.2.2.2 ⟨Nat.le_of_ble_eq_true rfl, Nat.le_of_ble_eq_true rfl⟩) (by decide) sx_67 rfl rfl hl.1 rfl (Nat.le_of_ble_eq_true rfl) d_10_readRules_38 ⟨Nat.zero_le _, Nat.zero_le _⟩) hL (fun r4 S4 T4 H locs h hw hL => ?_)
    refine lv_istore (lv' := [(4, .int r4), (0, .ref (o + 0)), (2, .int x2), (3, .int x3)]) hx hb d_10_readRules_41 hl (by decide) rfl (fun ls hl => ?_)
    refine lv_aload_n hx hb d_10_readRules_43 rfl (lv_at hl 1 rfl) ?_
    refine gf_10_20 cx hw (i := 0) (r := 1) (by decide) sx_0 rfl d_10_readRules_44 ?_
    refine lv_iload_n hx hb d_10_readRules_47 rfl (lv_at hl 3 rfl) ?_
    refine lv_iload hx hb d_10_readRules_48 (lv_at hl 0 rfl) ?_
    refine hm_callv (hm_rV (i := 1) (As := [.int x3, .int r4]) (rest := []) cx hw (ct_6_changeDigit h) (mw_10_88 cx.1.2.2.2.2 ⟨Nat.le_of_ble_eq_true rfl, Nat.le_of_ble_eq_true rfl⟩) (by decide) sx_1 rfl rfl hl.1 rfl (Nat.le_of_ble_eq_true rfl) d_10_readRules_50 ⟨Nat.zero_le _, Nat.zero_le _⟩) hL (fun S5 T5 H locs h hw hL => ?_)
    refine lv_iload_n hx hb d_10_readRules_53 rfl (lv_at hl 2 rfl) ?_
    refine lv_iload hx hb d_10_readRules_54 (lv_at hl 0 rfl) ?_
    refine lv_if_eq (tgt := 63) hx hb d_10_readRules_56 (by decide) (fun hc => ?_) (fun hc => ?_)
    · replace h := hm_pos hc h
      refine lv_iconst (v := 0) hx hb d_10_readRules_63 (by decide) ?_
      exact bk_10_readRules_64 hJ cx hr hlk k27 h hw hL (lv_sub hl [1, 3] rfl)
    · replace h := hm_neg hc h
      refine lv_iconst (v := 1) hx hb d_10_readRules_59 (by decide) ?_
      refine lv_goto (tgt := 64) hx hb d_10_readRules_60 (by decide) ?_
      exact bk_10_readRules_64 hJ cx hr hlk k27 h hw hL (lv_sub hl [1, 3] rfl)
def wl_10_readRules_27 (Q : Int32 → hm_S → hm_T → Prop) : Nat → Int32 → Int32 → hm_S → hm_T → Prop
  | 0, _, _, _, _ => False
  | f + 1, x2, x3, S, T => wb_10_readRules_27 Q (wl_10_readRules_27 Q f) x2 x3 S T
theorem lp_10_readRules_27 {Q : Int32 → hm_S → hm_T → Prop} (hJ : hm_Jh adK adV o H0 s) (cx : hm_cx G p s m args c prog_1_method_8_code 5 "HeapGames") (hr : meth.sig.returnType = some .int) (hlk : meth.locks = false) : ∀ (f : Nat) (x2 : Int32) (x3 : Int32) (S : hm_S) (T : hm_T) (H : Heap) (locs : List Loc) (ls : Array Slot), wl_10_readRules_27 Q f x2 x3 S T → hm_w G H0 o 74 shX S T H → hm_L o 74 locs → lv_has ls 5 [(0, .ref (o + 0)), (2, .int x2), (3, .int x3)] → W p l e rm_10_readRules s m args below meth c H locs 0 0 (MQ below (hm_Qi G H0 o 74 shX Q) args s 0 0 (t_fr o (o + 74))) (F0 m 27 ls []) := by
  intro f
  induction f with
  | zero => intro x2 x3 S T H locs ls h; exact h.elim
  | succ f ih => intro x2 x3 S T H locs ls h hw hL hl; exact bk_10_readRules_27 hJ cx hr hlk ih h hw hL hl
def wp_10_readRules (S : hm_S) (T : hm_T) (Q : Int32 → hm_S → hm_T → Prop) : Prop :=
  wp_7_faultOf S T (fun r1 S1 T1 => (if r1 = (-1) then ∃ f, wl_10_readRules_27 Q f 0 1 S1 T1 else Q ((-2000) - r1) S1 T1))
set_option maxHeartbeats 4000000 in
set_option maxRecDepth 20000 in
theorem bk_10_readRules_0 {Q : Int32 → hm_S → hm_T → Prop} (hJ : hm_Jh adK adV o H0 s) (cx : hm_cx G p s m args c prog_1_method_8_code 5 "HeapGames") (hr : meth.sig.returnType = some .int) (hlk : meth.locks = false) {S : hm_S} {T : hm_T} {H : Heap} {locs : List Loc} {ls : Array Slot} (h : wp_10_readRules S T Q) (hw : hm_w G H0 o 74 shX S T H) (hL : hm_L o 74 locs) (hl : lv_has ls 5 [(0, .ref (o + 0))]) : W p l e rm_10_readRules s m args below meth c H locs 0 0 (MQ below (hm_Qi G H0 o 74 shX Q) args s 0 0 (t_fr o (o + 74))) (F0 m 0 ls []) := by
  have hx := cx.1.1
  have hb := cx.1.2.1
  unfold wp_10_readRules at h
  refine lv_aload_n hx hb d_10_readRules_0 rfl (lv_at hl 0 rfl) ?_
  refine gf_10_60 cx hw (i := 0) (r := 67) (by decide) sx_0 rfl d_10_readRules_1 ?_
  refine lv_aload_n hx hb d_10_readRules_4 rfl (lv_at hl 0 rfl) ?_
  refine gf_10_53 cx hw (i := 0) (r := 64) (by decide) sx_0 rfl d_10_readRules_5 ?_
  refine hm_calli (hm_rVJ (i := 67) (As := [.ref (o + 64)]) (rest := []) hJ cx hw (ct_7_faultOf h) (mw_10_114 cx.1.2.2.2.2 ⟨Nat.le_of_ble_eq_true rfl, Nat.le_of_ble_eq_true rfl⟩) (by decide) sx_67 rfl rfl hl.1 rfl (Nat.le_of_ble_eq_true rfl) d_10_readRules_8 ⟨Nat.zero_le _, Nat.zero_le _⟩) hL (fun r1 S1 T1 H locs h hw hL => ?_)
  refine lv_istore_n (lv' := [(1, .int r1), (0, .ref (o + 0))]) hx hb d_10_readRules_11 rfl hl (by decide) rfl (fun ls hl => ?_)
  refine lv_iload_n hx hb d_10_readRules_12 rfl (lv_at hl 0 rfl) ?_
  refine lv_iconst (v := (-1)) hx hb d_10_readRules_13 (by decide) ?_
  refine lv_icmp_eq (tgt := 23) hx hb d_10_readRules_14 (by decide) (fun hc => ?_) (fun hc => ?_)
  · replace h := hm_pos hc h
    refine lv_iconst (v := 0) hx hb d_10_readRules_23 (by decide) ?_
    refine lv_istore_n (lv' := [(2, .int 0), (1, .int r1), (0, .ref (o + 0))]) hx hb d_10_readRules_24 rfl hl (by decide) rfl (fun ls hl => ?_)
    refine lv_iconst (v := 1) hx hb d_10_readRules_25 (by decide) ?_
    refine lv_istore_n (lv' := [(3, .int 1), (2, .int 0), (1, .int r1), (0, .ref (o + 0))]) hx hb d_10_readRules_26 rfl hl (by decide) rfl (fun ls hl => ?_)
    obtain ⟨f, h⟩ := h
    exact lp_10_readRules_27 hJ cx hr hlk f _ _ _ _ _ _ _ h hw hL (lv_sub hl [3, 1, 0] rfl)
  · replace h := hm_neg hc h
    refine lv_sipush (v := (-2000)) hx hb d_10_readRules_17 (by decide) ?_
    refine lv_iload_n hx hb d_10_readRules_20 rfl (lv_at hl 0 rfl) ?_
    refine lv_isub hx hb d_10_readRules_21 ?_
    exact W.iret hx hb hr (fun t ht _ => ⟨_, _, _, rfl, h, by rw [ht]; exact hw⟩) hL d_10_readRules_22
set_option maxHeartbeats 4000000 in
set_option maxRecDepth 20000 in
theorem ct_10_readRules {S : hm_S} {T : hm_T} {Q : Int32 → hm_S → hm_T → Prop} (h : wp_10_readRules S T Q) : hm_MJ adK adV l G H0 o 74 shX y_10_readRules prog_1_method_8_code 5 (some .int) rm_10_readRules S T [.ref (o + 0)] (hm_Qi G H0 o 74 shX Q) := by
  refine Met.ofW (cc := prog_1_method_8_code) (maxL := 5) (ret := some .int) (by decide) rfl ?_
  intro p e s m args below meth c s₁ B hml hv
  obtain ⟨rfl, hK, hw, hJ⟩ := hv
  have cx : hm_cx G p s m _ c prog_1_method_8_code 5 "HeapGames" := ⟨⟨B.exec, B.bytes, hml, findClass_of_methodNamed B.named, fun w hq => atoms_spec (ws := hm_ws y_10_readRules prog_1_method_8_code 5 (some .int)) B.pre w (List.mem_cons_of_mem _ hq)⟩, hK⟩
  have hl := lv_entry ([.ref (o + 0)]) (n := 5) (Nat.le_of_ble_eq_true rfl)
  rw [lg_entry_eq]
  generalize (lg_sl ([.ref (o + 0)]) ++ List.replicate (5 - (lg_sl ([.ref (o + 0)])).length) Slot.unset).toArray = ls at hl ⊢
  have hl : lv_has ls 5 [(0, .ref (o + 0))] := hl
  exact bk_10_readRules_0 hJ cx B.returns B.notSynchronized h hw (hm_L0 _ _) hl
end RJ
