theorem hq_88 : Cond.initialized "java/lang/String" ∈ hm_tbl := hm_in 88 (by decide +kernel) rfl
theorem hq_89 : Cond.initialized "java/lang/StringLatin1" ∈ hm_tbl := hm_in 89 (by decide +kernel) rfl
theorem hq_90 : Cond.initialized "jdk/internal/util/Preconditions" ∈ hm_tbl := hm_in 90 (by decide +kernel) rfl
theorem hq_549 : Cond.methodLink "java/lang/String" 335 ⟨"java/lang/String", "coder", "()B"⟩ ∈ hm_tbl := hm_in 549 (by decide +kernel) rfl
theorem hq_550 : Cond.instanceMethod ⟨"java/lang/String", "coder", "()B"⟩ ∈ hm_tbl := hm_in 550 (by decide +kernel) rfl
theorem hq_551 : Cond.selects "java/lang/String" ⟨"java/lang/String", "coder", "()B"⟩ ⟨"java/lang/String", "coder", "()B"⟩ ∈ hm_tbl := hm_in 551 (by decide +kernel) rfl
theorem hq_552 : Cond.code ⟨"java/lang/String", "coder", "()B"⟩ prog_15_method_152_code 1 (some .byte) ∈ hm_tbl := hm_in 552 (by decide +kernel) rfl
theorem hq_553 : Cond.fieldLink "java/lang/String" 38 "java/lang/String" "COMPACT_STRINGS" "Z" ∈ hm_tbl := hm_in 553 (by decide +kernel) rfl
theorem hq_559 : Cond.methodLink "java/lang/String" 492 ⟨"java/lang/String", "isLatin1", "()Z"⟩ ∈ hm_tbl := hm_in 559 (by decide +kernel) rfl
theorem hq_560 : Cond.instanceMethod ⟨"java/lang/String", "isLatin1", "()Z"⟩ ∈ hm_tbl := hm_in 560 (by decide +kernel) rfl
theorem hq_561 : Cond.selects "java/lang/String" ⟨"java/lang/String", "isLatin1", "()Z"⟩ ⟨"java/lang/String", "isLatin1", "()Z"⟩ ∈ hm_tbl := hm_in 561 (by decide +kernel) rfl
theorem hq_562 : Cond.code ⟨"java/lang/String", "isLatin1", "()Z"⟩ prog_15_method_154_code 1 (some .boolean) ∈ hm_tbl := hm_in 562 (by decide +kernel) rfl
theorem hq_563 : Cond.methodLink "java/lang/String" 495 ⟨"java/lang/StringLatin1", "charAt", "([BI)C"⟩ ∈ hm_tbl := hm_in 563 (by decide +kernel) rfl
theorem hq_564 : Cond.static ⟨"java/lang/StringLatin1", "charAt", "([BI)C"⟩ ∈ hm_tbl := hm_in 564 (by decide +kernel) rfl
theorem hq_565 : Cond.code ⟨"java/lang/StringLatin1", "charAt", "([BI)C"⟩ prog_16_method_2_code 2 (some .char) ∈ hm_tbl := hm_in 565 (by decide +kernel) rfl
theorem hq_566 : Cond.methodLink "java/lang/StringLatin1" 9 ⟨"java/lang/String", "checkIndex", "(II)V"⟩ ∈ hm_tbl := hm_in 566 (by decide +kernel) rfl
theorem hq_567 : Cond.static ⟨"java/lang/String", "checkIndex", "(II)V"⟩ ∈ hm_tbl := hm_in 567 (by decide +kernel) rfl
theorem hq_568 : Cond.code ⟨"java/lang/String", "checkIndex", "(II)V"⟩ prog_15_method_155_code 2 none ∈ hm_tbl := hm_in 568 (by decide +kernel) rfl
theorem hq_569 : Cond.fieldLink "java/lang/String" 1053 "jdk/internal/util/Preconditions" "SIOOBE_FORMATTER" "Ljava/util/function/BiFunction;" ∈ hm_tbl := hm_in 569 (by decide +kernel) rfl
theorem hq_571 : Cond.methodLink "java/lang/String" 1059 ⟨"jdk/internal/util/Preconditions", "checkIndex", "(IILjava/util/function/BiFunction;)I"⟩ ∈ hm_tbl := hm_in 571 (by decide +kernel) rfl
theorem hq_572 : Cond.static ⟨"jdk/internal/util/Preconditions", "checkIndex", "(IILjava/util/function/BiFunction;)I"⟩ ∈ hm_tbl := hm_in 572 (by decide +kernel) rfl
theorem hq_573 : Cond.code ⟨"jdk/internal/util/Preconditions", "checkIndex", "(IILjava/util/function/BiFunction;)I"⟩ prog_19_method_11_code 3 (some .int) ∈ hm_tbl := hm_in 573 (by decide +kernel) rfl
theorem hq_1391 : Cond.fieldLink "java/lang/String" 9 "java/lang/String" "value" "[B" ∈ hm_tbl := hm_in 1391 (by decide +kernel) rfl
theorem hq_1392 : Cond.fieldLink "java/lang/String" 15 "java/lang/String" "coder" "B" ∈ hm_tbl := hm_in 1392 (by decide +kernel) rfl
def lenJl : List Nat := [3, 10, 6, 2, 6, 3, 6, 2, 0]
def bytJl : List (List Int32) := [[110, 105, 109], [51, 51, 51, 51, 51, 51, 51, 51, 51, 51], [107, 97, 121, 108, 101, 115], [55, 55], [100, 97, 119, 115, 111, 110], [49, 51, 55], [103, 117, 105, 108, 101, 115], [49, 53], []]
def strJ : List (Nat × String × Nat) := [(73, "nim", 0), (79, "3333333333", 1), (81, "kayles", 2), (83, "77", 3), (85, "dawson", 4), (87, "137", 5), (89, "guiles", 6), (91, "15", 7), (93, "", 8)]
def lenJ (j : Nat) : Nat := lenJl.getD j 0
def chJ (j k : Nat) : Int32 := (bytJl.getD j []).getD k 0 &&& 255
def hm_Jh (adK adV : Nat → Nat) (o : Nat) (H : Heap) (U : State) : Prop := vk_S 9 lenJl bytJl adK adV (hm_ge o) U H ∧ va_Z "java/lang/String" "COMPACT_STRINGS" "Z" (.int 1) (hm_ge o) U H ∧ va_Zq "jdk/internal/util/Preconditions" "SIOOBE_FORMATTER" "Ljava/util/function/BiFunction;" (hm_ge o) U H ∧ ∀ q ∈ strJ, vk_R "HeapGames$RulesReader" q.1 q.2.1 (adK q.2.2) U
theorem hm_Jh.warm {adK adV : Nat → Nat} {o : Nat} {H : Heap} {s U : State} (h : hm_Jh adK adV o H s) (hW : s.WarmedH U.vm) : hm_Jh adK adV o H U := ⟨h.1.moved hW.alike, h.2.1.moved hW.alike, h.2.2.1.moved hW.alike, fun q hq => (h.2.2.2 q hq).warm hW⟩
theorem hm_Jh.same {adK adV : Nat → Nat} {o : Nat} {H : Heap} {s U : State} (h : hm_Jh adK adV o H s) (hv : s.vm = U.vm) : hm_Jh adK adV o H U := ⟨h.1.moved (by rw [hv]; exact Vm.Alike.refl _), h.2.1.moved (by rw [hv]; exact Vm.Alike.refl _), h.2.2.1.moved (by rw [hv]; exact Vm.Alike.refl _), fun q hq => (h.2.2.2 q hq).same hv.symm⟩
theorem hm_Jh.kept {adK adV : Nat → Nat} {o : Nat} {H H1 : Heap} {s : State} (h : hm_Jh adK adV o H s) (hq : ∀ q : Nat, q < o → H1[q]? = H[q]?) : hm_Jh adK adV o H1 s :=
  have hk : ∀ a : Nat, a < H.size → ¬ hm_ge o a → H1[a]? = H[a]? := fun a _ ha => hq a (Nat.not_le.mp ha)
  ⟨h.1.kept hk, h.2.1.kept hk, h.2.2.1.kept hk, h.2.2.2⟩
def hj_P (adK adV : Nat → Nat) (o : Nat) (av : List Value) : Array Value → State → Prop := fun v U => v = av.toArray ∧ hm_Jh adK adV o U.heap U
theorem hj_blind (adK adV : Nat → Nat) (o : Nat) (av : List Value) : FrameBlind (hj_P adK adV o av) := fun a U g mk h => ⟨h.1, h.2.same rfl⟩
section JD
variable {p : Program} {l : Launch} {e : Env} {R : Room} {s : State} {m : MethodId} {args : Array Value} {below : List Frame} {meth : Method} {c : Code} {H : Heap} {locs : List Loc} {cells slots : Nat} {Q : State → Prop} {pc : Nat} {ls : Array Slot} {rest st0 : List Value} {a : Array Value}
theorem hj_calli {post : Int32 → Prop} (hr : va_Run p l e R s m args below meth c H locs cells slots 0 0 (F0 m pc ls st0) rest (vp_Si post a) (fun _ => False)) (kk : ∀ r : Int32, post r → W p l e R s m args below meth c H locs cells slots Q (F0 m (pc + 3) ls (.int r :: rest))) : W p l e R s m args below meth c H locs cells slots Q (F0 m pc ls st0) := by
  intro T hT X
  obtain ⟨v, st₀, t, T', L, h0, X', hLL, e1, e2, ⟨r, hv, hp, hh⟩, st⟩ := hr T hT X
  cases hv
  have hLn : L = [] := List.eq_nil_iff_forall_not_mem.mpr (fun q hq => hLL q hq)
  subst hLn
  rw [List.append_nil] at X'
  obtain ⟨t2, a1, b1⟩ := kk r hp T' (by rw [e1, hh, h0]) X'
  exact ⟨t2, st t2 a1, b1⟩
theorem hj_callv (hr : va_Run p l e R s m args below meth c H locs cells slots 0 0 (F0 m pc ls st0) rest (va_Sv (fun _ => True) a) (fun _ => False)) (kk : W p l e R s m args below meth c H locs cells slots Q (F0 m (pc + 3) ls rest)) : W p l e R s m args below meth c H locs cells slots Q (F0 m pc ls st0) := by
  intro T hT X
  obtain ⟨v, st₀, t, T', L, h0, X', hLL, e1, e2, ⟨hv, hp, hh⟩, st⟩ := hr T hT X
  cases hv
  have hLn : L = [] := List.eq_nil_iff_forall_not_mem.mpr (fun q hq => hLL q hq)
  subst hLn
  rw [List.append_nil] at X'
  obtain ⟨t2, a1, b1⟩ := kk T' (by rw [e1, hh, h0]) X'
  exact ⟨t2, st t2 a1, b1⟩
def y_j_coder : MethodName := ⟨"java/lang/String", "coder", "()B"⟩
abbrev rm_j_coder : Room := { frames := 0, cells := 0, slots := 0, locals := 0 }
theorem dj_coder_0 : decode prog_15_method_152_code 0 = .ok (.getstatic 38, 3) := by decide +kernel
theorem dj_coder_3 : decode prog_15_method_152_code 3 = .ok (.ifCond .eq 10, 3) := by decide +kernel
theorem dj_coder_6 : decode prog_15_method_152_code 6 = .ok (.aload_n 0, 1) := by decide +kernel
theorem dj_coder_7 : decode prog_15_method_152_code 7 = .ok (.getfield 15, 3) := by decide +kernel
theorem dj_coder_10 : decode prog_15_method_152_code 10 = .ok (.goto 4, 3) := by decide +kernel
theorem dj_coder_13 : decode prog_15_method_152_code 13 = .ok (.iconst 1, 1) := by decide +kernel
theorem dj_coder_14 : decode prog_15_method_152_code 14 = .ok (.ireturn, 1) := by decide +kernel
def y_j_isLatin1 : MethodName := ⟨"java/lang/String", "isLatin1", "()Z"⟩
abbrev rm_j_isLatin1 : Room := { frames := 0, cells := 0, slots := 0, locals := 0 }
theorem dj_isLatin1_0 : decode prog_15_method_154_code 0 = .ok (.getstatic 38, 3) := by decide +kernel
theorem dj_isLatin1_3 : decode prog_15_method_154_code 3 = .ok (.ifCond .eq 14, 3) := by decide +kernel
theorem dj_isLatin1_6 : decode prog_15_method_154_code 6 = .ok (.aload_n 0, 1) := by decide +kernel
theorem dj_isLatin1_7 : decode prog_15_method_154_code 7 = .ok (.getfield 15, 3) := by decide +kernel
theorem dj_isLatin1_10 : decode prog_15_method_154_code 10 = .ok (.ifCond .ne 7, 3) := by decide +kernel
theorem dj_isLatin1_13 : decode prog_15_method_154_code 13 = .ok (.iconst 1, 1) := by decide +kernel
theorem dj_isLatin1_14 : decode prog_15_method_154_code 14 = .ok (.goto 4, 3) := by decide +kernel
theorem dj_isLatin1_17 : decode prog_15_method_154_code 17 = .ok (.iconst 0, 1) := by decide +kernel
theorem dj_isLatin1_18 : decode prog_15_method_154_code 18 = .ok (.ireturn, 1) := by decide +kernel
def y_j_length : MethodName := ⟨"java/lang/String", "length", "()I"⟩
abbrev rm_j_length : Room := { frames := 1, cells := 0, slots := 0, locals := 20 }
theorem dj_length_0 : decode prog_15_method_54_code 0 = .ok (.aload_n 0, 1) := by decide +kernel
theorem dj_length_1 : decode prog_15_method_54_code 1 = .ok (.getfield 9, 3) := by decide +kernel
theorem dj_length_4 : decode prog_15_method_54_code 4 = .ok (.arraylength, 1) := by decide +kernel
theorem dj_length_5 : decode prog_15_method_54_code 5 = .ok (.aload_n 0, 1) := by decide +kernel
theorem dj_length_6 : decode prog_15_method_54_code 6 = .ok (.invokevirtual 335, 3) := by decide +kernel
theorem dj_length_9 : decode prog_15_method_54_code 9 = .ok (.ishr, 1) := by decide +kernel
theorem dj_length_10 : decode prog_15_method_54_code 10 = .ok (.ireturn, 1) := by decide +kernel
def y_j_isEmpty : MethodName := ⟨"java/lang/String", "isEmpty", "()Z"⟩
abbrev rm_j_isEmpty : Room := { frames := 0, cells := 0, slots := 0, locals := 0 }
theorem dj_isEmpty_0 : decode prog_15_method_55_code 0 = .ok (.aload_n 0, 1) := by decide +kernel
theorem dj_isEmpty_1 : decode prog_15_method_55_code 1 = .ok (.getfield 9, 3) := by decide +kernel
theorem dj_isEmpty_4 : decode prog_15_method_55_code 4 = .ok (.arraylength, 1) := by decide +kernel
theorem dj_isEmpty_5 : decode prog_15_method_55_code 5 = .ok (.ifCond .ne 7, 3) := by decide +kernel
theorem dj_isEmpty_8 : decode prog_15_method_55_code 8 = .ok (.iconst 1, 1) := by decide +kernel
theorem dj_isEmpty_9 : decode prog_15_method_55_code 9 = .ok (.goto 4, 3) := by decide +kernel
theorem dj_isEmpty_12 : decode prog_15_method_55_code 12 = .ok (.iconst 0, 1) := by decide +kernel
theorem dj_isEmpty_13 : decode prog_15_method_55_code 13 = .ok (.ireturn, 1) := by decide +kernel
def y_j_pci : MethodName := ⟨"jdk/internal/util/Preconditions", "checkIndex", "(IILjava/util/function/BiFunction;)I"⟩
abbrev rm_j_pci : Room := { frames := 0, cells := 0, slots := 0, locals := 0 }
theorem dj_pci_0 : decode prog_19_method_11_code 0 = .ok (.iload_n 0, 1) := by decide +kernel
theorem dj_pci_1 : decode prog_19_method_11_code 1 = .ok (.ifCond .lt 8, 3) := by decide +kernel
theorem dj_pci_4 : decode prog_19_method_11_code 4 = .ok (.iload_n 0, 1) := by decide +kernel
theorem dj_pci_5 : decode prog_19_method_11_code 5 = .ok (.iload_n 1, 1) := by decide +kernel
theorem dj_pci_6 : decode prog_19_method_11_code 6 = .ok (.if_icmp .lt 10, 3) := by decide +kernel
theorem dj_pci_16 : decode prog_19_method_11_code 16 = .ok (.iload_n 0, 1) := by decide +kernel
theorem dj_pci_17 : decode prog_19_method_11_code 17 = .ok (.ireturn, 1) := by decide +kernel
def y_j_sci : MethodName := ⟨"java/lang/String", "checkIndex", "(II)V"⟩
abbrev rm_j_sci : Room := { frames := 1, cells := 0, slots := 0, locals := 22 }
theorem dj_sci_0 : decode prog_15_method_155_code 0 = .ok (.iload_n 0, 1) := by decide +kernel
theorem dj_sci_1 : decode prog_15_method_155_code 1 = .ok (.iload_n 1, 1) := by decide +kernel
theorem dj_sci_2 : decode prog_15_method_155_code 2 = .ok (.getstatic 1053, 3) := by decide +kernel
theorem dj_sci_5 : decode prog_15_method_155_code 5 = .ok (.invokestatic 1059, 3) := by decide +kernel
theorem dj_sci_8 : decode prog_15_method_155_code 8 = .ok (.pop, 1) := by decide +kernel
theorem dj_sci_9 : decode prog_15_method_155_code 9 = .ok (.return_, 1) := by decide +kernel
def y_j_lca : MethodName := ⟨"java/lang/StringLatin1", "charAt", "([BI)C"⟩
abbrev rm_j_lca : Room := { frames := 2, cells := 0, slots := 0, locals := 43 }
theorem dj_lca_0 : decode prog_16_method_2_code 0 = .ok (.iload_n 1, 1) := by decide +kernel
theorem dj_lca_1 : decode prog_16_method_2_code 1 = .ok (.aload_n 0, 1) := by decide +kernel
theorem dj_lca_2 : decode prog_16_method_2_code 2 = .ok (.arraylength, 1) := by decide +kernel
theorem dj_lca_3 : decode prog_16_method_2_code 3 = .ok (.invokestatic 9, 3) := by decide +kernel
theorem dj_lca_6 : decode prog_16_method_2_code 6 = .ok (.aload_n 0, 1) := by decide +kernel
theorem dj_lca_7 : decode prog_16_method_2_code 7 = .ok (.iload_n 1, 1) := by decide +kernel
theorem dj_lca_8 : decode prog_16_method_2_code 8 = .ok (.baload, 1) := by decide +kernel
theorem dj_lca_9 : decode prog_16_method_2_code 9 = .ok (.sipush 255, 3) := by decide +kernel
theorem dj_lca_12 : decode prog_16_method_2_code 12 = .ok (.iand, 1) := by decide +kernel
theorem dj_lca_13 : decode prog_16_method_2_code 13 = .ok (.i2c, 1) := by decide +kernel
theorem dj_lca_14 : decode prog_16_method_2_code 14 = .ok (.ireturn, 1) := by decide +kernel
def y_j_charAt : MethodName := ⟨"java/lang/String", "charAt", "(I)C"⟩
abbrev rm_j_charAt : Room := { frames := 3, cells := 0, slots := 0, locals := 64 }
theorem dj_charAt_0 : decode prog_15_method_56_code 0 = .ok (.aload_n 0, 1) := by decide +kernel
theorem dj_charAt_1 : decode prog_15_method_56_code 1 = .ok (.invokevirtual 492, 3) := by decide +kernel
theorem dj_charAt_4 : decode prog_15_method_56_code 4 = .ok (.ifCond .eq 12, 3) := by decide +kernel
theorem dj_charAt_7 : decode prog_15_method_56_code 7 = .ok (.aload_n 0, 1) := by decide +kernel
theorem dj_charAt_8 : decode prog_15_method_56_code 8 = .ok (.getfield 9, 3) := by decide +kernel
theorem dj_charAt_11 : decode prog_15_method_56_code 11 = .ok (.iload_n 1, 1) := by decide +kernel
theorem dj_charAt_12 : decode prog_15_method_56_code 12 = .ok (.invokestatic 495, 3) := by decide +kernel
theorem dj_charAt_15 : decode prog_15_method_56_code 15 = .ok (.ireturn, 1) := by decide +kernel
theorem mj_len_coder (ht : ∀ w ∈ hm_tbl, w.before args s = true) (hR : rm_j_coder.frames + 1 ≤ R.frames ∧ 8 + (1 + 11) + rm_j_coder.locals ≤ R.locals) : CallW R s args "java/lang/String" "java/lang/String" 335 y_j_coder prog_15_method_152_code 1 (some .byte) (hm_ws y_j_coder prog_15_method_152_code 1 (some .byte)) rm_j_coder 0 0 0 := ⟨callB_of 0 ht (hm_good hq_552) rfl rfl rfl (ht _ hq_88) (ht _ hq_549) (by decide +kernel) hR, ht _ hq_550, ht _ hq_551⟩
theorem mj_ch_lat (ht : ∀ w ∈ hm_tbl, w.before args s = true) (hR : rm_j_isLatin1.frames + 1 ≤ R.frames ∧ 8 + (1 + 11) + rm_j_isLatin1.locals ≤ R.locals) : CallW R s args "java/lang/String" "java/lang/String" 492 y_j_isLatin1 prog_15_method_154_code 1 (some .boolean) (hm_ws y_j_isLatin1 prog_15_method_154_code 1 (some .boolean)) rm_j_isLatin1 0 0 0 := ⟨callB_of 0 ht (hm_good hq_562) rfl rfl rfl (ht _ hq_88) (ht _ hq_559) (by decide +kernel) hR, ht _ hq_560, ht _ hq_561⟩
theorem mj_ch_lca (ht : ∀ w ∈ hm_tbl, w.before args s = true) (hR : rm_j_lca.frames + 1 ≤ R.frames ∧ 8 + (2 + 11) + rm_j_lca.locals ≤ R.locals) : CallB R s args "java/lang/String" 495 y_j_lca prog_16_method_2_code 2 (some .char) (hm_ws y_j_lca prog_16_method_2_code 2 (some .char)) rm_j_lca 0 0 2 ∧ (Cond.static y_j_lca).before args s = true := ⟨callB_of 2 ht (hm_good hq_565) rfl rfl rfl (ht _ hq_89) (ht _ hq_563) (by decide +kernel) hR, ht _ hq_564⟩
theorem mj_lca_sci (ht : ∀ w ∈ hm_tbl, w.before args s = true) (hR : rm_j_sci.frames + 1 ≤ R.frames ∧ 8 + (2 + 11) + rm_j_sci.locals ≤ R.locals) : CallB R s args "java/lang/StringLatin1" 9 y_j_sci prog_15_method_155_code 2 none (hm_ws y_j_sci prog_15_method_155_code 2 none) rm_j_sci 0 0 2 ∧ (Cond.static y_j_sci).before args s = true := ⟨callB_of 2 ht (hm_good hq_568) rfl rfl rfl (ht _ hq_88) (ht _ hq_566) (by decide +kernel) hR, ht _ hq_567⟩
theorem mj_sci_pci (ht : ∀ w ∈ hm_tbl, w.before args s = true) (hR : rm_j_pci.frames + 1 ≤ R.frames ∧ 8 + (3 + 11) + rm_j_pci.locals ≤ R.locals) : CallB R s args "java/lang/String" 1059 y_j_pci prog_19_method_11_code 3 (some .int) (hm_ws y_j_pci prog_19_method_11_code 3 (some .int)) rm_j_pci 0 0 3 ∧ (Cond.static y_j_pci).before args s = true := ⟨callB_of 3 ht (hm_good hq_573) rfl rfl rfl (ht _ hq_90) (ht _ hq_571) (by decide +kernel) hR, ht _ hq_572⟩
set_option maxHeartbeats 4000000 in
theorem cj_coder {adK adV : Nat → Nat} {o : Nat} {j : Nat} (hj : j < 9) : Met l y_j_coder (hm_ws y_j_coder prog_15_method_152_code 1 (some .byte)) rm_j_coder (hj_P adK adV o [.ref (adK j)]) (vp_Si (fun r => r = 0)) 0 0 (fun _ => False) := by
  refine Met.ofW (cc := prog_15_method_152_code) (maxL := 1) (ret := some .byte) (by decide) rfl ?_
  intro p e s m args below meth c s₁ B hml hv
  obtain ⟨rfl, hJ⟩ := hv
  have hx := B.exec
  have hb := B.bytes
  have hr := B.returns
  have hlk := B.notSynchronized
  have hown : s.vm.findClass "java/lang/String" = some m.cls := findClass_of_methodNamed B.named
  have ht : ∀ w ∈ hm_tbl, w.before _ s = true := fun w hq => atoms_spec (ws := hm_ws y_j_coder prog_15_method_152_code 1 (some .byte)) B.pre w (List.mem_cons_of_mem _ hq)
  have hS : va_S (hm_ge o) s.heap s.heap [] := va_S.rf
  have hl := lv_entry ([.ref (adK j)]) (n := 1) (Nat.le_of_ble_eq_true rfl)
  rw [lg_entry_eq]
  generalize (lg_sl ([.ref (adK j)]) ++ List.replicate (1 - (lg_sl ([.ref (adK j)])).length) Slot.unset).toArray = ls at hl ⊢
  have hl : lv_has ls 1 [(0, .ref (adK j))] := hl
  refine va_gets hx hb hJ.2.1 hS hown (ht _ hq_553) (fun x h => h) dj_coder_0 ?_
  refine lv_if_eq (tgt := 13) hx hb dj_coder_3 (by decide) (fun hc => absurd hc (by decide)) (fun hc => ?_)
  refine lv_aload_n hx hb dj_coder_6 rfl (lv_at hl 0 rfl) ?_
  refine vk_getf hx hb (hJ.1.1 j hj).2.1 hS hown (ht _ hq_1392) (fun x h => h) dj_coder_7 ?_
  refine lv_goto (tgt := 14) hx hb dj_coder_10 (by decide) ?_
  exact W.zret hx hb hr rfl (fun t ht _ => ⟨_, rfl, rfl, ht⟩) (fun _ h => absurd h List.not_mem_nil) dj_coder_14
set_option maxHeartbeats 4000000 in
theorem cj_isLatin1 {adK adV : Nat → Nat} {o : Nat} {j : Nat} (hj : j < 9) : Met l y_j_isLatin1 (hm_ws y_j_isLatin1 prog_15_method_154_code 1 (some .boolean)) rm_j_isLatin1 (hj_P adK adV o [.ref (adK j)]) (vp_Si (fun r => r = 1)) 0 0 (fun _ => False) := by
  refine Met.ofW (cc := prog_15_method_154_code) (maxL := 1) (ret := some .boolean) (by decide) rfl ?_
  intro p e s m args below meth c s₁ B hml hv
  obtain ⟨rfl, hJ⟩ := hv
  have hx := B.exec
  have hb := B.bytes
  have hr := B.returns
  have hlk := B.notSynchronized
  have hown : s.vm.findClass "java/lang/String" = some m.cls := findClass_of_methodNamed B.named
  have ht : ∀ w ∈ hm_tbl, w.before _ s = true := fun w hq => atoms_spec (ws := hm_ws y_j_isLatin1 prog_15_method_154_code 1 (some .boolean)) B.pre w (List.mem_cons_of_mem _ hq)
  have hS : va_S (hm_ge o) s.heap s.heap [] := va_S.rf
  have hl := lv_entry ([.ref (adK j)]) (n := 1) (Nat.le_of_ble_eq_true rfl)
  rw [lg_entry_eq]
  generalize (lg_sl ([.ref (adK j)]) ++ List.replicate (1 - (lg_sl ([.ref (adK j)])).length) Slot.unset).toArray = ls at hl ⊢
  have hl : lv_has ls 1 [(0, .ref (adK j))] := hl
  refine va_gets hx hb hJ.2.1 hS hown (ht _ hq_553) (fun x h => h) dj_isLatin1_0 ?_
  refine lv_if_eq (tgt := 17) hx hb dj_isLatin1_3 (by decide) (fun hc => absurd hc (by decide)) (fun hc => ?_)
  refine lv_aload_n hx hb dj_isLatin1_6 rfl (lv_at hl 0 rfl) ?_
  refine vk_getf hx hb (hJ.1.1 j hj).2.1 hS hown (ht _ hq_1392) (fun x h => h) dj_isLatin1_7 ?_
  refine lv_if_ne (tgt := 17) hx hb dj_isLatin1_10 (by decide) (fun hc => absurd rfl hc) (fun hc => ?_)
  refine lv_iconst (v := 1) hx hb dj_isLatin1_13 (by decide) ?_
  refine lv_goto (tgt := 18) hx hb dj_isLatin1_14 (by decide) ?_
  exact W.zret hx hb hr rfl (fun t ht _ => ⟨_, rfl, rfl, ht⟩) (fun _ h => absurd h List.not_mem_nil) dj_isLatin1_18
set_option maxHeartbeats 4000000 in
theorem cj_length {adK adV : Nat → Nat} {o : Nat} {j : Nat} (hj : j < 9) : Met l y_j_length (hm_ws y_j_length prog_15_method_54_code 1 (some .int)) rm_j_length (hj_P adK adV o [.ref (adK j)]) (vp_Si (fun r => r = nI (lenJ j))) 0 0 (fun _ => False) := by
  refine Met.ofW (cc := prog_15_method_54_code) (maxL := 1) (ret := some .int) (by decide) rfl ?_
  intro p e s m args below meth c s₁ B hml hv
  obtain ⟨rfl, hJ⟩ := hv
  have hx := B.exec
  have hb := B.bytes
  have hr := B.returns
  have hlk := B.notSynchronized
  have hown : s.vm.findClass "java/lang/String" = some m.cls := findClass_of_methodNamed B.named
  have ht : ∀ w ∈ hm_tbl, w.before _ s = true := fun w hq => atoms_spec (ws := hm_ws y_j_length prog_15_method_54_code 1 (some .int)) B.pre w (List.mem_cons_of_mem _ hq)
  have hS : va_S (hm_ge o) s.heap s.heap [] := va_S.rf
  have hl := lv_entry ([.ref (adK j)]) (n := 1) (Nat.le_of_ble_eq_true rfl)
  rw [lg_entry_eq]
  generalize (lg_sl ([.ref (adK j)]) ++ List.replicate (1 - (lg_sl ([.ref (adK j)])).length) Slot.unset).toArray = ls at hl ⊢
  have hl : lv_has ls 1 [(0, .ref (adK j))] := hl
  refine lv_aload_n hx hb dj_length_0 rfl (lv_at hl 0 rfl) ?_
  refine vk_getf hx hb (hJ.1.1 j hj).2.2.1 hS hown (ht _ hq_1391) (fun x h => h) dj_length_1 ?_
  refine va_tlen hx hb (hJ.1.1 j hj).2.2.2 hS rfl dj_length_4 ?_
  refine lv_aload_n hx hb dj_length_5 rfl (lv_at hl 0 rfl) ?_
  refine hj_calli (va_runV (As := []) (rest := [.int _]) ⟨hx, hb, hml, hown, ht⟩ (cj_coder hj) (mj_len_coder ht ⟨Nat.le_of_ble_eq_true rfl, Nat.le_of_ble_eq_true rfl⟩) ⟨hj_blind adK adV o _, vk_recv hJ.1 hj hS, fun U hU hW => ⟨rfl, by rw [hU]; exact hJ.warm hW⟩⟩ rfl rfl hl.1 rfl (lv_room (Nat.le_of_ble_eq_true rfl)) dj_length_6 ⟨Nat.zero_le _, Nat.zero_le _⟩) (fun r hr0 => ?_)
  subst hr0
  refine lv_ishr hx hb dj_length_9 ?_
  exact W.iret hx hb hr (fun t ht _ => ⟨_, rfl, sb_shr0 _, ht⟩) (fun _ h => absurd h List.not_mem_nil) dj_length_10
theorem lenJ_small : ∀ {j : Nat}, j < 9 → lenJ j < 2 ^ 31 := by
  intro j hj
  have h : j = 0 ∨ j = 1 ∨ j = 2 ∨ j = 3 ∨ j = 4 ∨ j = 5 ∨ j = 6 ∨ j = 7 ∨ j = 8 := by omega
  rcases h with rfl | rfl | rfl | rfl | rfl | rfl | rfl | rfl | rfl <;> decide
set_option maxHeartbeats 4000000 in
theorem cj_isEmpty {adK adV : Nat → Nat} {o : Nat} {j : Nat} (hj : j < 9) : Met l y_j_isEmpty (hm_ws y_j_isEmpty prog_15_method_55_code 1 (some .boolean)) rm_j_isEmpty (hj_P adK adV o [.ref (adK j)]) (vp_Si (fun r => r = if lenJ j = 0 then 1 else 0)) 0 0 (fun _ => False) := by
  refine Met.ofW (cc := prog_15_method_55_code) (maxL := 1) (ret := some .boolean) (by decide) rfl ?_
  intro p e s m args below meth c s₁ B hml hv
  obtain ⟨rfl, hJ⟩ := hv
  have hx := B.exec
  have hb := B.bytes
  have hr := B.returns
  have hlk := B.notSynchronized
  have hown : s.vm.findClass "java/lang/String" = some m.cls := findClass_of_methodNamed B.named
  have ht : ∀ w ∈ hm_tbl, w.before _ s = true := fun w hq => atoms_spec (ws := hm_ws y_j_isEmpty prog_15_method_55_code 1 (some .boolean)) B.pre w (List.mem_cons_of_mem _ hq)
  have hS : va_S (hm_ge o) s.heap s.heap [] := va_S.rf
  have hl := lv_entry ([.ref (adK j)]) (n := 1) (Nat.le_of_ble_eq_true rfl)
  rw [lg_entry_eq]
  generalize (lg_sl ([.ref (adK j)]) ++ List.replicate (1 - (lg_sl ([.ref (adK j)])).length) Slot.unset).toArray = ls at hl ⊢
  have hl : lv_has ls 1 [(0, .ref (adK j))] := hl
  refine lv_aload_n hx hb dj_isEmpty_0 rfl (lv_at hl 0 rfl) ?_
  refine vk_getf hx hb (hJ.1.1 j hj).2.2.1 hS hown (ht _ hq_1391) (fun x h => h) dj_isEmpty_1 ?_
  refine va_tlen hx hb (hJ.1.1 j hj).2.2.2 hS rfl dj_isEmpty_4 ?_
  have hb31 : lenJ j < 2 ^ 31 := lenJ_small hj
  refine lv_if_ne (tgt := 12) hx hb dj_isEmpty_5 (by decide) (fun hc => ?_) (fun hc => ?_)
  · have h0 : ¬ lenJ j = 0 := fun h => hc (show nI (lenJ j) = 0 by rw [h]; rfl)
    refine lv_iconst (v := 0) hx hb dj_isEmpty_12 (by decide) ?_
    exact W.zret hx hb hr rfl (fun t ht _ => ⟨_, rfl, by rw [if_neg h0], ht⟩) (fun _ h => absurd h List.not_mem_nil) dj_isEmpty_13
  · have h0 : lenJ j = 0 := Classical.byContradiction fun h => nI_ne0 (Nat.pos_of_ne_zero h) hb31 hc
    refine lv_iconst (v := 1) hx hb dj_isEmpty_8 (by decide) ?_
    refine lv_goto (tgt := 13) hx hb dj_isEmpty_9 (by decide) ?_
    exact W.zret hx hb hr rfl (fun t ht _ => ⟨_, rfl, by rw [if_pos h0], ht⟩) (fun _ h => absurd h List.not_mem_nil) dj_isEmpty_13
set_option maxHeartbeats 4000000 in
theorem cj_pci {adK adV : Nat → Nat} {o : Nat} {x n : Int32} {v : Value} (hv : v = .null ∨ ∃ t, v = .ref t) (h1 : ¬ x < 0) (h2 : x < n) : Met l y_j_pci (hm_ws y_j_pci prog_19_method_11_code 3 (some .int)) rm_j_pci (hj_P adK adV o [.int x, .int n, v]) (vp_Si (fun r => r = x)) 0 0 (fun _ => False) := by
  refine Met.ofW (cc := prog_19_method_11_code) (maxL := 3) (ret := some .int) (by decide) rfl ?_
  intro p e s m args below meth c s₁ B hml hv
  obtain ⟨rfl, hJ⟩ := hv
  have hx := B.exec
  have hb := B.bytes
  have hr := B.returns
  have hlk := B.notSynchronized
  have hown : s.vm.findClass "jdk/internal/util/Preconditions" = some m.cls := findClass_of_methodNamed B.named
  have ht : ∀ w ∈ hm_tbl, w.before _ s = true := fun w hq => atoms_spec (ws := hm_ws y_j_pci prog_19_method_11_code 3 (some .int)) B.pre w (List.mem_cons_of_mem _ hq)
  have hS : va_S (hm_ge o) s.heap s.heap [] := va_S.rf
  have hl := lv_entry ([.int x, .int n, v]) (n := 3) (by rcases hv with rfl | ⟨t, rfl⟩ <;> exact Nat.le_of_ble_eq_true rfl)
  rw [lg_entry_eq]
  generalize (lg_sl ([.int x, .int n, v]) ++ List.replicate (3 - (lg_sl ([.int x, .int n, v])).length) Slot.unset).toArray = ls at hl ⊢
  have hl : lv_has ls 3 [(0, .int x), (1, .int n), (2, v)] := by rcases hv with rfl | ⟨t, rfl⟩ <;> exact hl
  refine lv_iload_n hx hb dj_pci_0 rfl (lv_at hl 0 rfl) ?_
  refine lv_if_lt (tgt := 9) hx hb dj_pci_1 (by decide) (fun hc => absurd hc h1) (fun hc => ?_)
  refine lv_iload_n hx hb dj_pci_4 rfl (lv_at hl 0 rfl) ?_
  refine lv_iload_n hx hb dj_pci_5 rfl (lv_at hl 1 rfl) ?_
  refine lv_icmp_lt (tgt := 16) hx hb dj_pci_6 (by decide) (fun hc => ?_) (fun hc => absurd h2 hc)
  refine lv_iload_n hx hb dj_pci_16 rfl (lv_at hl 0 rfl) ?_
  exact W.iret hx hb hr (fun t ht _ => ⟨_, rfl, rfl, ht⟩) (fun _ h => absurd h List.not_mem_nil) dj_pci_17
set_option maxHeartbeats 4000000 in
theorem cj_sci {adK adV : Nat → Nat} {o : Nat} {x n : Int32} (h1 : ¬ x < 0) (h2 : x < n) : Met l y_j_sci (hm_ws y_j_sci prog_15_method_155_code 2 none) rm_j_sci (hj_P adK adV o [.int x, .int n]) (va_Sv (fun _ => True)) 0 0 (fun _ => False) := by
  refine Met.ofW (cc := prog_15_method_155_code) (maxL := 2) (ret := none) (by decide) rfl ?_
  intro p e s m args below meth c s₁ B hml hv
  obtain ⟨rfl, hJ⟩ := hv
  have hx := B.exec
  have hb := B.bytes
  have hr := B.returns
  have hlk := B.notSynchronized
  have hown : s.vm.findClass "java/lang/String" = some m.cls := findClass_of_methodNamed B.named
  have ht : ∀ w ∈ hm_tbl, w.before _ s = true := fun w hq => atoms_spec (ws := hm_ws y_j_sci prog_15_method_155_code 2 none) B.pre w (List.mem_cons_of_mem _ hq)
  have hS : va_S (hm_ge o) s.heap s.heap [] := va_S.rf
  have hl := lv_entry ([.int x, .int n]) (n := 2) (Nat.le_of_ble_eq_true rfl)
  rw [lg_entry_eq]
  generalize (lg_sl ([.int x, .int n]) ++ List.replicate (2 - (lg_sl ([.int x, .int n])).length) Slot.unset).toArray = ls at hl ⊢
  have hl : lv_has ls 2 [(0, .int x), (1, .int n)] := hl
  refine lv_iload_n hx hb dj_sci_0 rfl (lv_at hl 0 rfl) ?_
  refine lv_iload_n hx hb dj_sci_1 rfl (lv_at hl 1 rfl) ?_
  rcases hJ.2.2.1 with hZ | ⟨tz, hZ⟩
  · refine va_gets hx hb hZ hS hown (ht _ hq_569) (fun x h => h) dj_sci_2 ?_
    refine hj_calli (va_runS (As := [.int x, .int n, .null]) (rest := []) ⟨hx, hb, hml, hown, ht⟩ (cj_pci (Or.inl rfl) h1 h2) (mj_sci_pci ht ⟨Nat.le_of_ble_eq_true rfl, Nat.le_of_ble_eq_true rfl⟩) ⟨hj_blind adK adV o _, fun U hU hW => ⟨rfl, by rw [hU]; exact hJ.warm hW⟩⟩ rfl rfl hl.1 rfl (lv_room (Nat.le_of_ble_eq_true rfl)) dj_sci_5 ⟨Nat.zero_le _, Nat.zero_le _⟩) (fun r hr0 => ?_)
    refine lv_pop hx hb dj_sci_8 rfl ?_
    exact W.vret hx hb hr (fun t ht _ => ⟨rfl, trivial, ht⟩) (fun _ h => absurd h List.not_mem_nil) dj_sci_9
  · refine va_gets hx hb hZ hS hown (ht _ hq_569) (fun x h => h) dj_sci_2 ?_
    refine hj_calli (va_runS (As := [.int x, .int n, .ref tz]) (rest := []) ⟨hx, hb, hml, hown, ht⟩ (cj_pci (Or.inr ⟨_, rfl⟩) h1 h2) (mj_sci_pci ht ⟨Nat.le_of_ble_eq_true rfl, Nat.le_of_ble_eq_true rfl⟩) ⟨hj_blind adK adV o _, fun U hU hW => ⟨rfl, by rw [hU]; exact hJ.warm hW⟩⟩ rfl rfl hl.1 rfl (lv_room (Nat.le_of_ble_eq_true rfl)) dj_sci_5 ⟨Nat.zero_le _, Nat.zero_le _⟩) (fun r hr0 => ?_)
    refine lv_pop hx hb dj_sci_8 rfl ?_
    exact W.vret hx hb hr (fun t ht _ => ⟨rfl, trivial, ht⟩) (fun _ h => absurd h List.not_mem_nil) dj_sci_9
set_option maxHeartbeats 4000000 in
theorem cj_lca {adK adV : Nat → Nat} {o : Nat} {j : Nat} {x : Int32} (hj : j < 9) (hx1 : vp_in x (lenJ j)) : Met l y_j_lca (hm_ws y_j_lca prog_16_method_2_code 2 (some .char)) rm_j_lca (hj_P adK adV o [.ref (adV j), .int x]) (vp_Si (fun r => r = chJ j x.toNatClampNeg)) 0 0 (fun _ => False) := by
  refine Met.ofW (cc := prog_16_method_2_code) (maxL := 2) (ret := some .char) (by decide) rfl ?_
  intro p e s m args below meth c s₁ B hml hv
  obtain ⟨rfl, hJ⟩ := hv
  have hx := B.exec
  have hb := B.bytes
  have hr := B.returns
  have hlk := B.notSynchronized
  have hown : s.vm.findClass "java/lang/StringLatin1" = some m.cls := findClass_of_methodNamed B.named
  have ht : ∀ w ∈ hm_tbl, w.before _ s = true := fun w hq => atoms_spec (ws := hm_ws y_j_lca prog_16_method_2_code 2 (some .char)) B.pre w (List.mem_cons_of_mem _ hq)
  have hS : va_S (hm_ge o) s.heap s.heap [] := va_S.rf
  have hl := lv_entry ([.ref (adV j), .int x]) (n := 2) (Nat.le_of_ble_eq_true rfl)
  rw [lg_entry_eq]
  generalize (lg_sl ([.ref (adV j), .int x]) ++ List.replicate (2 - (lg_sl ([.ref (adV j), .int x])).length) Slot.unset).toArray = ls at hl ⊢
  have hl : lv_has ls 2 [(0, .ref (adV j)), (1, .int x)] := hl
  obtain ⟨k, hk, hxk⟩ := vp_in_of hx1 (lenJ_small hj)
  have hb31 := lenJ_small hj
  have h1 : ¬ x < 0 := by rw [hxk]; exact nI_pos (by omega)
  have h2 : x < nI (lenJ j) := by rw [hxk]; exact nI_lt hk hb31
  refine lv_iload_n hx hb dj_lca_0 rfl (lv_at hl 1 rfl) ?_
  refine lv_aload_n hx hb dj_lca_1 rfl (lv_at hl 0 rfl) ?_
  refine va_tlen hx hb (hJ.1.1 j hj).2.2.2 hS (show Int32.ofNat (lenJl.getD j 0) = nI (lenJ j) from rfl) dj_lca_2 ?_
  refine hj_callv (va_runS (As := [.int x, .int (nI (lenJ j))]) (rest := []) ⟨hx, hb, hml, hown, ht⟩ (cj_sci h1 h2) (mj_lca_sci ht ⟨Nat.le_of_ble_eq_true rfl, Nat.le_of_ble_eq_true rfl⟩) ⟨hj_blind adK adV o _, fun U hU hW => ⟨rfl, by rw [hU]; exact hJ.warm hW⟩⟩ rfl rfl hl.1 rfl (lv_room (Nat.le_of_ble_eq_true rfl)) dj_lca_3 ⟨Nat.zero_le _, Nat.zero_le _⟩) ?_
  refine lv_aload_n hx hb dj_lca_6 rfl (lv_at hl 0 rfl) ?_
  refine lv_iload_n hx hb dj_lca_7 rfl (lv_at hl 1 rfl) ?_
  refine va_tb hx hb (hJ.1.1 j hj).2.2.2 hS hx1 rfl dj_lca_8 ?_
  refine lv_sipush (v := 255) hx hb dj_lca_9 (by decide) ?_
  refine lv_iand hx hb dj_lca_12 ?_
  refine lv_i2c (v := chJ j x.toNatClampNeg) hx hb dj_lca_13 (sc_c2 _) ?_
  exact W.zret hx hb hr (sc_nar _) (fun t ht _ => ⟨_, rfl, rfl, ht⟩) (fun _ h => absurd h List.not_mem_nil) dj_lca_14
set_option maxHeartbeats 4000000 in
theorem cj_charAt {adK adV : Nat → Nat} {o : Nat} {j : Nat} {x : Int32} (hj : j < 9) (hx1 : vp_in x (lenJ j)) : Met l y_j_charAt (hm_ws y_j_charAt prog_15_method_56_code 2 (some .char)) rm_j_charAt (hj_P adK adV o [.ref (adK j), .int x]) (vp_Si (fun r => r = chJ j x.toNatClampNeg)) 0 0 (fun _ => False) := by
  refine Met.ofW (cc := prog_15_method_56_code) (maxL := 2) (ret := some .char) (by decide) rfl ?_
  intro p e s m args below meth c s₁ B hml hv
  obtain ⟨rfl, hJ⟩ := hv
  have hx := B.exec
  have hb := B.bytes
  have hr := B.returns
  have hlk := B.notSynchronized
  have hown : s.vm.findClass "java/lang/String" = some m.cls := findClass_of_methodNamed B.named
  have ht : ∀ w ∈ hm_tbl, w.before _ s = true := fun w hq => atoms_spec (ws := hm_ws y_j_charAt prog_15_method_56_code 2 (some .char)) B.pre w (List.mem_cons_of_mem _ hq)
  have hS : va_S (hm_ge o) s.heap s.heap [] := va_S.rf
  have hl := lv_entry ([.ref (adK j), .int x]) (n := 2) (Nat.le_of_ble_eq_true rfl)
  rw [lg_entry_eq]
  generalize (lg_sl ([.ref (adK j), .int x]) ++ List.replicate (2 - (lg_sl ([.ref (adK j), .int x])).length) Slot.unset).toArray = ls at hl ⊢
  have hl : lv_has ls 2 [(0, .ref (adK j)), (1, .int x)] := hl
  refine lv_aload_n hx hb dj_charAt_0 rfl (lv_at hl 0 rfl) ?_
  refine hj_calli (va_runV (As := []) (rest := []) ⟨hx, hb, hml, hown, ht⟩ (cj_isLatin1 hj) (mj_ch_lat ht ⟨Nat.le_of_ble_eq_true rfl, Nat.le_of_ble_eq_true rfl⟩) ⟨hj_blind adK adV o _, vk_recv hJ.1 hj hS, fun U hU hW => ⟨rfl, by rw [hU]; exact hJ.warm hW⟩⟩ rfl rfl hl.1 rfl (lv_room (Nat.le_of_ble_eq_true rfl)) dj_charAt_1 ⟨Nat.zero_le _, Nat.zero_le _⟩) (fun r hr0 => ?_)
  subst hr0
  refine lv_if_eq (tgt := 16) hx hb dj_charAt_4 (by decide) (fun hc => absurd hc (by decide)) (fun hc => ?_)
  refine lv_aload_n hx hb dj_charAt_7 rfl (lv_at hl 0 rfl) ?_
  refine vk_getf hx hb (hJ.1.1 j hj).2.2.1 hS hown (ht _ hq_1391) (fun x h => h) dj_charAt_8 ?_
  refine lv_iload_n hx hb dj_charAt_11 rfl (lv_at hl 1 rfl) ?_
  refine hj_calli (va_runS (As := [.ref (adV j), .int x]) (rest := []) ⟨hx, hb, hml, hown, ht⟩ (cj_lca hj hx1) (mj_ch_lca ht ⟨Nat.le_of_ble_eq_true rfl, Nat.le_of_ble_eq_true rfl⟩) ⟨hj_blind adK adV o _, fun U hU hW => ⟨rfl, by rw [hU]; exact hJ.warm hW⟩⟩ rfl rfl hl.1 rfl (lv_room (Nat.le_of_ble_eq_true rfl)) dj_charAt_12 ⟨Nat.zero_le _, Nat.zero_le _⟩) (fun r hr0 => ?_)
  subst hr0
  exact W.zret hx hb hr (sc_nar _) (fun t ht _ => ⟨_, rfl, rfl, ht⟩) (fun _ h => absurd h List.not_mem_nil) dj_charAt_15
end JD
