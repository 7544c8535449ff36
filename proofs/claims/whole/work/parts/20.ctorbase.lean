/-! ===== worlds that grow: the cells from o on are just those of the list l ===== -/
def hm_wc (G : hm_G) (H0 : Heap) (o : Nat) (l : List ((Nat × Nat) ⊕ (Nat × List Nat))) (S : hm_S) (T : hm_T) (H : Heap) : Prop :=
  H.size = o + l.length ∧ (∀ q : Nat, q < o → H[q]? = H0[q]?) ∧ ∀ i : Nat, i < l.length → va_at G.1 hm_cl (o + i, hm_E G o (hm_lsh l) S T i) H
def hm_ge (o : Nat) : Addr → Prop := fun q => o ≤ q
def hm_Lc (o : Nat) (locs : List Loc) : Prop := ∀ q ∈ locs, hm_ge o q.base
theorem hm_Lc0 (o : Nat) : hm_Lc o [] := fun _ h => absurd h List.not_mem_nil
theorem hm_Lc.app {o : Nat} {l1 l2 : List Loc} (h : hm_Lc o l1) (h2 : ∀ q ∈ l2, hm_ge o q.base) : hm_Lc o (l1 ++ l2) := by
  intro q hq
  rcases List.mem_append.mp hq with h1 | h1
  · exact h q h1
  · exact h2 q h1
theorem hm_wc.w {G : hm_G} {H0 : Heap} {o : Nat} {l : List ((Nat × Nat) ⊕ (Nat × List Nat))} {S : hm_S} {T : hm_T} {H : Heap} (h : hm_wc G H0 o l S T H) : hm_w G H o l.length (hm_lsh l) S T H := ⟨rfl, fun _ _ => rfl, h.2.2⟩
theorem hm_wc.of {G : hm_G} {H0 : Heap} {o : Nat} {l l' : List ((Nat × Nat) ⊕ (Nat × List Nat))} {S S' : hm_S} {T T' : hm_T} {H H1 : Heap} (h : hm_wc G H0 o l S T H) (hl : l'.length = l.length) (hw : hm_w G H o l.length (hm_lsh l') S' T' H1) : hm_wc G H0 o l' S' T' H1 :=
  ⟨by rw [hw.1, h.1, hl], fun q hq => (hw.2.1 q (Or.inl hq)).trans (h.2.1 q hq), fun i hi => hw.2.2 i (by rw [← hl]; exact hi)⟩
theorem hm_lsh_app {l : List ((Nat × Nat) ⊕ (Nat × List Nat))} {x : (Nat × Nat) ⊕ (Nat × List Nat)} {i : Nat} (h : i < l.length) : hm_lsh (l ++ [x]) i = hm_lsh l i := by
  simp only [hm_lsh, List.getD_eq_getElem?_getD, List.getElem?_append_left h]
theorem hm_lsh_last (l : List ((Nat × Nat) ⊕ (Nat × List Nat))) (x : (Nat × Nat) ⊕ (Nat × List Nat)) : hm_lsh (l ++ [x]) l.length = x := by
  simp [hm_lsh, List.getD_eq_getElem?_getD]
theorem hm_lsh_set {l : List ((Nat × Nat) ⊕ (Nat × List Nat))} {x : (Nat × Nat) ⊕ (Nat × List Nat)} {i : Nat} (h : i < l.length) : hm_lsh (l.set i x) i = x := by
  simp [hm_lsh, List.getD_eq_getElem?_getD, h]
theorem hm_lsh_ne {l : List ((Nat × Nat) ⊕ (Nat × List Nat))} {x : (Nat × Nat) ⊕ (Nat × List Nat)} {i j : Nat} (h : j ≠ i) : hm_lsh (l.set i x) j = hm_lsh l j := by
  simp only [hm_lsh, List.getD_eq_getElem?_getD, List.getElem?_set_ne (Ne.symm h)]
theorem hm_lsh_at {l : List ((Nat × Nat) ⊕ (Nat × List Nat))} {x : (Nat × Nat) ⊕ (Nat × List Nat)} {i : Nat} (h : l[i]? = some x) : hm_lsh l i = x := by
  simp [hm_lsh, List.getD_eq_getElem?_getD, h]
theorem hm_wc.push {G : hm_G} {H0 : Heap} {o : Nat} {l : List ((Nat × Nat) ⊕ (Nat × List Nat))} {S : hm_S} {T : hm_T} {H H1 : Heap} (h : hm_wc G H0 o l S T H) {x : (Nat × Nat) ⊕ (Nat × List Nat)} (hz : H1.size = H.size + 1) (o1 : ∀ q : Nat, q < H.size → H1[q]? = H[q]?) (he : va_at G.1 hm_cl (o + l.length, hm_E G o (hm_lsh (l ++ [x])) S T l.length) H1) : hm_wc G H0 o (l ++ [x]) S T H1 := by
  refine ⟨by rw [hz, h.1, List.length_append]; rfl, fun q hq => (o1 q (by rw [h.1]; omega)).trans (h.2.1 q hq), fun i hi => ?_⟩
  rw [List.length_append] at hi
  rcases Nat.lt_or_ge i l.length with hl | hl
  · rw [hm_E_row (hm_lsh_app hl) rfl rfl]
    exact (h.2.2 i hl).kept (o1 _ (by show o + i < H.size; rw [h.1]; omega))
  · have e : i = l.length := by have : i < l.length + 1 := hi; omega
    rw [e]; exact he
def hm_Pcc (G : hm_G) (H0 : Heap) (o : Nat) (l : List ((Nat × Nat) ⊕ (Nat × List Nat))) (S : hm_S) (T : hm_T) (av : List Value) : Array Value → State → Prop := fun v U => v = av.toArray ∧ hm_K G U ∧ hm_wc G H0 o l S T U.heap
def hm_Qcc (G : hm_G) (H0 : Heap) (o : Nat) (l : List ((Nat × Nat) ⊕ (Nat × List Nat))) (Q : hm_S → hm_T → Prop) : Array Value → State → Outcome → State → Prop := fun _ _ oc t => ∃ (S' : hm_S) (T' : hm_T), oc = .returned none ∧ Q S' T' ∧ hm_wc G H0 o l S' T' t.heap
theorem hm_blindc (G : hm_G) (H0 : Heap) (o : Nat) (l : List ((Nat × Nat) ⊕ (Nat × List Nat))) (S : hm_S) (T : hm_T) (av : List Value) : FrameBlind (hm_Pcc G H0 o l S T av) := fun a U g mk h => ⟨h.1, h.2.1.same rfl, h.2.2⟩
section HMC
variable {p : Program} {la : Launch} {e : Env} {R : Room} {s : State} {m : MethodId} {args : Array Value} {below : List Frame} {meth : Method} {c : Code} {H : Heap} {locs : List Loc} {cells slots : Nat} {Q : State → Prop}
variable {cc : ByteArray} {pc nL : Nat} {ls : Array Slot} {rest : List Value} {own : String} {G : hm_G} {H0 : Heap} {o : Nat} {l : List ((Nat × Nat) ⊕ (Nat × List Nat))} {S : hm_S} {T : hm_T}
/-- new -/
theorem hm_cnew (cx : hm_cx G p s m args c cc nL own) (hw : hm_wc G H0 o l S T H) {C : String} {TT : u_T} {N ci index : Nat} (hin : ∀ w ∈ u_ws C TT N, w ∈ hm_tbl) (ty : Nat → FieldType) (hty : ∀ k, k < N → parseFieldDescriptor (TT k).2.2.1 = some (ty k)) (hc : hm_cl[ci]? = some (C, TT, N)) (hcl : Cond.classLink own index C ∈ hm_tbl) (hins : Cond.instantiable C N ∈ hm_tbl) (hini : Cond.initialized C ∈ hm_tbl) (fs : List Nat) (hdf : ∀ j, j < N → defaultValue (ty j) = vp_V (hm_fvs o (fun _ => 0) (fun _ => 0) 0 fs) j) (h0 : ∀ k, S l.length k = 0) (h1 : ∀ k, T l.length k = 0) (hcells : cells + 1 ≤ R.cells) (hslots : slots + N ≤ R.slots) (hdg : decode cc pc = .ok (.new index, 3))
    (kk : ∀ H1 : Heap, hm_wc G H0 o (l ++ [.inr (ci, fs)]) S T H1 → W p la e R s m args below meth c H1 locs (cells + 1) (slots + N) Q (F0 m (pc + 3) ls (.ref (o + l.length) :: rest))) : W p la e R s m args below meth c H locs cells slots Q (F0 m pc ls rest) := by
  obtain ⟨⟨hx, hb, -, hown, ht⟩, hK⟩ := cx
  have hKn := hK.1.1 ci _ hc
  refine W.newcK hx hb hown (ht _ hcl) (ht _ hins) (ht _ hini) rfl hdg hcells hslots hKn.2.1 hw.1 fun H1 kC hkC e1 z1 o1 => ?_
  refine kk H1 (hw.push (by rw [z1, hw.1]) (fun q hq => o1 q (by rw [← hw.1]; exact hq)) ?_)
  rw [hm_E_obj (hm_lsh_last l _), show S l.length = (fun _ => 0) from funext h0, show T l.length = (fun _ => 0) from funext h1]
  exact ⟨_, hc, (u_born ty ht hin hKn hkC e1 hty).to hdf⟩
/-- newarray -/
theorem hm_cnewi (cx : hm_cx G p s m args c cc nL own) (hw : hm_wc G H0 o l S T H) (harr : Cond.arrayClass .int ∈ hm_tbl) {n : Int32} {N : Nat} (hn : ¬ n < 0) (hN : n.toNatClampNeg = N) (hbytes : N * 4 ≤ 536870912) (h0 : ∀ k, S l.length k = 0) (hcells : cells + 1 ≤ R.cells) (hslots : slots + N ≤ R.slots) (hdg : decode cc pc = .ok (.newarray .int, 2))
    (kk : ∀ H1 : Heap, hm_wc G H0 o (l ++ [.inl (0, N)]) S T H1 → W p la e R s m args below meth c H1 locs (cells + 1) (slots + N) Q (F0 m (pc + 2) ls (.ref (o + l.length) :: rest))) : W p la e R s m args below meth c H locs cells slots Q (F0 m pc ls (.int n :: rest)) := by
  obtain ⟨⟨hx, hb, -, hown, ht⟩, hK⟩ := cx
  refine va_newaK (atype := .int) hx hb (ht _ harr) rfl hdg rfl hn hN hbytes hcells hslots hw.1 fun H1 cA e1 z1 o1 hAr hNm => ?_
  refine kk H1 (hw.push (by rw [z1, hw.1]) (fun q hq => o1 q (by rw [← hw.1]; exact hq)) ?_)
  have hcA : G.2.1 = cA := Option.some.inj ((hK.1.2 0 _ rfl).2.symm.trans hNm)
  rw [hm_E_int (hm_lsh_last l _), show S l.length = (fun _ => 0) from funext h0, hcA]
  exact e1
theorem hm_cnewl (cx : hm_cx G p s m args c cc nL own) (hw : hm_wc G H0 o l S T H) (harr : Cond.arrayClass .long ∈ hm_tbl) {n : Int32} {N : Nat} (hn : ¬ n < 0) (hN : n.toNatClampNeg = N) (hbytes : N * 8 ≤ 536870912) (h0 : ∀ k, T l.length k = 0) (hcells : cells + 1 ≤ R.cells) (hslots : slots + N ≤ R.slots) (hdg : decode cc pc = .ok (.newarray .long, 2))
    (kk : ∀ H1 : Heap, hm_wc G H0 o (l ++ [.inl (1, N)]) S T H1 → W p la e R s m args below meth c H1 locs (cells + 1) (slots + N) Q (F0 m (pc + 2) ls (.ref (o + l.length) :: rest))) : W p la e R s m args below meth c H locs cells slots Q (F0 m pc ls (.int n :: rest)) := by
  obtain ⟨⟨hx, hb, -, hown, ht⟩, hK⟩ := cx
  refine va_newaK (atype := .long) hx hb (ht _ harr) rfl hdg rfl hn hN hbytes hcells hslots hw.1 fun H1 cA e1 z1 o1 hAr hNm => ?_
  refine kk H1 (hw.push (by rw [z1, hw.1]) (fun q hq => o1 q (by rw [← hw.1]; exact hq)) ?_)
  have hcA : G.2.2.1 = cA := Option.some.inj ((hK.1.2 1 _ rfl).2.symm.trans hNm)
  rw [hm_E_long (hm_lsh_last l _), show T l.length = (fun _ => 0) from funext h0, hcA]
  exact e1
theorem hm_cnewz (cx : hm_cx G p s m args c cc nL own) (hw : hm_wc G H0 o l S T H) (harr : Cond.arrayClass .boolean ∈ hm_tbl) {n : Int32} {N : Nat} (hn : ¬ n < 0) (hN : n.toNatClampNeg = N) (hbytes : N * 1 ≤ 536870912) (h0 : ∀ k, S l.length k = 0) (hcells : cells + 1 ≤ R.cells) (hslots : slots + N ≤ R.slots) (hdg : decode cc pc = .ok (.newarray .boolean, 2))
    (kk : ∀ H1 : Heap, hm_wc G H0 o (l ++ [.inl (2, N)]) S T H1 → W p la e R s m args below meth c H1 locs (cells + 1) (slots + N) Q (F0 m (pc + 2) ls (.ref (o + l.length) :: rest))) : W p la e R s m args below meth c H locs cells slots Q (F0 m pc ls (.int n :: rest)) := by
  obtain ⟨⟨hx, hb, -, hown, ht⟩, hK⟩ := cx
  refine va_newaK (atype := .boolean) hx hb (ht _ harr) rfl hdg rfl hn hN hbytes hcells hslots hw.1 fun H1 cA e1 z1 o1 hAr hNm => ?_
  refine kk H1 (hw.push (by rw [z1, hw.1]) (fun q hq => o1 q (by rw [← hw.1]; exact hq)) ?_)
  have hcA : G.2.2.2 = cA := Option.some.inj ((hK.1.2 2 _ rfl).2.symm.trans hNm)
  rw [hm_E_bool (hm_lsh_last l _), show S l.length = (fun _ => 0) from funext h0, hcA]
  exact e1
/-- putfield of a final reference, in a constructor -/
theorem hm_cputF (cx : hm_cx G p s m args c cc nL own) (hw : hm_wc G H0 o l S T H) {C : String} {TT : u_T} {N ci index : Nat} (hin : ∀ w ∈ u_ws C TT N, w ∈ hm_tbl) (ty0 : Nat → FieldType) (hty : ∀ k, k < N → parseFieldDescriptor (TT k).2.2.1 = some (ty0 k)) (hnm : ∀ a, a < N → ∀ b, b < N → a ≠ b → (TT a).2.1 ≠ (TT b).2.1) (hc : hm_cl[ci]? = some (C, TT, N)) (k : Nat) (hk : k < N) (hlink : Cond.fieldLink own index own (TT k).2.1 (TT k).2.2.1 ∈ hm_tbl) (href : (TT k).1 = own) (hfin : (TT k).2.2.2 = true) (hin2 : meth.name = "<init>")
    {i : Nat} {fs : List Nat} (hs : l[i]? = some (.inr (ci, fs))) {r : Nat} (hn : narrow (ty0 k) (.ref (o + r)) = .ref (o + r)) (hfit : fits (ty0 k) (.ref (o + r)) = true) (hl : k < fs.length) (hL : hm_Lc o locs) (hdg : decode cc pc = .ok (.putfield index, 3))
    (kk : ∀ (H1 : Heap) (locs1 : List Loc), hm_wc G H0 o (l.set i (.inr (ci, fs.set k (r + 3)))) S T H1 → hm_Lc o locs1 → W p la e R s m args below meth c H1 locs1 cells slots Q (F0 m (pc + 3) ls rest)) : W p la e R s m args below meth c H locs cells slots Q (F0 m pc ls (.ref (o + r) :: .ref (o + i) :: rest)) := by
  obtain ⟨⟨hx, hb, -, hown, ht⟩, hK⟩ := cx
  have hi : i < l.length := (List.getElem?_eq_some_iff.mp hs).1
  have hap := va_apart (own := own) ht hin ty0 hty hnm hK.1 hc
  obtain ⟨r', h1, cell, q1, q2, q3, q4⟩ := hm_at1 hw.w hi (hm_E_obj (hm_lsh_at hs)) 0 _ rfl
  have hr : r' = (C, TT, N) := Option.some.inj (h1.symm.trans hc)
  subst hr
  obtain ⟨hS, hfc, kC, hkC, hkind⟩ := hK.1.1 ci _ hc
  obtain ⟨cf, kf, fi, f, hi2, hsl⟩ := hS k hk
  have hlay := ht _ (hin _ (u_in_lay hk))
  unfold u_lay at hlay
  rw [if_pos hfin] at hlay
  have hst := (u_facts hfc hkC (u_lays ht hin hk) hi2).1
  have hcf : m.cls = cf := by
    obtain ⟨_, _, c', _, _, _, -, -, hf', -, -, -, hown2, -⟩ := Cond.laysFinal_spec hlay
    have e1 : c' = cf := by have := hi2.symm.trans hf'; simp at this; exact this.1.symm
    rw [href] at hown2
    rw [← e1]; exact Option.some.inj (hown.symm.trans hown2)
  have h6 := u_fits hfc hkC hkind (Or.inr hlay) hi2 (hty k hk) hn hfit
  have hi3 : s.fieldFound? own (TT k).2.1 (TT k).2.2.1 = some (cf, kf, fi, f) := by rw [← href]; exact hi2
  refine W.putFinK hx hb hown (ht _ hlink) hi3 hst hcf hin2 (by rw [q2]; exact h6) q1 q3 (by rw [hsl]; exact k2_hasslot (q4 k hk)) rfl rfl hdg fun H' e1 e2 e3 => ?_
  rw [hsl] at e1 ⊢
  refine kk H' _ (hw.of (List.length_set ..) (hw.w.put hi e2 e3 ?_ (fun j hj => hm_lsh_ne hj) (fun _ _ => rfl) (fun _ _ => rfl))) (hL.app (fun q hq => by rw [List.mem_singleton.mp hq]; exact Nat.le_add_right o i))
  rw [hm_E_obj (hm_lsh_set hi)]
  have hset : (hm_fvs o (S i) (T i) 0 fs).set k (.ref (o + r)) = hm_fvs o (S i) (T i) 0 (fs.set k (r + 3)) := by
    refine hm_fvs_set (List.length_set ..) ?_ (fun j hj => ?_)
    · rw [List.getElem?_set_self hl, List.getElem?_eq_getElem hl]; rfl
    · rw [List.getElem?_set_ne (Ne.symm hj)]
  rw [← hset]
  exact ⟨_, hc, t_OB.to (V := updV (vp_V _) k (.ref (o + r))) ⟨_, e1, q2, q3, t_set q4 hap hk _⟩ (fun j _ => vp_updV_set (by rw [hm_fvs_len]; exact hl) _ j)⟩
theorem hm_cputi (cx : hm_cx G p s m args c cc nL own) (hw : hm_wc G H0 o l S T H) {C : String} {TT : u_T} {N ci index : Nat} (hin : ∀ w ∈ u_ws C TT N, w ∈ hm_tbl) (ty0 : Nat → FieldType) (hty : ∀ k, k < N → parseFieldDescriptor (TT k).2.2.1 = some (ty0 k)) (hnm : ∀ a, a < N → ∀ b, b < N → a ≠ b → (TT a).2.1 ≠ (TT b).2.1) (hc : hm_cl[ci]? = some (C, TT, N)) (k : Nat) (hk : k < N) (hlink : Cond.fieldLink own index own (TT k).2.1 (TT k).2.2.1 ∈ hm_tbl) (href : (TT k).1 = own) (hfin : (TT k).2.2.2 = false)
    {i : Nat} {fs : List Nat} (hs : l[i]? = some (.inr (ci, fs))) (hv : fs[k]? = some 0) {v : Int32} (hn : narrow (ty0 k) (.int v) = .int v) (hfit : fits (ty0 k) (.int v) = true) (hL : hm_Lc o locs) (hdg : decode cc pc = .ok (.putfield index, 3))
    (kk : ∀ (H1 : Heap) (locs1 : List Loc), hm_wc G H0 o l (hm_up S i k v) T H1 → hm_Lc o locs1 → W p la e R s m args below meth c H1 locs1 cells slots Q (F0 m (pc + 3) ls rest)) : W p la e R s m args below meth c H locs cells slots Q (F0 m pc ls (.int v :: .ref (o + i) :: rest)) := by
  obtain ⟨⟨hx, hb, -, hown, ht⟩, hK⟩ := cx
  have hi : i < l.length := (List.getElem?_eq_some_iff.mp hs).1
  have hap := va_apart (own := own) ht hin ty0 hty hnm hK.1 hc
  obtain ⟨r', h1, cell, q1, q2, q3, q4⟩ := hm_at1 hw.w hi (hm_E_obj (hm_lsh_at hs)) 0 _ rfl
  have hr : r' = (C, TT, N) := Option.some.inj (h1.symm.trans hc)
  subst hr
  obtain ⟨hS, hfc, kC, hkC, hkind⟩ := hK.1.1 ci _ hc
  obtain ⟨cf, kf, fi, f, hi2, hsl⟩ := hS k hk
  have hlay := ht _ (hin _ (u_in_lay hk))
  unfold u_lay at hlay
  rw [if_neg (by rw [hfin]; decide)] at hlay
  have hst := (u_facts hfc hkC (u_lays ht hin hk) hi2).1
  have h6 := u_store hfc hkC hkind hlay hi2 (hty k hk) hn hfit
  have hi3 : s.fieldFound? own (TT k).2.1 (TT k).2.2.1 = some (cf, kf, fi, f) := by rw [← href]; exact hi2
  refine W.putK hx hb (f := f) ⟨hown, ht _ hlink, ⟨_, _, _, hi3⟩, hst⟩ (by rw [q2]; exact h6) q1 q3 (by rw [hsl]; exact k2_hasslot (q4 k hk)) rfl rfl hdg fun H' e1 e2 e3 => ?_
  rw [hsl] at e1 ⊢
  refine kk H' _ (hw.of rfl (hw.w.put hi e2 e3 ?_ (fun _ _ => rfl) (fun a ha => hm_up_row S _ _ ha) (fun _ _ => rfl))) (hL.app (fun q hq => by rw [List.mem_singleton.mp hq]; exact Nat.le_add_right o i))
  rw [hm_E_obj (hm_lsh_at hs), ← hm_fvs_puti hv v]
  exact ⟨_, hc, t_OB.to (V := updV (vp_V _) k (.int v)) ⟨_, e1, q2, q3, t_set q4 hap hk _⟩ (fun j _ => vp_updV_set (by rw [hm_fvs_len]; exact (List.getElem?_eq_some_iff.mp hv).1) _ j)⟩
/-- behind calls -/
theorem hm_ccalli {st0 : List Value} {a : Array Value} {Qp : Int32 → hm_S → hm_T → Prop} (hr : va_Run p la e R s m args below meth c H locs cells slots 0 0 (F0 m pc ls st0) rest (hm_Qi G H o l.length (hm_lsh l) Qp a) (t_fr o (o + l.length))) (hw : hm_wc G H0 o l S T H) (hL : hm_Lc o locs)
    (kk : ∀ (r : Int32) (S' : hm_S) (T' : hm_T) (H1 : Heap) (locs1 : List Loc), Qp r S' T' → hm_wc G H0 o l S' T' H1 → hm_Lc o locs1 → W p la e R s m args below meth c H1 locs1 cells slots Q (F0 m (pc + 3) ls (.int r :: rest))) : W p la e R s m args below meth c H locs cells slots Q (F0 m pc ls st0) := by
  intro T1 hT X
  obtain ⟨v, st₀, t, T', L, h0, X', hLL, e1, e2, ⟨r, S', T2, hv, hq, hw1⟩, st⟩ := hr T1 hT X
  cases hv
  obtain ⟨t2, a1, b1⟩ := kk r S' T2 T'.heap (locs ++ L) hq (by rw [e1]; exact hw.of rfl hw1) (hL.app (fun q hq => (hLL q hq).1)) T' rfl X'
  exact ⟨t2, st t2 a1, b1⟩
theorem hm_ccallv {st0 : List Value} {a : Array Value} {Qp : hm_S → hm_T → Prop} (hr : va_Run p la e R s m args below meth c H locs cells slots 0 0 (F0 m pc ls st0) rest (hm_Qv G H o l.length (hm_lsh l) Qp a) (t_fr o (o + l.length))) (hw : hm_wc G H0 o l S T H) (hL : hm_Lc o locs)
    (kk : ∀ (S' : hm_S) (T' : hm_T) (H1 : Heap) (locs1 : List Loc), Qp S' T' → hm_wc G H0 o l S' T' H1 → hm_Lc o locs1 → W p la e R s m args below meth c H1 locs1 cells slots Q (F0 m (pc + 3) ls rest)) : W p la e R s m args below meth c H locs cells slots Q (F0 m pc ls st0) := by
  intro T1 hT X
  obtain ⟨v, st₀, t, T', L, h0, X', hLL, e1, e2, ⟨S', T2, hv, hq, hw1⟩, st⟩ := hr T1 hT X
  cases hv
  obtain ⟨t2, a1, b1⟩ := kk S' T2 T'.heap (locs ++ L) hq (by rw [e1]; exact hw.of rfl hw1) (hL.app (fun q hq => (hLL q hq).1)) T' rfl X'
  exact ⟨t2, st t2 a1, b1⟩
/-- a constructor's call -/
theorem hm_cinit {st0 : List Value} {mc ms : Nat} {a : Array Value} {l' : List ((Nat × Nat) ⊕ (Nat × List Nat))} {Qp : hm_S → hm_T → Prop} (hr : va_Run p la e R s m args below meth c H locs cells slots mc ms (F0 m pc ls st0) rest (hm_Qcc G H0 o l' Qp a) (hm_ge o)) (hL : hm_Lc o locs)
    (kk : ∀ (S' : hm_S) (T' : hm_T) (H1 : Heap) (locs1 : List Loc), Qp S' T' → hm_wc G H0 o l' S' T' H1 → hm_Lc o locs1 → W p la e R s m args below meth c H1 locs1 (cells + mc) (slots + ms) Q (F0 m (pc + 3) ls rest)) : W p la e R s m args below meth c H locs cells slots Q (F0 m pc ls st0) := by
  intro T1 hT X
  obtain ⟨v, st₀, t, T', L, h0, X', hLL, e1, e2, ⟨S', T2, hv, hq, hw1⟩, st⟩ := hr T1 hT X
  cases hv
  obtain ⟨t2, a1, b1⟩ := kk S' T2 T'.heap (locs ++ L) hq (by rw [e1]; exact hw1) (hL.app hLL) T' rfl X'
  exact ⟨t2, st t2 a1, b1⟩
variable {y : MethodName} {bytes : ByteArray} {maxL k index mc ms : Nat} {rm : Room} {As st0 : List Value} {Qc : Array Value → State → Outcome → State → Prop}
theorem hm_rI {i : Nat} (cx : hm_cx G p s m args c cc nL own) (hw : hm_wc G H0 o l S T H) (hM : Met la y (hm_ws y bytes maxL none) rm (hm_Pcc G H0 o l S T (.ref (o + i) :: As)) Qc mc ms (hm_ge o)) (cw : CallB R s args own index y bytes maxL none (hm_ws y bytes maxL none) rm mc ms k ∧ y.name = "<init>" ∧ (Cond.instanceMethod y).before args s = true) (hn : As.length = k) (hsz : ls.size = nL) (hst : st0 = As.reverse ++ .ref (o + i) :: rest) (hW : (rest.map fun v => v.category).sum ≤ 8) (hdg : decode cc pc = .ok (.invokespecial index, 3)) (hf : cells + mc ≤ R.cells ∧ slots + ms ≤ R.slots) :
    va_Run p la e R s m args below meth c H locs cells slots mc ms (F0 m pc ls st0) rest (Qc (Value.ref (o + i) :: As).toArray) (hm_ge o) :=
  va_runI cx.1 hM cw ⟨hm_blindc G H0 o l S T _, fun U hU hW => ⟨rfl, cx.2.warm hW, by rw [hU]; exact hw⟩⟩ rfl hn hsz hst (by rw [show (F0 m pc ls st0).monitorRoom = 0 from rfl, Nat.mul_zero, Nat.zero_add]; exact hW) hdg hf
theorem hm_rIN {i : Nat} {host : String} (cx : hm_cx G p s m args c cc nL own) (hw : hm_wc G H0 o l S T H) (hM : Met la y (hm_ws y bytes maxL none) rm (hm_Pcc G H0 o l S T (.ref (o + i) :: As)) Qc mc ms (hm_ge o)) (cw : va_CN R s args own index y host bytes maxL none (hm_ws y bytes maxL none) rm mc ms k ∧ y.name = "<init>" ∧ (Cond.instanceMethod y).before args s = true) (hn : As.length = k) (hsz : ls.size = nL) (hst : st0 = As.reverse ++ .ref (o + i) :: rest) (hW : (rest.map fun v => v.category).sum ≤ 8) (hdg : decode cc pc = .ok (.invokespecial index, 3)) (hf : cells + mc ≤ R.cells ∧ slots + ms ≤ R.slots) :
    va_Run p la e R s m args below meth c H locs cells slots mc ms (F0 m pc ls st0) rest (Qc (Value.ref (o + i) :: As).toArray) (hm_ge o) :=
  va_runIN cx.1 hM cw ⟨hm_blindc G H0 o l S T _, fun U hU hW => ⟨rfl, cx.2.warm hW, by rw [hU]; exact hw⟩⟩ rfl hn hsz hst (by rw [show (F0 m pc ls st0).monitorRoom = 0 from rfl, Nat.mul_zero, Nat.zero_add]; exact hW) hdg hf
end HMC
