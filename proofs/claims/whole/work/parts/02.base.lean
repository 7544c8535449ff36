/-! ===== the words that are kept, and a method's own list of them ===== -/
def hm_tbl : List Cond := lw_tbl.filter goodWord
def hm_ws (y : MethodName) (cc : ByteArray) (k : Nat) (r : Option FieldType) : List Cond := Cond.code y cc k r :: hm_tbl
theorem hm_in {w : Cond} (i : Nat) (h : lw_tbl[i]? = some w) (hg : goodWord w = true) : w ∈ hm_tbl := List.mem_filter.mpr ⟨List.mem_of_getElem? h, hg⟩
theorem hm_good {y : MethodName} {cc : ByteArray} {k : Nat} {r : Option FieldType} (h : Cond.code y cc k r ∈ hm_tbl) : GoodIn hm_tbl (hm_ws y cc k r) := by
  intro w hw
  have hm : w ∈ hm_tbl := by
    rcases List.mem_cons.mp hw with e | e
    · rw [e]; exact h
    · exact e
  exact ⟨hm, good_of_word (List.mem_filter.mp hm).2⟩
/-! ===== the world: cells from o on, n of them, of the shape sh, holding the numbers S (ints) and T (longs); all else is as in H0 ===== -/
abbrev hm_Sh : Type := Nat → (Nat × Nat) ⊕ (Nat × List Nat)
abbrev hm_S : Type := Nat → Nat → Int32
abbrev hm_T : Type := Nat → Nat → Int64
abbrev hm_G : Type := va_G × ClassId × ClassId × ClassId
def hm_fv (o : Nat) (S : Nat → Int32) (T : Nat → Int64) (k : Nat) (c : Nat) : Value := match c with
  | 0 => .int (S k)
  | 1 => .null
  | 2 => .long (T k)
  | r + 3 => .ref (o + r)
def hm_fvs (o : Nat) (S : Nat → Int32) (T : Nat → Int64) : Nat → List Nat → List Value
  | _, [] => []
  | k, c :: l => hm_fv o S T k c :: hm_fvs o S T (k + 1) l
theorem hm_fvs_at (o : Nat) (S : Nat → Int32) (T : Nat → Int64) : ∀ (l : List Nat) (k j : Nat), (hm_fvs o S T k l)[j]? = (l[j]?).map (hm_fv o S T (k + j)) := by
  intro l
  induction l with
  | nil => intro k j; simp [hm_fvs]
  | cons c l ih =>
    intro k j
    cases j with
    | zero => simp [hm_fvs]
    | succ j => simp only [hm_fvs, List.getElem?_cons_succ]; rw [ih]; congr 2; omega
theorem hm_fvs_len (o : Nat) (S : Nat → Int32) (T : Nat → Int64) : ∀ (l : List Nat) (k : Nat), (hm_fvs o S T k l).length = l.length := by
  intro l
  induction l with
  | nil => intro k; rfl
  | cons c l ih => intro k; simp [hm_fvs, ih]
/-- one number of the state is another -/
def hm_up {α : Type} (S : Nat → Nat → α) (i k : Nat) (v : α) : Nat → Nat → α := fun a => if a = i then (fun b => if b = k then v else S a b) else S a
theorem hm_up_same {α : Type} (S : Nat → Nat → α) (i k : Nat) (v : α) : hm_up S i k v i k = v := by simp [hm_up]
theorem hm_up_row {α : Type} (S : Nat → Nat → α) {i a : Nat} (k : Nat) (v : α) (h : a ≠ i) : hm_up S i k v a = S a := by simp [hm_up, h]
theorem hm_up_col {α : Type} (S : Nat → Nat → α) {i a b : Nat} {k : Nat} (v : α) (h : b ≠ k) : hm_up S i k v a b = S a b := by
  by_cases ha : a = i <;> simp [hm_up, ha, h]
theorem hm_up_at {α : Type} (S : Nat → Nat → α) (i a b k : Nat) (v : α) : hm_up S i k v a b = if a = i ∧ b = k then v else S a b := by
  by_cases ha : a = i <;> by_cases hb : b = k <;> simp [hm_up, ha, hb]
theorem hm_fvs_set {o : Nat} {S S' : Nat → Int32} {T T' : Nat → Int64} {fs fs' : List Nat} {k : Nat} {v : Value} (hl : fs'.length = fs.length) (hk : (fs'[k]?).map (hm_fv o S' T' k) = (fs[k]?).map (fun _ => v)) (ho : ∀ j, j ≠ k → (fs'[j]?).map (hm_fv o S' T' j) = (fs[j]?).map (hm_fv o S T j)) : (hm_fvs o S T 0 fs).set k v = hm_fvs o S' T' 0 fs' := by
  apply List.ext_getElem?
  intro j
  rw [hm_fvs_at, Nat.zero_add]
  by_cases hj : j = k
  · subst hj
    rw [hk]
    by_cases hlt : j < fs.length
    · rw [List.getElem?_set_self (by rw [hm_fvs_len]; exact hlt), List.getElem?_eq_getElem hlt]; rfl
    · rw [List.getElem?_eq_none (by rw [List.length_set, hm_fvs_len]; omega), List.getElem?_eq_none (by omega)]; rfl
  · rw [List.getElem?_set_ne (Ne.symm hj), hm_fvs_at, Nat.zero_add, ho j hj]
def hm_E (G : hm_G) (o : Nat) (sh : hm_Sh) (S : hm_S) (T : hm_T) (i : Nat) : va_E := match sh i with
  | .inl (0, n) => .inl (G.2.1, n, .inl (S i))
  | .inl (1, n) => .inl (G.2.2.1, n, .inr (.inl (T i)))
  | .inl (_, n) => .inl (G.2.2.2, n, .inl (S i))
  | .inr (ci, fs) => .inr (ci, hm_fvs o (S i) (T i) 0 fs)
theorem hm_E_int {G : hm_G} {o : Nat} {sh : hm_Sh} {S : hm_S} {T : hm_T} {i n : Nat} (h : sh i = .inl (0, n)) : hm_E G o sh S T i = .inl (G.2.1, n, .inl (S i)) := by simp [hm_E, h]
theorem hm_E_long {G : hm_G} {o : Nat} {sh : hm_Sh} {S : hm_S} {T : hm_T} {i n : Nat} (h : sh i = .inl (1, n)) : hm_E G o sh S T i = .inl (G.2.2.1, n, .inr (.inl (T i))) := by simp [hm_E, h]
theorem hm_E_bool {G : hm_G} {o : Nat} {sh : hm_Sh} {S : hm_S} {T : hm_T} {i n : Nat} (h : sh i = .inl (2, n)) : hm_E G o sh S T i = .inl (G.2.2.2, n, .inl (S i)) := by simp [hm_E, h]
theorem hm_E_obj {G : hm_G} {o : Nat} {sh : hm_Sh} {S : hm_S} {T : hm_T} {i ci : Nat} {fs : List Nat} (h : sh i = .inr (ci, fs)) : hm_E G o sh S T i = .inr (ci, hm_fvs o (S i) (T i) 0 fs) := by simp [hm_E, h]
theorem hm_E_row {G : hm_G} {o : Nat} {sh sh' : hm_Sh} {S S' : hm_S} {T T' : hm_T} {i : Nat} (hs : sh' i = sh i) (h1 : S' i = S i) (h2 : T' i = T i) : hm_E G o sh' S' T' i = hm_E G o sh S T i := by simp only [hm_E, hs, h1, h2]
def hm_w (G : hm_G) (H0 : Heap) (o n : Nat) (sh : hm_Sh) (S : hm_S) (T : hm_T) (H : Heap) : Prop :=
  H.size = H0.size ∧ (∀ q : Nat, (q < o ∨ o + n ≤ q) → H[q]? = H0[q]?) ∧ ∀ i : Nat, i < n → va_at G.1 hm_cl (o + i, hm_E G o sh S T i) H
def hm_L (o n : Nat) (locs : List Loc) : Prop := ∀ q ∈ locs, t_fr o (o + n) q.base
theorem hm_L0 (o n : Nat) : hm_L o n [] := fun _ h => absurd h List.not_mem_nil
theorem hm_L.put {o n : Nat} {locs : List Loc} (h : hm_L o n locs) {i k : Nat} (hi : i < n) : hm_L o n (locs ++ [⟨o + i, k⟩]) := by
  intro q hq
  rcases List.mem_append.mp hq with h1 | h1
  · exact h q h1
  · rw [List.mem_singleton.mp h1]
    exact ⟨Nat.le_add_right _ _, Nat.add_lt_add_left hi o⟩
theorem hm_L.app {o n : Nat} {l1 l2 : List Loc} (h : hm_L o n l1) (h2 : ∀ q ∈ l2, t_fr o (o + n) q.base) : hm_L o n (l1 ++ l2) := by
  intro q hq
  rcases List.mem_append.mp hq with h1 | h1
  · exact h q h1
  · exact h2 q h1
/-- one cell has changed -/
theorem hm_w.put {G : hm_G} {H0 : Heap} {o n : Nat} {sh sh' : hm_Sh} {S S' : hm_S} {T T' : hm_T} {H H1 : Heap} (h : hm_w G H0 o n sh S T H) {i : Nat} (hi : i < n) (hz : H1.size = H.size) (oq : ∀ q : Nat, q ≠ o + i → H1[q]? = H[q]?) (he : va_at G.1 hm_cl (o + i, hm_E G o sh' S' T' i) H1) (hs : ∀ j, j ≠ i → sh' j = sh j) (h1 : ∀ j, j ≠ i → S' j = S j) (h2 : ∀ j, j ≠ i → T' j = T j) : hm_w G H0 o n sh' S' T' H1 := by
  refine ⟨by rw [hz]; exact h.1, fun q hq => ?_, fun j hj => ?_⟩
  · rw [oq q (by omega)]
    exact h.2.1 q hq
  · by_cases hji : j = i
    · rw [hji]; exact he
    · rw [hm_E_row (hs j hji) (h1 j hji) (h2 j hji)]
      exact (h.2.2 j hj).kept (oq _ (by show o + j ≠ o + i; omega))
/-- the context: the classes' numbers, the arrays' classes, what nest mates may link -/
def hm_K (G : hm_G) (U : State) : Prop := va_K G.1 hm_cl [(G.2.1, .int), (G.2.2.1, .long), (G.2.2.2, .boolean)] U ∧ (∀ q ∈ hm_nF, va_Nw (.fieldLinkNest q.1 q.2.1 q.2.2.1 q.2.2.2.1 q.2.2.2.2.1 q.2.2.2.2.2) U) ∧ ∀ q ∈ hm_nM, va_Nw (.methodLinkNest q.1 q.2.1 q.2.2.1 q.2.2.2) U
theorem hm_K.warm {G : hm_G} {s U : State} (h : hm_K G s) (hW : s.WarmedH U.vm) : hm_K G U := ⟨va_K.moved hW.alike h.1, fun q hq => va_Nw.warmF hW (h.2.1 q hq), fun q hq => va_Nw.warmM hW (h.2.2 q hq)⟩
theorem hm_K.same {G : hm_G} {s U : State} (h : hm_K G s) (hv : s.vm = U.vm) : hm_K G U := ⟨va_K.moved (by rw [hv]; exact Vm.Alike.refl _) h.1, fun q hq => va_Nw.same rfl hv (h.2.1 q hq), fun q hq => va_Nw.same rfl hv (h.2.2 q hq)⟩
/-- a contract's start and ends -/
def hm_Pc (G : hm_G) (H0 : Heap) (o n : Nat) (sh : hm_Sh) (S : hm_S) (T : hm_T) (av : List Value) : Array Value → State → Prop := fun v U => v = av.toArray ∧ hm_K G U ∧ hm_w G H0 o n sh S T U.heap
def hm_Qi (G : hm_G) (H0 : Heap) (o n : Nat) (sh : hm_Sh) (Q : Int32 → hm_S → hm_T → Prop) : Array Value → State → Outcome → State → Prop := fun _ _ oc t => ∃ (r : Int32) (S' : hm_S) (T' : hm_T), oc = .returned (some (.int r)) ∧ Q r S' T' ∧ hm_w G H0 o n sh S' T' t.heap
def hm_Ql (G : hm_G) (H0 : Heap) (o n : Nat) (sh : hm_Sh) (Q : Int64 → hm_S → hm_T → Prop) : Array Value → State → Outcome → State → Prop := fun _ _ oc t => ∃ (r : Int64) (S' : hm_S) (T' : hm_T), oc = .returned (some (.long r)) ∧ Q r S' T' ∧ hm_w G H0 o n sh S' T' t.heap
def hm_Qv (G : hm_G) (H0 : Heap) (o n : Nat) (sh : hm_Sh) (Q : hm_S → hm_T → Prop) : Array Value → State → Outcome → State → Prop := fun _ _ oc t => ∃ (S' : hm_S) (T' : hm_T), oc = .returned none ∧ Q S' T' ∧ hm_w G H0 o n sh S' T' t.heap
theorem hm_blind (G : hm_G) (H0 : Heap) (o n : Nat) (sh : hm_Sh) (S : hm_S) (T : hm_T) (av : List Value) : FrameBlind (hm_Pc G H0 o n sh S T av) := fun a U g mk h => ⟨h.1, h.2.1.same rfl, h.2.2⟩
abbrev hm_cx (G : hm_G) (p : Program) (s : State) (m : MethodId) (args : Array Value) (c : Code) (cc : ByteArray) (nL : Nat) (own : String) : Prop := CallFix p m c cc nL s args hm_tbl own ∧ hm_K G s
section HM
variable {p : Program} {l : Launch} {e : Env} {R : Room} {s : State} {m : MethodId} {args : Array Value} {below : List Frame} {meth : Method} {c : Code} {H : Heap} {locs : List Loc} {cells slots : Nat} {Q : State → Prop}
variable {cc : ByteArray} {pc nL : Nat} {ls : Array Slot} {rest : List Value} {own : String} {G : hm_G} {H0 : Heap} {o n : Nat} {sh : hm_Sh} {S : hm_S} {T : hm_T}
theorem hm_at1 (hw : hm_w G H0 o n sh S T H) {i : Nat} (hi : i < n) {x : va_E} (hx : hm_E G o sh S T i = x) : va_P G.1 hm_cl [(o + i, x)] H := by
  intro k q hk
  cases k with
  | zero => cases hk; rw [← hx]; exact hw.2.2 i hi
  | succ k => simp at hk
/-- getfield -/
theorem hm_get (cx : hm_cx G p s m args c cc nL own) (hw : hm_w G H0 o n sh S T H) {ref C : String} {TT : u_T} {N ci index : Nat} (hin : ∀ w ∈ u_ws C TT N, w ∈ hm_tbl) (hc : hm_cl[ci]? = some (C, TT, N)) (k : Nat) (hk : k < N) (hlink : Cond.fieldLink own index ref (TT k).2.1 (TT k).2.2.1 ∈ hm_tbl) (href : (TT k).1 = ref)
    {i : Nat} (hi : i < n) {fs : List Nat} (hs : sh i = .inr (ci, fs)) {cd : Nat} (hv : fs[k]? = some cd) (hdg : decode cc pc = .ok (.getfield index, 3)) (kk : W p l e R s m args below meth c H locs cells slots Q (F0 m (pc + 3) ls (hm_fv o (S i) (T i) k cd :: rest))) : W p l e R s m args below meth c H locs cells slots Q (F0 m pc ls (.ref (o + i) :: rest)) := by
  obtain ⟨⟨hx, hb, -, hown, ht⟩, hK⟩ := cx
  subst href
  exact va_get hx hb ht hin hown hK.1 (hm_at1 hw hi (hm_E_obj hs)) 0 rfl hc k hk (ht _ hlink) (fun x h => h) (v := hm_fv o (S i) (T i) k cd) (by rw [hm_fvs_at, hv, Nat.zero_add]; rfl) hdg kk
theorem hm_getN (cx : hm_cx G p s m args c cc nL own) (hw : hm_w G H0 o n sh S T H) {ref C host : String} {TT : u_T} {N ci index : Nat} (hin : ∀ w ∈ u_ws C TT N, w ∈ hm_tbl) (hc : hm_cl[ci]? = some (C, TT, N)) (k : Nat) (hk : k < N) (hlink : (own, index, ref, (TT k).2.1, (TT k).2.2.1, host) ∈ hm_nF) (href : (TT k).1 = ref)
    {i : Nat} (hi : i < n) {fs : List Nat} (hs : sh i = .inr (ci, fs)) {cd : Nat} (hv : fs[k]? = some cd) (hdg : decode cc pc = .ok (.getfield index, 3)) (kk : W p l e R s m args below meth c H locs cells slots Q (F0 m (pc + 3) ls (hm_fv o (S i) (T i) k cd :: rest))) : W p l e R s m args below meth c H locs cells slots Q (F0 m pc ls (.ref (o + i) :: rest)) := by
  obtain ⟨⟨hx, hb, -, hown, ht⟩, hK⟩ := cx
  subst href
  exact va_getN hx hb ht hin hown hK.1 (hm_at1 hw hi (hm_E_obj hs)) 0 rfl hc k hk (va_Nw.use rfl (hK.2.1 _ hlink)) (fun x h => h) (v := hm_fv o (S i) (T i) k cd) (by rw [hm_fvs_at, hv, Nat.zero_add]; rfl) hdg kk
/-- putfield: the general form -/
theorem hm_putV (cx : hm_cx G p s m args c cc nL own) (hw : hm_w G H0 o n sh S T H) {ref C : String} {TT : u_T} {N ci index : Nat} (hin : ∀ w ∈ u_ws C TT N, w ∈ hm_tbl) (ty0 : Nat → FieldType) (hty : ∀ k, k < N → parseFieldDescriptor (TT k).2.2.1 = some (ty0 k)) (hnm : ∀ a, a < N → ∀ b, b < N → a ≠ b → (TT a).2.1 ≠ (TT b).2.1) (hc : hm_cl[ci]? = some (C, TT, N)) (k : Nat) (hk : k < N) (hlink : Cond.fieldLink own index ref (TT k).2.1 (TT k).2.2.1 ∈ hm_tbl) (href : (TT k).1 = ref) (hfin : (TT k).2.2.2 = false)
    {i : Nat} (hi : i < n) {fs fs' : List Nat} (hs : sh i = .inr (ci, fs)) {v : Value} (hn : narrow (ty0 k) v = v) (hfit : fits (ty0 k) v = true) (hl : k < fs.length) {sh' : hm_Sh} {S' : hm_S} {T' : hm_T} (hs' : sh' i = .inr (ci, fs')) (hset : (hm_fvs o (S i) (T i) 0 fs).set k v = hm_fvs o (S' i) (T' i) 0 fs') (o1 : ∀ j, j ≠ i → sh' j = sh j) (o2 : ∀ j, j ≠ i → S' j = S j) (o3 : ∀ j, j ≠ i → T' j = T j)
    (hL : hm_L o n locs) (hdg : decode cc pc = .ok (.putfield index, 3)) (kk : ∀ (H1 : Heap) (locs1 : List Loc), hm_w G H0 o n sh' S' T' H1 → hm_L o n locs1 → W p l e R s m args below meth c H1 locs1 cells slots Q (F0 m (pc + 3) ls rest)) : W p l e R s m args below meth c H locs cells slots Q (F0 m pc ls (v :: .ref (o + i) :: rest)) := by
  obtain ⟨⟨hx, hb, -, hown, ht⟩, hK⟩ := cx
  subst href
  have hap := va_apart (own := own) ht hin ty0 hty hnm hK.1 hc
  obtain ⟨r, h1, cell, q1, q2, q3, q4⟩ := hm_at1 hw hi (hm_E_obj hs) 0 _ rfl
  have hr : r = (C, TT, N) := Option.some.inj (h1.symm.trans hc)
  subst hr
  obtain ⟨hS, hfc, kC, hkC, hkind⟩ := hK.1.1 ci _ hc
  obtain ⟨cf, kf, fi, f, hi2, hsl⟩ := hS k hk
  have hlay := ht _ (hin _ (u_in_lay hk))
  unfold u_lay at hlay
  rw [if_neg (by rw [hfin]; decide)] at hlay
  have hst := (u_facts hfc hkC (u_lays ht hin hk) hi2).1
  have h6 := u_store hfc hkC hkind hlay hi2 (hty k hk) hn hfit
  refine W.putK hx hb (f := f) ⟨hown, ht _ hlink, ⟨_, _, _, hi2⟩, hst⟩ (by rw [q2]; exact h6) q1 q3 (by rw [hsl]; exact k2_hasslot (q4 k hk)) rfl rfl hdg fun H' e1 e2 e3 => ?_
  rw [hsl] at e1 ⊢
  refine kk H' _ (hw.put hi e2 e3 ?_ o1 o2 o3) (hL.put hi)
  rw [hm_E_obj hs', ← hset]
  exact ⟨_, hc, t_OB.to (V := updV (vp_V _) k v) ⟨_, e1, q2, q3, t_set q4 hap hk v⟩ (fun j _ => vp_updV_set (by rw [hm_fvs_len]; exact hl) v j)⟩
theorem hm_putVN (cx : hm_cx G p s m args c cc nL own) (hw : hm_w G H0 o n sh S T H) {ref C host : String} {TT : u_T} {N ci index : Nat} (hin : ∀ w ∈ u_ws C TT N, w ∈ hm_tbl) (ty0 : Nat → FieldType) (hty : ∀ k, k < N → parseFieldDescriptor (TT k).2.2.1 = some (ty0 k)) (hnm : ∀ a, a < N → ∀ b, b < N → a ≠ b → (TT a).2.1 ≠ (TT b).2.1) (hc : hm_cl[ci]? = some (C, TT, N)) (k : Nat) (hk : k < N) (hlink : (own, index, ref, (TT k).2.1, (TT k).2.2.1, host) ∈ hm_nF) (href : (TT k).1 = ref) (hfin : (TT k).2.2.2 = false)
    {i : Nat} (hi : i < n) {fs fs' : List Nat} (hs : sh i = .inr (ci, fs)) {v : Value} (hn : narrow (ty0 k) v = v) (hfit : fits (ty0 k) v = true) (hl : k < fs.length) {sh' : hm_Sh} {S' : hm_S} {T' : hm_T} (hs' : sh' i = .inr (ci, fs')) (hset : (hm_fvs o (S i) (T i) 0 fs).set k v = hm_fvs o (S' i) (T' i) 0 fs') (o1 : ∀ j, j ≠ i → sh' j = sh j) (o2 : ∀ j, j ≠ i → S' j = S j) (o3 : ∀ j, j ≠ i → T' j = T j)
    (hL : hm_L o n locs) (hdg : decode cc pc = .ok (.putfield index, 3)) (kk : ∀ (H1 : Heap) (locs1 : List Loc), hm_w G H0 o n sh' S' T' H1 → hm_L o n locs1 → W p l e R s m args below meth c H1 locs1 cells slots Q (F0 m (pc + 3) ls rest)) : W p l e R s m args below meth c H locs cells slots Q (F0 m pc ls (v :: .ref (o + i) :: rest)) := by
  obtain ⟨⟨hx, hb, -, hown, ht⟩, hK⟩ := cx
  subst href
  have hap := va_apart (own := own) ht hin ty0 hty hnm hK.1 hc
  obtain ⟨r, h1, cell, q1, q2, q3, q4⟩ := hm_at1 hw hi (hm_E_obj hs) 0 _ rfl
  have hr : r = (C, TT, N) := Option.some.inj (h1.symm.trans hc)
  subst hr
  obtain ⟨hS, hfc, kC, hkC, hkind⟩ := hK.1.1 ci _ hc
  obtain ⟨cf, kf, fi, f, hi2, hsl⟩ := hS k hk
  have hlay := ht _ (hin _ (u_in_lay hk))
  unfold u_lay at hlay
  rw [if_neg (by rw [hfin]; decide)] at hlay
  have hst := (u_facts hfc hkC (u_lays ht hin hk) hi2).1
  have h6 := u_store hfc hkC hkind hlay hi2 (hty k hk) hn hfit
  refine va_WputK hx hb (f := f) hown (va_Nw.use rfl (hK.2.1 _ hlink)) hi2 hst (by rw [q2]; exact h6) q1 q3 (by rw [hsl]; exact k2_hasslot (q4 k hk)) rfl rfl hdg fun H' e1 e2 e3 => ?_
  rw [hsl] at e1 ⊢
  refine kk H' _ (hw.put hi e2 e3 ?_ o1 o2 o3) (hL.put hi)
  rw [hm_E_obj hs', ← hset]
  exact ⟨_, hc, t_OB.to (V := updV (vp_V _) k v) ⟨_, e1, q2, q3, t_set q4 hap hk v⟩ (fun j _ => vp_updV_set (by rw [hm_fvs_len]; exact hl) v j)⟩
theorem hm_fvs_puti {S : hm_S} {T : hm_T} {i k : Nat} {fs : List Nat} (hv : fs[k]? = some 0) (v : Int32) : (hm_fvs o (S i) (T i) 0 fs).set k (.int v) = hm_fvs o (hm_up S i k v i) (T i) 0 fs := by
  refine hm_fvs_set rfl ?_ (fun j hj => ?_)
  · rw [hv]; simp [hm_fv, hm_up]
  · cases fs[j]? with
    | none => rfl
    | some c => simp only [Option.map_some, Option.some.injEq]; unfold hm_fv; match c with
      | 0 => simp [hm_up, hj]
      | 1 => rfl
      | 2 => rfl
      | c + 3 => rfl
theorem hm_fvs_putl {S : hm_S} {T : hm_T} {i k : Nat} {fs : List Nat} (hv : fs[k]? = some 2) (v : Int64) : (hm_fvs o (S i) (T i) 0 fs).set k (.long v) = hm_fvs o (S i) (hm_up T i k v i) 0 fs := by
  refine hm_fvs_set rfl ?_ (fun j hj => ?_)
  · rw [hv]; simp [hm_fv, hm_up]
  · cases fs[j]? with
    | none => rfl
    | some c => simp only [Option.map_some, Option.some.injEq]; unfold hm_fv; match c with
      | 0 => rfl
      | 1 => rfl
      | 2 => simp [hm_up, hj]
      | c + 3 => rfl
/-- arrays -/
theorem hm_iald (cx : hm_cx G p s m args c cc nL own) (hw : hm_w G H0 o n sh S T H) {i : Nat} (hi : i < n) {L : Nat} (hs : sh i = .inl (0, L)) {j : Int32} (hj : vp_in j L) (hdg : decode cc pc = .ok (.iaload, 1)) (kk : W p l e R s m args below meth c H locs cells slots Q (F0 m (pc + 1) ls (.int (S i j.toNatClampNeg) :: rest))) : W p l e R s m args below meth c H locs cells slots Q (F0 m pc ls (.int j :: .ref (o + i) :: rest)) :=
  va_iald cx.1.1 cx.1.2.1 cx.2.1 (hm_at1 hw hi (hm_E_int hs)) 0 0 rfl rfl hj hdg kk
theorem hm_zald (cx : hm_cx G p s m args c cc nL own) (hw : hm_w G H0 o n sh S T H) {i : Nat} (hi : i < n) {L : Nat} (hs : sh i = .inl (2, L)) {j : Int32} (hj : vp_in j L) (hdg : decode cc pc = .ok (.baload, 1)) (kk : W p l e R s m args below meth c H locs cells slots Q (F0 m (pc + 1) ls (.int (S i j.toNatClampNeg) :: rest))) : W p l e R s m args below meth c H locs cells slots Q (F0 m pc ls (.int j :: .ref (o + i) :: rest)) :=
  va_zald cx.1.1 cx.1.2.1 cx.2.1 (hm_at1 hw hi (hm_E_bool hs)) 0 2 rfl rfl hj hdg kk
theorem hm_lald (cx : hm_cx G p s m args c cc nL own) (hw : hm_w G H0 o n sh S T H) {i : Nat} (hi : i < n) {L : Nat} (hs : sh i = .inl (1, L)) {j : Int32} (hj : vp_in j L) (hdg : decode cc pc = .ok (.laload, 1)) (kk : W p l e R s m args below meth c H locs cells slots Q (F0 m (pc + 1) ls (.long (T i j.toNatClampNeg) :: rest))) : W p l e R s m args below meth c H locs cells slots Q (F0 m pc ls (.int j :: .ref (o + i) :: rest)) :=
  va_lald cx.1.1 cx.1.2.1 cx.2.1 (hm_at1 hw hi (hm_E_long hs)) 0 1 rfl rfl hj hdg kk
theorem hm_alen (cx : hm_cx G p s m args c cc nL own) (hw : hm_w G H0 o n sh S T H) {i : Nat} (hi : i < n) {L : Nat} (hs : sh i = .inl (0, L)) (hdg : decode cc pc = .ok (.arraylength, 1)) (kk : W p l e R s m args below meth c H locs cells slots Q (F0 m (pc + 1) ls (.int (nI L) :: rest))) : W p l e R s m args below meth c H locs cells slots Q (F0 m pc ls (.ref (o + i) :: rest)) :=
  va_alen cx.1.1 cx.1.2.1 cx.2.1 (hm_at1 hw hi (hm_E_int hs)) 0 0 rfl rfl rfl hdg kk
theorem hm_iast (cx : hm_cx G p s m args c cc nL own) (hw : hm_w G H0 o n sh S T H) {i : Nat} (hi : i < n) {L : Nat} (hs : sh i = .inl (0, L)) {j x : Int32} (hj : vp_in j L) (hL : hm_L o n locs) (hdg : decode cc pc = .ok (.iastore, 1)) (kk : ∀ (H1 : Heap) (locs1 : List Loc), hm_w G H0 o n sh (hm_up S i j.toNatClampNeg x) T H1 → hm_L o n locs1 → W p l e R s m args below meth c H1 locs1 cells slots Q (F0 m (pc + 1) ls rest)) : W p l e R s m args below meth c H locs cells slots Q (F0 m pc ls (.int x :: .int j :: .ref (o + i) :: rest)) := by
  obtain ⟨⟨hx, hb, -, hown, ht⟩, hK⟩ := cx
  have hP := hm_at1 hw hi (hm_E_int hs) 0 _ rfl
  refine W.iast hx hb hP ((hK.1.2 0 _ rfl).1 L (fun j => .int (S i j))) (fun q => by cases q) (by show ¬ (j < 0 ∨ (arrV _ _ _).slots.size ≤ _); rw [arrV_size]; exact hj) rfl rfl hdg fun H1 e z oq => ?_
  refine kk H1 _ (hw.put hi z oq ?_ (fun _ _ => rfl) (fun a ha => hm_up_row S _ _ ha) (fun _ _ => rfl)) (hL.put hi)
  rw [hm_E_int hs]
  show H1[o + i]? = some (vp_cell _ _)
  rw [e]
  rw [vp_cell_i, vp_cell_i, arrV_store]
  congr 2
  funext q
  by_cases hq : q = j.toNatClampNeg
  · subst hq; simp [updV, hm_up]
  · simp [updV, hm_up, hq]
theorem hm_zast (cx : hm_cx G p s m args c cc nL own) (hw : hm_w G H0 o n sh S T H) {i : Nat} (hi : i < n) {L : Nat} (hs : sh i = .inl (2, L)) {j x : Int32} (hj : vp_in j L) (hx1 : narrow .boolean (.int x) = .int x) (hL : hm_L o n locs) (hdg : decode cc pc = .ok (.bastore, 1)) (kk : ∀ (H1 : Heap) (locs1 : List Loc), hm_w G H0 o n sh (hm_up S i j.toNatClampNeg x) T H1 → hm_L o n locs1 → W p l e R s m args below meth c H1 locs1 cells slots Q (F0 m (pc + 1) ls rest)) : W p l e R s m args below meth c H locs cells slots Q (F0 m pc ls (.int x :: .int j :: .ref (o + i) :: rest)) := by
  obtain ⟨⟨hx, hb, -, hown, ht⟩, hK⟩ := cx
  have hP := hm_at1 hw hi (hm_E_bool hs) 0 _ rfl
  refine W.zast hx hb hP ((hK.1.2 2 _ rfl).1 L (fun j => .int (S i j))) (fun q => by cases q) (by show ¬ (j < 0 ∨ (arrV _ _ _).slots.size ≤ _); rw [arrV_size]; exact hj) rfl rfl hdg fun H1 e z oq => ?_
  refine kk H1 _ (hw.put hi z oq ?_ (fun _ _ => rfl) (fun a ha => hm_up_row S _ _ ha) (fun _ _ => rfl)) (hL.put hi)
  rw [hm_E_bool hs]
  show H1[o + i]? = some (vp_cell _ _)
  rw [e, hx1]
  rw [vp_cell_i, vp_cell_i, arrV_store]
  congr 2
  funext q
  by_cases hq : q = j.toNatClampNeg
  · subst hq; simp [updV, hm_up]
  · simp [updV, hm_up, hq]
theorem hm_last (cx : hm_cx G p s m args c cc nL own) (hw : hm_w G H0 o n sh S T H) {i : Nat} (hi : i < n) {L : Nat} (hs : sh i = .inl (1, L)) {j : Int32} {x : Int64} (hj : vp_in j L) (hL : hm_L o n locs) (hdg : decode cc pc = .ok (.lastore, 1)) (kk : ∀ (H1 : Heap) (locs1 : List Loc), hm_w G H0 o n sh S (hm_up T i j.toNatClampNeg x) H1 → hm_L o n locs1 → W p l e R s m args below meth c H1 locs1 cells slots Q (F0 m (pc + 1) ls rest)) : W p l e R s m args below meth c H locs cells slots Q (F0 m pc ls (.long x :: .int j :: .ref (o + i) :: rest)) := by
  obtain ⟨⟨hx, hb, -, hown, ht⟩, hK⟩ := cx
  have hP := hm_at1 hw hi (hm_E_long hs) 0 _ rfl
  refine W.last hx hb hP ((hK.1.2 1 _ rfl).1 L (fun j => .long (T i j))) (fun q => by cases q) (by show ¬ (j < 0 ∨ (arrV _ _ _).slots.size ≤ _); rw [arrV_size]; exact hj) rfl rfl hdg fun H1 e z oq => ?_
  refine kk H1 _ (hw.put hi z oq ?_ (fun _ _ => rfl) (fun _ _ => rfl) (fun a ha => hm_up_row T _ _ ha)) (hL.put hi)
  rw [hm_E_long hs]
  show H1[o + i]? = some (vp_cell _ _)
  rw [e]
  rw [vp_cell_l, vp_cell_l, arrV_store]
  congr 2
  funext q
  by_cases hq : q = j.toNatClampNeg
  · subst hq; simp [updV, hm_up]
  · simp [updV, hm_up, hq]
/-- a receiver -/
theorem hm_recv (hK : hm_K G s) (hw : hm_w G H0 o n sh S T H) {i : Nat} (hi : i < n) {ci : Nat} {fs : List Nat} (hs : sh i = .inr (ci, fs)) {q : vw_C} (hc : hm_cl[ci]? = some q) : ∃ cell : Cell, H[o + i]? = some cell ∧ cell.vm.isStatics = false ∧ s.vm.findClass q.1 = some cell.cls := va_recv (q0 := 0) hK.1 (hm_at1 hw hi (hm_E_obj hs)) hc rfl
/-- calls: what comes behind them -/
theorem hm_calli {st0 : List Value} {a : Array Value} {Qp : Int32 → hm_S → hm_T → Prop} (hr : va_Run p l e R s m args below meth c H locs cells slots 0 0 (F0 m pc ls st0) rest (hm_Qi G H0 o n sh Qp a) (t_fr o (o + n))) (hL : hm_L o n locs)
    (kk : ∀ (r : Int32) (S' : hm_S) (T' : hm_T) (H1 : Heap) (locs1 : List Loc), Qp r S' T' → hm_w G H0 o n sh S' T' H1 → hm_L o n locs1 → W p l e R s m args below meth c H1 locs1 cells slots Q (F0 m (pc + 3) ls (.int r :: rest))) : W p l e R s m args below meth c H locs cells slots Q (F0 m pc ls st0) := by
  intro T hT X
  obtain ⟨v, st₀, t, T', L, h0, X', hLL, e1, e2, ⟨r, S', T1, hv, hq, hw⟩, st⟩ := hr T hT X
  cases hv
  obtain ⟨t2, a1, b1⟩ := kk r S' T1 T'.heap (locs ++ L) hq (by rw [e1]; exact hw) (hL.app hLL) T' rfl X'
  exact ⟨t2, st t2 a1, b1⟩
theorem hm_calll {st0 : List Value} {a : Array Value} {Qp : Int64 → hm_S → hm_T → Prop} (hr : va_Run p l e R s m args below meth c H locs cells slots 0 0 (F0 m pc ls st0) rest (hm_Ql G H0 o n sh Qp a) (t_fr o (o + n))) (hL : hm_L o n locs)
    (kk : ∀ (r : Int64) (S' : hm_S) (T' : hm_T) (H1 : Heap) (locs1 : List Loc), Qp r S' T' → hm_w G H0 o n sh S' T' H1 → hm_L o n locs1 → W p l e R s m args below meth c H1 locs1 cells slots Q (F0 m (pc + 3) ls (.long r :: rest))) : W p l e R s m args below meth c H locs cells slots Q (F0 m pc ls st0) := by
  intro T hT X
  obtain ⟨v, st₀, t, T', L, h0, X', hLL, e1, e2, ⟨r, S', T1, hv, hq, hw⟩, st⟩ := hr T hT X
  cases hv
  obtain ⟨t2, a1, b1⟩ := kk r S' T1 T'.heap (locs ++ L) hq (by rw [e1]; exact hw) (hL.app hLL) T' rfl X'
  exact ⟨t2, st t2 a1, b1⟩
theorem hm_callv {st0 : List Value} {a : Array Value} {Qp : hm_S → hm_T → Prop} (hr : va_Run p l e R s m args below meth c H locs cells slots 0 0 (F0 m pc ls st0) rest (hm_Qv G H0 o n sh Qp a) (t_fr o (o + n))) (hL : hm_L o n locs)
    (kk : ∀ (S' : hm_S) (T' : hm_T) (H1 : Heap) (locs1 : List Loc), Qp S' T' → hm_w G H0 o n sh S' T' H1 → hm_L o n locs1 → W p l e R s m args below meth c H1 locs1 cells slots Q (F0 m (pc + 3) ls rest)) : W p l e R s m args below meth c H locs cells slots Q (F0 m pc ls st0) := by
  intro T hT X
  obtain ⟨v, st₀, t, T', L, h0, X', hLL, e1, e2, ⟨S', T1, hv, hq, hw⟩, st⟩ := hr T hT X
  cases hv
  obtain ⟨t2, a1, b1⟩ := kk S' T1 T'.heap (locs ++ L) hq (by rw [e1]; exact hw) (hL.app hLL) T' rfl X'
  exact ⟨t2, st t2 a1, b1⟩
end HM
theorem hm_pos {c : Prop} [Decidable c] {A B : Prop} (hc : c) (h : if c then A else B) : A := by rwa [if_pos hc] at h
theorem hm_neg {c : Prop} [Decidable c] {A B : Prop} (hc : ¬ c) (h : if c then A else B) : B := by rwa [if_neg hc] at h
def hm_bool (v : Int32) : Prop := v = 0 ∨ v = 1
theorem hm_b0 : hm_bool 0 := Or.inl rfl
theorem hm_b1 : hm_bool 1 := Or.inr rfl
theorem hm_bool.n {v : Int32} (h : hm_bool v) : narrow .boolean (.int v) = .int v := by rcases h with rfl | rfl <;> rfl
theorem hm_bool.f {v : Int32} (h : hm_bool v) : fits .boolean (.int v) = true := by rcases h with rfl | rfl <;> rfl
abbrev hm_M (l : Launch) (G : hm_G) (H0 : Heap) (o n : Nat) (sh : hm_Sh) (y : MethodName) (cc : ByteArray) (k : Nat) (r : Option FieldType) (rm : Room) (S : hm_S) (T : hm_T) (av : List Value) (Qc : Array Value → State → Outcome → State → Prop) : Prop := Met l y (hm_ws y cc k r) rm (hm_Pc G H0 o n sh S T av) Qc 0 0 (t_fr o (o + n))
section HC
variable {p : Program} {l : Launch} {e : Env} {R : Room} {s : State} {m : MethodId} {args : Array Value} {below : List Frame} {meth : Method} {c : Code} {H : Heap} {locs : List Loc} {cells slots : Nat} {Q : State → Prop}
variable {cc : ByteArray} {pc nL : Nat} {ls : Array Slot} {rest : List Value} {own : String} {G : hm_G} {H0 : Heap} {o n : Nat} {sh : hm_Sh} {S : hm_S} {T : hm_T}
variable {y : MethodName} {bytes : ByteArray} {maxL k index : Nat} {ret : Option FieldType} {rm : Room} {As st0 : List Value} {Qc : Array Value → State → Outcome → State → Prop}
/-- the call itself, three kinds: a virtual one, a static one of the same class (or another public one), a nest mate's static one -/
theorem hm_rV {C : String} {ci : Nat} {fs : List Nat} {TT : u_T} {N i : Nat} (cx : hm_cx G p s m args c cc nL own) (hw : hm_w G H0 o n sh S T H) (hM : hm_M l G H0 o n sh y bytes maxL ret rm S T (.ref (o + i) :: As) Qc) (cw : CallW R s args own C index y bytes maxL ret (hm_ws y bytes maxL ret) rm 0 0 k) (hi : i < n) (hs : sh i = .inr (ci, fs)) (hc : hm_cl[ci]? = some (C, TT, N)) (hn : As.length = k) (hsz : ls.size = nL) (hst : st0 = As.reverse ++ .ref (o + i) :: rest) (hW : (rest.map fun v => v.category).sum ≤ 8) (hdg : decode cc pc = .ok (.invokevirtual index, 3)) (hf : cells ≤ R.cells ∧ slots ≤ R.slots) :
    va_Run p l e R s m args below meth c H locs cells slots 0 0 (F0 m pc ls st0) rest (Qc (Value.ref (o + i) :: As).toArray) (t_fr o (o + n)) :=
  va_runV cx.1 hM cw ⟨hm_blind G H0 o n sh S T _, hm_recv cx.2 hw hi hs hc, fun U hU hW => ⟨rfl, cx.2.warm hW, by rw [hU]; exact hw⟩⟩ rfl hn hsz hst (by rw [show (F0 m pc ls st0).monitorRoom = 0 from rfl, Nat.mul_zero, Nat.zero_add]; exact hW) hdg hf
theorem hm_rS (cx : hm_cx G p s m args c cc nL own) (hw : hm_w G H0 o n sh S T H) (hM : hm_M l G H0 o n sh y bytes maxL ret rm S T As Qc) (cw : CallB R s args own index y bytes maxL ret (hm_ws y bytes maxL ret) rm 0 0 k ∧ (Cond.static y).before args s = true) (hn : As.length = k) (hsz : ls.size = nL) (hst : st0 = As.reverse ++ rest) (hW : (rest.map fun v => v.category).sum ≤ 8) (hdg : decode cc pc = .ok (.invokestatic index, 3)) (hf : cells ≤ R.cells ∧ slots ≤ R.slots) :
    va_Run p l e R s m args below meth c H locs cells slots 0 0 (F0 m pc ls st0) rest (Qc As.toArray) (t_fr o (o + n)) :=
  va_runS cx.1 hM cw ⟨hm_blind G H0 o n sh S T _, fun U hU hW => ⟨rfl, cx.2.warm hW, by rw [hU]; exact hw⟩⟩ rfl hn hsz hst (by rw [show (F0 m pc ls st0).monitorRoom = 0 from rfl, Nat.mul_zero, Nat.zero_add]; exact hW) hdg hf
theorem hm_rN {host : String} (cx : hm_cx G p s m args c cc nL own) (hw : hm_w G H0 o n sh S T H) (hM : hm_M l G H0 o n sh y bytes maxL ret rm S T As Qc) (cw : va_CN R s args own index y host bytes maxL ret (hm_ws y bytes maxL ret) rm 0 0 k ∧ (Cond.static y).before args s = true ∧ True) (hn : As.length = k) (hsz : ls.size = nL) (hst : st0 = As.reverse ++ rest) (hW : (rest.map fun v => v.category).sum ≤ 8) (hdg : decode cc pc = .ok (.invokestatic index, 3)) (hf : cells ≤ R.cells ∧ slots ≤ R.slots) :
    va_Run p l e R s m args below meth c H locs cells slots 0 0 (F0 m pc ls st0) rest (Qc As.toArray) (t_fr o (o + n)) :=
  va_runSN cx.1 hM cw ⟨hm_blind G H0 o n sh S T _, fun U hU hW => ⟨rfl, cx.2.warm hW, by rw [hU]; exact hw⟩⟩ rfl hn hsz hst (by rw [show (F0 m pc ls st0).monitorRoom = 0 from rfl, Nat.mul_zero, Nat.zero_add]; exact hW) hdg hf
end HC
