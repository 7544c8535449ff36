/-! ===== what the moves are: a rule is (digits, obliging, growing, misere) ===== -/
abbrev Ru : Type := (Nat → Nat) × Nat × Nat × Nat
abbrev Mv : Type := Nat × Nat × Nat × Nat × Nat × Nat
def rok (ρ : Ru) : Prop := (∀ k, ρ.1 k < 8) ∧ ρ.2.1 < 2048 ∧ ρ.2.2.1 < 1024 ∧ ρ.2.2.2 < 2
def bitN (b k : Nat) : Nat := b / 2 ^ k % 2
theorem bitN_lt (b k : Nat) : bitN b k < 2 := Nat.mod_lt _ (by decide)
/-- may k counters be taken from a heap of n so that the smaller part is sm -/
def alw (ρ : Ru) (k n sm : Nat) : Bool := if 0 < sm then ρ.1 k / 4 % 2 == 1 else if k = n then ρ.1 k % 2 == 1 else ρ.1 k / 2 % 2 == 1
def rwi (l sm gr b : Nat) : Nat :=
  let l1 := if 0 < sm then jt l (2 * (sm - 1) + b) else l
  if 0 < gr then jt l1 (2 * (gr - 1) + b) else l1
def tkM (ρ : Ru) (n rest p k sm : Nat) : Mv := (0, n, k, sm, n - k - sm, 2 * rwi rest sm (n - k - sm) (bitN ρ.2.1 k) + p)
def tkS (ρ : Ru) (n rest p k : Nat) : Nat → Nat → List Mv
  | 0, _ => []
  | c + 1, sm => (if alw ρ k n sm then [tkM ρ n rest p k sm] else []) ++ tkS ρ n rest p k c (sm + 1)
def tkK (ρ : Ru) (n rest p : Nat) : Nat → Nat → List Mv
  | 0, _ => []
  | c + 1, k => tkS ρ n rest p k ((n - k) / 2 + 1) 0 ++ tkK ρ n rest p c (k + 1)
def tkO (ρ : Ru) (p : Nat) : List (Nat × Nat) → List Mv
  | [] => []
  | q :: os => tkK ρ q.1 q.2 p q.1 1 ++ tkO ρ p os
def grM (n rest p : Nat) : Mv := (1, n, 0, 0, n + 1, 2 * rwi rest 0 (n + 1) 0 + p)
def grO (ρ : Ru) (p : Nat) : List (Nat × Nat) → List Mv
  | [] => []
  | q :: os => (if bitN ρ.2.2.1 q.1 = 1 then [grM q.1 q.2 p] else []) ++ grO ρ p os
/-- the layout without one heap -/
def woF (l h : Nat) : Nat → Nat → Nat → Nat
  | 0, _, acc => acc
  | c + 1, i, acc => if i = h then woF l h c (i + 1) acc else woF l h c (i + 1) (jt acc ((lay l).getD i 0))
def wo (l h : Nat) : Nat := woF l h (len l) 0 0
def bb (l : Nat) : Nat := if 0 < bnd l then 1 else 0
def opn (l : Nat) : Nat → Nat → Nat → List (Nat × Nat)
  | 0, _, _ => []
  | c + 1, h, prev => if (lay l).getD h 0 % 2 = bb l ∧ szk ((lay l).getD h 0) ≠ prev then (szk ((lay l).getD h 0), frd (wo l h)) :: opn l c (h + 1) (szk ((lay l).getD h 0)) else opn l c (h + 1) prev
def opens (l : Nat) : List (Nat × Nat) := opn l (len l) 0 0
def paM (l : Nat) : Mv := (2, 0, 0, 0, 0, 2 * l)
def mv (ρ : Ru) (q : Nat) : List Mv := tkO ρ (q % 2) (opens (q / 2)) ++ (if cnt (q / 2) < 10 then grO ρ (q % 2) (opens (q / 2)) else []) ++ (if q % 2 = 1 ∧ bnd (q / 2) = 0 ∧ 0 < len (q / 2) then [paM (q / 2)] else [])
def tgt (m : Mv) : Nat := m.2.2.2.2.2
/-! ===== the kernel on heaps that are open ===== -/
def remF (n : Nat) : List Nat → List Nat
  | [] => []
  | k :: l => if szk k = n then l.map (fun k => k / 2 * 2) else k / 2 * 2 :: remF n l
def opOK (l : Nat) (q : Nat × Nat) : Bool := decide (1 ≤ q.1) && decide (q.1 ≤ 10) && decide (q.2 < 1215) && decide (cnt q.2 + q.1 = cnt l) && lay q.2 == remF q.1 (lay l)
def tkB (n : Nat) : Nat → Nat → Nat
  | 0, _ => 0
  | c + 1, k => (n - k) / 2 + 1 + tkB n c (k + 1)
def tkBs : List (Nat × Nat) → Nat
  | [] => 0
  | q :: os => tkB q.1 q.1 1 + tkBs os
def mvB (q : Nat) : Nat := tkBs (opens (q / 2)) + (if cnt (q / 2) < 10 then (opens (q / 2)).length else 0) + (if q % 2 = 1 ∧ bnd (q / 2) = 0 ∧ 0 < len (q / 2) then 1 else 0)
def sumB (g : Nat → Nat) : Nat → Nat
  | 0 => 0
  | n + 1 => sumB g n + g n
theorem k_open : allB (fun l => (opens l).all (opOK l) && (opens l).map (fun q => q.1) == (List.range 11).filter (fun n => decide (1 ≤ n) && (lay l).contains (2 * (n - 1) + bb l)) && decide ((opens l).length ≤ 10) && allB (fun h => decide (wo l h < 1215)) (len l)) 1215 = true := by decide +kernel
theorem k_mvB : allB (fun q => decide (mvB q ≤ 31)) 2430 = true := by decide +kernel
theorem k_sumB : sumB mvB 2430 = 15010 := by decide +kernel
def srtL : List Nat → Bool
  | [] => true
  | [_] => true
  | a :: b :: l => decide (a ≤ b) && srtL (b :: l)
theorem k_srt : allB (fun l => srtL (lay l)) 1215 = true := by decide +kernel
