/-! rings: how many at most -/
/-- the marks of a mask, from x on, brought to f -/
def z_mkl {α : Type} (m : Nat) : Nat → Nat → List Nat → (List Nat → α) → α
  | 0, _, l, k => k l
  | f + 1, x, l, k => bif Nat.beq (Nat.land (Nat.shiftRight m x) 1) 1 then z_fc (x + 1) (fun z => z_mkl m f z (x :: l) k) else z_fc (x + 1) (fun z => z_mkl m f z l k)
/-- marks less y, times a, as a number whose highest bit is for the least mark -/
def z_enc (n a y : Nat) : List Nat → Nat
  | [] => 0
  | x :: t => 1 <<< (n - 1 - (a * (x + n - y)) % n) ||| z_enc n a y t
/-- multiples, by a mark's number from the greatest on, that are tried -/
def z_rtl (n : Nat) : List (Nat × Nat) := bif Nat.beq n 39 then [(38, 3), (19, 1), (34, 2), (4, 4), (29, 2), (2, 0)] else bif Nat.beq n 40 then [(39, 3), (37, 3), (3, 4), (3, 1)] else bif Nat.beq n 37 then [(36, 3), (18, 1)] else [(n - 1, 3)]
/-- some multiples of a ring that are moved are not before it -/
def z_rtt (n m : Nat) : Bool := z_mkl m n 0 [] (fun l => z_fc (z_enc n 1 0 l) (fun e => (z_rtl n).all (fun q => bif Nat.beq (Nat.gcd q.1 n) 1 then z_fc (l.getD q.2 0) (fun y => Nat.ble (z_enc n q.1 y l) e) else true)))
def z_rck (n : Nat) : Bool := z_al (fun m => Nat.ble (z_rp n (fun w => bif Nat.beq m 5 && Nat.ble 33 n then z_rtt n w else true) (m - 1) 1 0 1 (1 <<< n) 0).length 512) 6 1
theorem z_rg_ev1 : z_al z_rck 31 2 = true := by decide +kernel
theorem z_rg_ev2 : z_al z_rck 4 33 = true := by decide +kernel
theorem z_rg_ev3 : z_al z_rck 2 37 = true := by decide +kernel
theorem z_rg_ev4 : z_al z_rck 2 39 = true := by decide +kernel
