/-! FIELDS: powers, rules, rings -/
def z_n2 (g p a t o : Nat) : Nat := bif Nat.beq g 3 then (o + t * a) % p else 0
def z_n1 (g p b t o n : Nat) : Nat := (n + (bif Nat.beq g 3 then t else o) * b) % p
def z_n0 (g p c t o : Nat) : Nat := (bif Nat.beq g 3 then t else o) * c % p
/-- whether the powers come back to 1 after so many steps, and not before -/
def z_wh (g p a b c : Nat) : Nat → Nat → Nat → Nat → Bool
  | 0, _, _, _ => false
  | m + 1, t, o, n => z_fc (z_n2 g p a t o) (fun t' => z_fc (z_n1 g p b t o n) (fun o' => z_fc (z_n0 g p c t o) (fun n' => bif Nat.beq t' 0 && Nat.beq o' 0 && Nat.beq n' 1 then Nat.beq m 0 else z_wh g p a b c m t' o' n')))
/-- the numbers of powers with w in the highest place -/
def z_fp (g p a b c w : Nat) : Nat → Nat → Nat → Nat → Nat → List Nat
  | 0, _, _, _, _ => []
  | m + 1, i, t, o, n => (bif Nat.beq (bif Nat.beq g 3 then t else o) w then [i] else []) ++ z_fc (i + 1) (fun i' => z_fc (z_n2 g p a t o) (fun t' => z_fc (z_n1 g p b t o n) (fun o' => z_fc (z_n0 g p c t o) (fun n' => z_fp g p a b c w m i' t' o' n'))))
def z_all (g p : Nat) : Nat := bif Nat.beq g 3 then p * p * p else p * p
def z_rnd (g p : Nat) : Nat := bif Nat.beq g 3 then p * p + p + 1 else p * p - 1
def z_wan (g : Nat) : Nat := bif Nat.beq g 3 then 0 else 1
def z_whr (g p r : Nat) : Bool := !(Nat.beq (r % p) 0) && z_wh g p (r / p / p % p) (r / p % p) (r % p) (z_all g p - 1) 0 0 1
def z_fpl (g p : Nat) : List Nat := z_fp g p ((z_rul (20 * g + p)).toNat / p / p % p) ((z_rul (20 * g + p)).toNat / p % p) ((z_rul (20 * g + p)).toNat % p) (z_wan g) (z_rnd g p) 0 0 0 1
def z_frl (g p : Nat) : List Nat := (z_fpl g p).map (fun x => x - (z_fpl g p).headD 0)
def z_fck (g p : Nat) : Bool := z_al (fun r => !(z_whr g p r)) ((z_rul (20 * g + p)).toNat - 1) 1 && z_whr g p (z_rul (20 * g + p)).toNat && Nat.ble 1 (z_rul (20 * g + p)).toNat && Nat.blt (z_rul (20 * g + p)).toNat (z_all g p) && Nat.ble (z_fpl g p).length 24 && z_nem (z_fpl g p)
theorem z_fd_ev3 : [2, 3, 5, 7, 11, 13, 17, 19].all (fun p => z_fck 3 p) = true := by decide +kernel
theorem z_fd_ev2 : [3, 5, 7, 11, 13, 17, 19].all (fun p => z_fck 2 p) = true := by decide +kernel
