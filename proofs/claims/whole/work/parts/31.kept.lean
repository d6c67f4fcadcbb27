/-! THE SEARCHES: what they come to. A mask is a number, bit x of it for mark x -/
/-- f at x; the kernel brings x to a numeral first -/
def z_fc {α : Type} (x : Nat) (f : Nat → α) : α := match x with
  | 0 => f 0
  | n + 1 => f (n + 1)
theorem z_fc_eq {α : Type} (x : Nat) (f : Nat → α) : z_fc x f = f x := by cases x <;> rfl
/-- the rows of f y for n values from y on, one behind another -/
def z_fl {α : Type} (f : Nat → List α) : Nat → Nat → List α
  | 0, _ => []
  | n + 1, y => f y ++ z_fc (y + 1) (fun z => z_fl f n z)
/-- of the least place where a mask and the one turned at n are unlike, it is the mask that has a mark -/
def z_ow (m n : Nat) : Nat → Nat → Bool
  | 0, _ => true
  | f + 1, x => bif m.testBit x == m.testBit (n - x) then z_ow m n f (x + 1) else m.testBit x
def z_own (m n : Nat) : Bool := z_ow m n (n + 1) 0
/-- sparse rulers up to a length -/
def z_sp (lim : Nat) : Nat → Nat → Nat → Nat → Nat → List Nat
  | 0, mask, last, _, _ => bif z_own mask last then [mask] else []
  | left + 1, mask, last, back, meas => z_fl (fun y => z_fc (back <<< (y - last)) (fun more => bif Nat.beq (more &&& meas) 0 then z_fc (mask ||| 1 <<< y) (fun mask' => z_fc (more ||| 1) (fun back' => z_fc (meas ||| more) (fun meas' => z_sp lim left mask' y back' meas'))) else [])) (lim - (left + 1) * left / 2 - last) (last + 1)
def z_spb (m n : Nat) : List Nat := z_sp n (m - 1) 1 0 1 0
/-- the shortest lengths -/
def z_sbl (m : Nat) : Nat := match m with
  | 2 => 1
  | 3 => 3
  | 4 => 6
  | 5 => 11
  | 6 => 17
  | 7 => 25
  | _ => 0
/-- how many of the first f bits are set -/
def z_pc : Nat → Nat → Nat
  | 0, _ => 0
  | f + 1, m => m % 2 + z_fc (m / 2) (fun q => z_pc f q)
/-- the same, of 64 bits, field by field -/
def z_bc (m : Nat) : Nat := z_fc (m - ((m / 2) &&& 6148914691236517205)) (fun a => z_fc ((a &&& 3689348814741910323) + ((a / 4) &&& 3689348814741910323)) (fun b => z_fc ((b + b / 16) &&& 1085102592571150095) (fun c => z_fc (c + c / 256) (fun d => z_fc (d + d / 65536) (fun e => (e + e / 4294967296) % 128)))))
/-- full rulers of a length, all ways -/
def z_cv (n : Nat) : Nat → Nat → Nat → Nat → Nat → List Nat
  | 0, mask, _, _, meas => bif Nat.ble n (z_pc 64 meas) && z_own mask n then [mask] else []
  | left + 1, mask, last, back, meas => z_fl (fun y => z_cv n left (mask ||| 1 <<< y) y ((back <<< (y - last)) ||| 1) (meas ||| (back <<< (y - last)) ||| 1 <<< (n - y))) (n - (left + 1) - last) (last + 1)
/-- the same, ways that can't be full left out, the second mark 1 -/
def z_cp (n m : Nat) : Nat → Nat → Nat → Nat → Nat → List Nat
  | 0, mask, _, _, meas => bif Nat.ble n (z_bc meas) then (bif z_own mask n then [mask] else []) else []
  | left + 1, mask, last, back, meas => bif Nat.ble n (z_bc meas + (m * (m - 1) - (m - (left + 1)) * (m - (left + 1) - 1)) / 2) then
      z_fl (fun y => z_fc (back <<< (y - last)) (fun more => z_fc (mask ||| 1 <<< y) (fun mask' => z_fc (more ||| 1) (fun back' => z_fc (meas ||| more ||| 1 <<< (n - y)) (fun meas' => z_cp n m left mask' y back' meas'))))) (bif Nat.beq last 0 then 1 else n - (left + 1) - last) (last + 1) else []
def z_lnm (n m : Nat) : List Nat := z_cv n (m - 2) (1 ||| 1 <<< n) 0 1 (1 <<< n)
/-- the fewest marks -/
def z_lfw (n : Nat) : Nat := bif Nat.ble n 0 then 1 else bif Nat.ble n 1 then 2 else bif Nat.ble n 3 then 3 else bif Nat.ble n 6 then 4 else bif Nat.ble n 9 then 5 else bif Nat.ble n 13 then 6 else bif Nat.ble n 17 then 7 else bif Nat.ble n 23 then 8 else 9
def z_leb (n : Nat) : List Nat := bif Nat.beq n 0 then [1] else z_lnm n (z_lfw n)
/-- a row and a mask have the same marks -/
def ZMR (m : Nat) (w : Nat → Int) (c : Nat) : Prop := ZRise w c ∧ ∀ x : Int, ZMem w c x ↔ (0 ≤ x ∧ m.testBit x.toNat = true)
def ZOr (n m : Nat) : Prop := ∀ (w : Nat → Int) (c : Nat), ZMR m w c → ∀ a : Nat, 1 ≤ a → a < n → Nat.gcd a n = 1 → ∀ h, ZCan w c n a h → z_bef h w (c - 1) 1 = false
/-- a ring's mask is its own form -/
noncomputable def z_or (n m : Nat) : Bool := @decide (ZOr n m) (Classical.propDecidable _)
/-- rings of a round, all ways -/
def z_rs (n : Nat) (own : Nat → Bool) : Nat → Nat → Nat → Nat → Nat → Nat → List Nat
  | 0, mask, _, _, _, _ => bif own mask then [mask] else []
  | left + 1, mask, last, back, ahead, meas => z_fl (fun y => bif Nat.beq ((back <<< (y - last)) &&& (ahead >>> (y - last))) 0 && Nat.beq (((back <<< (y - last)) ||| (ahead >>> (y - last))) &&& meas) 0 then z_rs n own left (mask ||| 1 <<< y) y ((back <<< (y - last)) ||| 1) ((ahead >>> (y - last)) ||| 1 <<< n) (meas ||| (back <<< (y - last)) ||| (ahead >>> (y - last))) else []) (n - 1 - last) (last + 1)
/-- the lengths of a round whose common divisor with it is below s -/
def z_fnr (n s : Nat) : Nat → Nat → Nat
  | 0, _ => 0
  | f + 1, d => (bif Nat.blt (Nat.gcd d n) s then 1 <<< d else 0) ||| z_fnr n s f (d + 1)
/-- rings of a round, ways that give no form left out -/
def z_rp (n : Nat) (own : Nat → Bool) : Nat → Nat → Nat → Nat → Nat → Nat → List Nat
  | 0, mask, _, _, _, _ => bif own mask then [mask] else []
  | left + 1, mask, last, back, ahead, barred => z_fl (fun y => bif Nat.beq last 0 && !(Nat.beq (n % y) 0) then [] else
      z_fc (bif Nat.beq last 0 then z_fnr n y (n - 1) 1 else barred) (fun shut => z_fc (back <<< (y - last)) (fun up => z_fc (ahead >>> (y - last)) (fun down => bif Nat.beq (up &&& down) 0 && Nat.beq ((up ||| down) &&& shut) 0 then
        z_fc (mask ||| 1 <<< y) (fun mask' => z_fc (up ||| 1) (fun back' => z_fc (down ||| 1 <<< n) (fun ahead' => z_fc (shut ||| up ||| down) (fun shut' => z_rp n own left mask' y back' ahead' shut')))) else [])))) (n - (left + 1) - last) (last + 1)
noncomputable def z_rgb (n m : Nat) : List Nat := z_rs n (z_or n) (m - 1) 1 0 1 (1 <<< n) 0
/-- the sum of the least numbers from x on that are not in a set, until none is left to find or n are asked -/
def z_lsm (b : Nat → Bool) : Nat → Int → Nat → Nat → Int
  | _, s, _, 0 => s
  | 0, s, _, _ + 1 => s
  | l + 1, s, x, n + 1 => if b x = true then z_lsm b (l + 1) s (x + 1) n else z_lsm b l (s + x) (x + 1) n
/-- sums of pairs -/
def z_fs (f : Nat → Nat × Nat) : Nat → Nat → Nat × Nat
  | 0, _ => (0, 0)
  | n + 1, y => ((f y).1 + (z_fs f n (y + 1)).1, (f y).2 + (z_fs f n (y + 1)).2)
/-- cases from a state on: in all, whole -/
def z_cs (lim : Nat) : Nat → Nat → Nat → Nat → Nat × Nat
  | 0, _, _, _ => (1, 1)
  | left + 1, last, back, meas => if (lim : Int) < last + z_lsm meas.testBit (left + 1) 0 1 63 then (1, 0) else
      ((z_fs (fun y => if (back <<< (y - last)) &&& meas = 0 then z_cs lim left y ((back <<< (y - last)) ||| 1) (meas ||| (back <<< (y - last))) else (1, 0)) (lim - last) (last + 1)).1 + 1, (z_fs (fun y => if (back <<< (y - last)) &&& meas = 0 then z_cs lim left y ((back <<< (y - last)) ||| 1) (meas ||| (back <<< (y - last))) else (1, 0)) (lim - last) (last + 1)).2)
/-- the lengths of a mask -/
def z_msr (m : Nat) : Nat → Nat → Nat
  | 0, _ => 0
  | f + 1, x => (bif m.testBit x then m >>> x else 0) ||| z_msr m f (x + 1)
def z_ms (m : Nat) : Nat := z_msr m 64 0 / 2 * 2
/-- the first of a row, with what stands behind it, for which f has an answer -/
def z_sc {α β : Type} (f : α → List α → Option β) : List α → Option β
  | [] => none
  | x :: t => match f x t with
    | some c => some c
    | none => z_sc f t
def z_ch : Nat → List Nat → Nat → Option (List Nat)
  | 0, _, _ => some []
  | left + 1, l, taken => z_sc (fun x t => z_fc (z_ms x) (fun o => bif Nat.beq (o &&& taken) 0 then (z_ch left t (taken ||| o)).map (fun c => x :: c) else none)) l
/-- the greatest lengths of gangs -/
def z_gln (r m : Nat) : Nat := match r, m with
  | 1, 2 => 1
  | 1, 3 => 3
  | 1, 4 => 6
  | 2, 2 => 2
  | 2, 3 => 7
  | 2, 4 => 13
  | 3, 2 => 3
  | 3, 3 => 10
  | _, _ => 0
def z_ggb (r m : Nat) : List Nat := (z_ch r (z_spb m (z_gln r m)) 0).getD []
/-! what the searches keep -/
def z_cas (j : Nat) : Int × Int := (((z_cs (j % 21) (j / 21 - 1) 0 1 0).1 : Int), ((z_cs (j % 21) (j / 21 - 1) 0 1 0).2 : Int))
/-- the first rules of the fields: number 20 times the degree and p -/
def z_rul (j : Nat) : Int := match j with
  | 62 => 3
  | 63 => 5
  | 65 => 7
  | 67 => 12
  | 71 => 18
  | 73 => 32
  | 77 => 20
  | 79 => 34
  | 43 => 4
  | 45 => 8
  | 47 => 11
  | 51 => 14
  | 53 => 24
  | 57 => 24
  | 59 => 24
  | _ => 0
def z_spa (j : Nat) : List Int64 := (z_spb j (z_sbl j)).map Int64.ofNat
def z_lea (j : Nat) : List Int64 := (z_leb j).map Int64.ofNat
noncomputable def z_rng (j : Nat) : List Int64 := (z_rgb (j / 7) (j % 7)).map Int64.ofNat
def z_gng (j : Nat) : List Int64 := (z_ggb (j / 5) (j % 5)).map Int64.ofNat
