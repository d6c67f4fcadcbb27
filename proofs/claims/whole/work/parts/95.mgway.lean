/-! THE REFERENCE: gangs, the way of its search -/
def z_ll {α : Type} : List Nat → (List Nat → α) → α
  | [], f => f []
  | x :: t, f => z_fc x (fun x' => z_ll t (fun t' => f (x' :: t')))
theorem z_ll_eq {α : Type} : ∀ (l : List Nat) (f : List Nat → α), z_ll l f = f l
  | [], f => rfl
  | x :: t, f => by show z_fc x _ = _; rw [z_fc_eq, z_ll_eq t]
/-- the lengths from x to the marks from place a on -/
def z_gn (l : List Nat) (a x : Nat) : Nat → Nat
  | 0 => 0
  | i + 1 => z_gn l a x i ||| 1 <<< (x - l.getD (a + i) 0)
def z_gow (l : List Nat) (a m : Nat) : Nat → Nat → Bool
  | 0, _ => true
  | f + 1, i => bif Nat.beq (l.getD (a + i) 0) (l.getD (a + m - 1) 0 - l.getD (a + m - 1 - i) 0) then z_gow l a m f (i + 1) else Nat.blt (l.getD (a + i) 0) (l.getD (a + m - 1) 0 - l.getD (a + m - 1 - i) 0)
def z_gbh (l : List Nat) (a b : Nat) : Nat → Nat → Bool
  | 0, _ => true
  | f + 1, i => bif Nat.beq (l.getD (a + i) 0) (l.getD (b + i) 0) then z_gbh l a b f (i + 1) else Nat.blt (l.getD (a + i) 0) (l.getD (b + i) 0)
def z_gfs (f : Nat → Option (List Nat)) : Nat → Nat → Option (List Nat)
  | 0, _ => none
  | n + 1, y => match f y with
    | some c => some c
    | none => z_fc (y + 1) (fun z => z_gfs f n z)
def z_ggw (m most : Nat) : Nat → Nat → List Nat → Nat → Option (List Nat)
  | 0, _, l, _ => some l
  | s + 1, mark, l, seen => bif Nat.beq mark m then (bif z_gow l (l.length - m) m m 0 && (bif Nat.beq l.length m then true else z_gbh l (l.length - 2 * m) (l.length - m) m 0) then z_ggw m most s 0 l seen else none) else
      z_gfs (fun x => z_fc (z_gn l (l.length - mark) x mark) (fun nw => bif Nat.beq (nw &&& seen) 0 then z_fc (mark + 1) (fun k' => z_fc (seen ||| nw) (fun s' => z_ll (l ++ [x]) (fun l' => z_ggw m most s k' l' s'))) else none)) (bif Nat.beq mark 0 then 1 else most - l.getD (l.length - 1) 0) (bif Nat.beq mark 0 then 0 else l.getD (l.length - 1) 0 + 1)
/-- the mask of marks -/
def z_lm : List Nat → Nat → Nat
  | [], a => a
  | x :: t, a => z_lm t (a ||| 1 <<< x)
def z_rsn : List Nat → Nat → Bool
  | [], _ => true
  | x :: t, a => Nat.blt a x && z_rsn t x
/-- a part of a row -/
def z_prt (l : List Nat) (a m : Nat) : List Nat := (l.drop a).take m
def z_gok (r m : Nat) (l : List Nat) : Bool := Nat.beq l.length (r * m) && z_al (fun i => match z_prt l (m * i) m with
  | 0 :: t => z_rsn t 0 && Nat.beq t.length (m - 1) && Nat.beq (z_lm t 1) ((z_ggb r m).getD i 0)
  | _ => false) r 0
def z_gwk (r m : Nat) : Bool := z_al (fun n => z_isn (z_ggw m n (r * (m + 1)) 0 [] 0)) (z_gln r m - r * m * (m - 1) / 2) (r * m * (m - 1) / 2) && Nat.ble (r * m * (m - 1) / 2) (z_gln r m) && Nat.ble (z_gln r m) 13 && (match z_ggw m (z_gln r m) (r * (m + 1)) 0 [] 0 with
  | none => false
  | some l => z_gok r m l)
theorem z_ggw_ev : z_al (fun r => z_al (fun m => (Nat.beq r 3 && Nat.beq m 4) || z_gwk r m) 3 2) 3 1 = true := by decide +kernel
