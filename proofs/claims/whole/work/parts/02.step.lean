/-! THE PURE MACHINE: values, locals, heaps of the program's own cells; one step; a method's run; calls by depth -/
abbrev ZV : Type := Int ⊕ (Int64 ⊕ Option Nat)
abbrev ZL : Type := List (Option ZV)
/-- what each cell is (1 an object of a class, 2 ints, 3 longs, 4 5 6 references; its class or its length), references in fields, the next address, the slots so far -/
abbrev ZK : Type := (Nat → Nat × Nat) × (Nat → Nat → Option Nat) × Nat × Nat
/-- and the contents: int fields, int arrays, long arrays, reference arrays -/
abbrev ZH : Type := ZK × (Nat → Nat → Int) × (Nat → Nat → Int) × (Nat → Nat → Int64) × (Nat → Nat → Option Nat)
abbrev ZE : Type := Instr × Nat × Nat × Nat × Nat
abbrev ZR : Type := Nat × ZL × List ZV × ZH
def z_up {α : Type} (f : Nat → α) (a : Nat) (v : α) : Nat → α := fun j => if j = a then v else f j
def z_u2 {α : Type} (f : Nat → Nat → α) (a k : Nat) (v : α) : Nat → Nat → α := fun x y => if x = a ∧ y = k then v else f x y
def z_lg : ZL → Nat → Option ZV
  | [], _ => none
  | o :: _, 0 => o
  | _ :: l, k + 1 => z_lg l k
def z_ls : ZL → Nat → Option ZV → ZL
  | [], _, _ => []
  | _ :: l, 0, v => v :: l
  | o :: l, k + 1, v => o :: z_ls l k v
def z_wide : Option ZV → Bool
  | some (.inr (.inl _)) => true
  | _ => false
def z_prev (ls : ZL) : Nat → Bool
  | 0 => false
  | k + 1 => z_wide (z_lg ls k)
/-- may a number of w words be stored at k -/
def z_okst (ls : ZL) (k w : Nat) : Bool := Nat.ble (k + w) ls.length && !(z_prev ls k)
def z_cat : ZV → Nat
  | .inr (.inl _) => 2
  | _ => 1
def z_in (x : Int) : Prop := -2147483648 ≤ x ∧ x < 2147483648
theorem z_in_iff {x : Int} : z_in x ↔ -2147483648 ≤ x ∧ x < 2147483648 := Iff.rfl
def z_inb (x : Int) : Bool := decide (-2147483648 ≤ x) && decide (x < 2147483648)
theorem z_inb_of {x : Int} (h1 : -2147483648 ≤ x) (h2 : x < 2147483648) : z_inb x = true := by simp [z_inb, h1, h2]
theorem z_inb_in {x : Int} (h : z_inb x = true) : z_in x := by simpa [z_inb, z_in] using h
def z_cmp : ClassFile.Cond → Int → Int → Bool
  | .eq, x, y => decide (x = y)
  | .ne, x, y => !decide (x = y)
  | .lt, x, y => decide (x < y)
  | .ge, x, y => decide (y ≤ x)
  | .gt, x, y => decide (y < x)
  | .le, x, y => decide (x ≤ y)
def z_iload (n : Nat) (o : Option ZV) (ls : ZL) (st : List ZV) (h : ZH) : Option ZR := match o with
  | some (.inl x) => some (n, ls, .inl x :: st, h)
  | _ => none
def z_lload (n : Nat) (o : Option ZV) (ls : ZL) (st : List ZV) (h : ZH) : Option ZR := match o with
  | some (.inr (.inl x)) => some (n, ls, .inr (.inl x) :: st, h)
  | _ => none
def z_aload (n : Nat) (o : Option ZV) (ls : ZL) (st : List ZV) (h : ZH) : Option ZR := match o with
  | some (.inr (.inr x)) => some (n, ls, .inr (.inr x) :: st, h)
  | _ => none
def z_istore (n k : Nat) (ls : ZL) (st : List ZV) (h : ZH) : Option ZR := match st with
  | .inl x :: st => bif z_okst ls k 1 then some (n, z_ls ls k (some (.inl x)), st, h) else none
  | _ => none
def z_astore (n k : Nat) (ls : ZL) (st : List ZV) (h : ZH) : Option ZR := match st with
  | .inr (.inr x) :: st => bif z_okst ls k 1 then some (n, z_ls ls k (some (.inr (.inr x))), st, h) else none
  | _ => none
def z_lstore (n k : Nat) (ls : ZL) (st : List ZV) (h : ZH) : Option ZR := match st with
  | .inr (.inl x) :: st => bif z_okst ls k 2 then some (n, z_ls (z_ls ls k (some (.inr (.inl x)))) (k + 1) none, st, h) else none
  | _ => none
def z_iinc (n k : Nat) (c : Int) (ls : ZL) (st : List ZV) (h : ZH) : Option ZR := match z_lg ls k with
  | some (.inl x) => bif z_okst ls k 1 && z_inb (x + c) then some (n, z_ls ls k (some (.inl (x + c))), st, h) else none
  | _ => none
def z_ari (n : Nat) (f : Int → Int → Int) (ls : ZL) (st : List ZV) (h : ZH) : Option ZR := match st with
  | .inl y :: .inl x :: st => bif z_inb (f x y) then some (n, ls, .inl (f x y) :: st, h) else none
  | _ => none
def z_div (n : Nat) (f : Int → Int → Int) (ls : ZL) (st : List ZV) (h : ZH) : Option ZR := match st with
  | .inl y :: .inl x :: st => bif decide (0 ≤ x) && decide (0 < y) then some (n, ls, .inl (f x y) :: st, h) else none
  | _ => none
def z_iand (n : Nat) (ls : ZL) (st : List ZV) (h : ZH) : Option ZR := match st with
  | .inl y :: .inl x :: st => bif decide (y = 1) || decide (y = 63) || decide (y = 127) then some (n, ls, .inl (x % (y + 1)) :: st, h) else none
  | _ => none
def z_ior (n : Nat) (ls : ZL) (st : List ZV) (h : ZH) : Option ZR := match st with
  | .inl y :: .inl x :: st => bif (decide (x = 0) || decide (x = 1)) && (decide (y = 0) || decide (y = 1)) then some (n, ls, .inl (max x y) :: st, h) else none
  | _ => none
def z_ishr (n : Nat) (ls : ZL) (st : List ZV) (h : ZH) : Option ZR := match st with
  | .inl y :: .inl x :: st => bif decide (0 ≤ x) && decide (0 ≤ y) && decide (y < 32) then some (n, ls, .inl (x / 2 ^ y.toNat) :: st, h) else none
  | _ => none
def z_lll (n : Nat) (f : Int64 → Int64 → Int64) (ls : ZL) (st : List ZV) (h : ZH) : Option ZR := match st with
  | .inr (.inl y) :: .inr (.inl x) :: st => some (n, ls, .inr (.inl (f x y)) :: st, h)
  | _ => none
def z_lsh (n : Nat) (f : Int64 → Int → Int64) (ls : ZL) (st : List ZV) (h : ZH) : Option ZR := match st with
  | .inl y :: .inr (.inl x) :: st => some (n, ls, .inr (.inl (f x y)) :: st, h)
  | _ => none
def z_lneg (n : Nat) (ls : ZL) (st : List ZV) (h : ZH) : Option ZR := match st with
  | .inr (.inl x) :: st => some (n, ls, .inr (.inl (-x)) :: st, h)
  | _ => none
def z_lcmpv (x y : Int64) : Int := if y < x then 1 else if x = y then 0 else -1
def z_lcmp (n : Nat) (ls : ZL) (st : List ZV) (h : ZH) : Option ZR := match st with
  | .inr (.inl y) :: .inr (.inl x) :: st => some (n, ls, .inl (z_lcmpv x y) :: st, h)
  | _ => none
def z_i2l (n : Nat) (ls : ZL) (st : List ZV) (h : ZH) : Option ZR := match st with
  | .inl x :: st => some (n, ls, .inr (.inl (Int64.ofInt x)) :: st, h)
  | _ => none
def z_l2i (n : Nat) (ls : ZL) (st : List ZV) (h : ZH) : Option ZR := match st with
  | .inr (.inl x) :: st => some (n, ls, .inl x.toInt32.toInt :: st, h)
  | _ => none
def z_i2b (n : Nat) (ls : ZL) (st : List ZV) (h : ZH) : Option ZR := match st with
  | .inl x :: st => some (n, ls, .inl (Int32.ofInt x).toInt8.toInt32.toInt :: st, h)
  | _ => none
def z_dup (n : Nat) (ls : ZL) (st : List ZV) (h : ZH) : Option ZR := match st with
  | v :: st => bif Nat.beq (z_cat v) 1 then some (n, ls, v :: v :: st, h) else none
  | _ => none
def z_dup2 (n : Nat) (ls : ZL) (st : List ZV) (h : ZH) : Option ZR := match st with
  | v :: w :: st => bif Nat.beq (z_cat v) 1 && Nat.beq (z_cat w) 1 then some (n, ls, v :: w :: v :: w :: st, h) else none
  | _ => none
def z_pop (n : Nat) (ls : ZL) (st : List ZV) (h : ZH) : Option ZR := match st with
  | v :: st => bif Nat.beq (z_cat v) 1 then some (n, ls, st, h) else none
  | _ => none
def z_if (n a : Nat) (c : ClassFile.Cond) (ls : ZL) (st : List ZV) (h : ZH) : Option ZR := match st with
  | .inl x :: st => some (bif z_cmp c x 0 then a else n, ls, st, h)
  | _ => none
def z_icmp (n a : Nat) (c : ClassFile.Cond) (ls : ZL) (st : List ZV) (h : ZH) : Option ZR := match st with
  | .inl y :: .inl x :: st => some (bif z_cmp c x y then a else n, ls, st, h)
  | _ => none
def z_ifnn (n a : Nat) (ls : ZL) (st : List ZV) (h : ZH) : Option ZR := match st with
  | .inr (.inr none) :: st => some (n, ls, st, h)
  | .inr (.inr (some _)) :: st => some (a, ls, st, h)
  | _ => none
def z_swt (pc : Nat) (d lo hi : Int) (os : List Int) (x : Int) : Nat :=
  ((pc : Int) + (if x < lo ∨ hi < x then d else os.getD (x - lo).toNat 0)).toNat
def z_sw (pc : Nat) (d lo hi : Int) (os : List Int) (ls : ZL) (st : List ZV) (h : ZH) : Option ZR := match st with
  | .inl x :: st => some (z_swt pc d lo hi os x, ls, st, h)
  | _ => none
def z_getf (n a b t : Nat) (ls : ZL) (st : List ZV) (h : ZH) : Option ZR := match st with
  | .inr (.inr (some q)) :: st => bif Nat.beq (h.1.1 q).1 1 && Nat.beq (h.1.1 q).2 a then some (n, ls, (bif Nat.beq t 2 then .inr (.inr (h.1.2.1 q b)) else .inl (h.2.1 q b)) :: st, h) else none
  | _ => none
def z_putf (n a b t : Nat) (ls : ZL) (st : List ZV) (h : ZH) : Option ZR := match st with
  | .inl x :: .inr (.inr (some q)) :: st => bif Nat.beq (h.1.1 q).1 1 && Nat.beq (h.1.1 q).2 a && (Nat.beq t 0 || (Nat.beq t 1 && (decide (x = 0) || decide (x = 1)))) then some (n, ls, st, (h.1, z_u2 h.2.1 q b x, h.2.2)) else none
  | .inr (.inr r) :: .inr (.inr (some q)) :: st => bif Nat.beq (h.1.1 q).1 1 && Nat.beq (h.1.1 q).2 a && Nat.beq t 2 then some (n, ls, st, ((h.1.1, z_u2 h.1.2.1 q b r, h.1.2.2), h.2)) else none
  | _ => none
def z_iald (n : Nat) (ls : ZL) (st : List ZV) (h : ZH) : Option ZR := match st with
  | .inl i :: .inr (.inr (some q)) :: st => bif Nat.beq (h.1.1 q).1 2 && decide (0 ≤ i) && decide (i < (h.1.1 q).2) then some (n, ls, .inl (h.2.2.1 q i.toNat) :: st, h) else none
  | _ => none
def z_lald (n : Nat) (ls : ZL) (st : List ZV) (h : ZH) : Option ZR := match st with
  | .inl i :: .inr (.inr (some q)) :: st => bif Nat.beq (h.1.1 q).1 3 && decide (0 ≤ i) && decide (i < (h.1.1 q).2) then some (n, ls, .inr (.inl (h.2.2.2.1 q i.toNat)) :: st, h) else none
  | _ => none
def z_aald (n : Nat) (ls : ZL) (st : List ZV) (h : ZH) : Option ZR := match st with
  | .inl i :: .inr (.inr (some q)) :: st => bif Nat.ble 4 (h.1.1 q).1 && Nat.ble (h.1.1 q).1 6 && decide (0 ≤ i) && decide (i < (h.1.1 q).2) then some (n, ls, .inr (.inr (h.2.2.2.2 q i.toNat)) :: st, h) else none
  | _ => none
def z_iast (n : Nat) (ls : ZL) (st : List ZV) (h : ZH) : Option ZR := match st with
  | .inl x :: .inl i :: .inr (.inr (some q)) :: st => bif Nat.ble 2 q && Nat.beq (h.1.1 q).1 2 && decide (0 ≤ i) && decide (i < (h.1.1 q).2) then some (n, ls, st, (h.1, h.2.1, z_u2 h.2.2.1 q i.toNat x, h.2.2.2)) else none
  | _ => none
def z_last (n : Nat) (ls : ZL) (st : List ZV) (h : ZH) : Option ZR := match st with
  | .inr (.inl x) :: .inl i :: .inr (.inr (some q)) :: st => bif Nat.beq (h.1.1 q).1 3 && decide (0 ≤ i) && decide (i < (h.1.1 q).2) then some (n, ls, st, (h.1, h.2.1, h.2.2.1, z_u2 h.2.2.2.1 q i.toNat x, h.2.2.2.2)) else none
  | _ => none
/-- may cell k (a kind and a class) stand in an array of references of kind t -/
def z_fit (t : Nat) (k : Nat × Nat) : Bool := (Nat.beq t 4 && Nat.beq k.1 1 && Nat.beq k.2 10) || (Nat.beq t 5 && Nat.beq k.1 1 && Nat.beq k.2 8) || (Nat.beq t 6 && Nat.beq k.1 3)
def z_aast (n : Nat) (ls : ZL) (st : List ZV) (h : ZH) : Option ZR := match st with
  | .inr (.inr (some v)) :: .inl i :: .inr (.inr (some q)) :: st => bif Nat.ble 4 (h.1.1 q).1 && Nat.ble (h.1.1 q).1 6 && z_fit (h.1.1 q).1 (h.1.1 v) && decide (0 ≤ i) && decide (i < (h.1.1 q).2) then some (n, ls, st, (h.1, h.2.1, h.2.2.1, h.2.2.2.1, z_u2 h.2.2.2.2 q i.toNat (some v))) else none
  | _ => none
def z_alen (n : Nat) (ls : ZL) (st : List ZV) (h : ZH) : Option ZR := match st with
  | .inr (.inr (some q)) :: st => bif Nat.ble 2 (h.1.1 q).1 && Nat.ble (h.1.1 q).1 6 then some (n, ls, .inl (h.1.1 q).2 :: st, h) else none
  | _ => none
/-- a new cell of a kind: kind and class or length, and how many slots -/
def z_born (h : ZH) (k : Nat × Nat) (w : Nat) : ZH :=
  ((z_up h.1.1 h.1.2.2.1 k, z_up h.1.2.1 h.1.2.2.1 (fun _ => none), h.1.2.2.1 + 1, h.1.2.2.2 + w), z_up h.2.1 h.1.2.2.1 (fun _ => 0), z_up h.2.2.1 h.1.2.2.1 (fun _ => 0), z_up h.2.2.2.1 h.1.2.2.1 (fun _ => 0), z_up h.2.2.2.2 h.1.2.2.1 (fun _ => none))
def z_newa (n t : Nat) (ls : ZL) (st : List ZV) (h : ZH) : Option ZR := match st with
  | .inl x :: st => bif decide (0 ≤ x) && decide (x ≤ 65536) then some (n, ls, .inr (.inr (some h.1.2.2.1)) :: st, z_born h (t, x.toNat) x.toNat) else none
  | _ => none
def z_oinit (n : Nat) (ls : ZL) (st : List ZV) (h : ZH) : Option ZR := match st with
  | .inr (.inr (some _)) :: st => bif Nat.ble (st.map z_cat).sum 8 then some (n, ls, st, h) else none
  | _ => none
def z_cpf {α : Type} (n : Nat) (f g : Nat → α) : Nat → α := fun j => if j < n then f j else g j
def z_copy (n : Nat) (ls : ZL) (st : List ZV) (h : ZH) : Option ZR := match st with
  | .inl x :: .inl dp :: .inr (.inr (some q)) :: .inl sp :: .inr (.inr (some r)) :: st =>
    bif decide (dp = 0) && decide (sp = 0) && decide (0 ≤ x) && decide (x ≤ (h.1.1 q).2) && decide (x ≤ (h.1.1 r).2) && decide (q ≠ r) && Nat.ble 2 q && Nat.ble 2 r && Nat.ble (st.map z_cat).sum 8 then
      (bif Nat.beq (h.1.1 q).1 2 && Nat.beq (h.1.1 r).1 2 then some (n, ls, st, (h.1, h.2.1, z_up h.2.2.1 q (z_cpf x.toNat (h.2.2.1 r) (h.2.2.1 q)), h.2.2.2))
      else bif Nat.beq (h.1.1 q).1 3 && Nat.beq (h.1.1 r).1 3 then some (n, ls, st, (h.1, h.2.1, h.2.2.1, z_up h.2.2.2.1 q (z_cpf x.toNat (h.2.2.2.1 r) (h.2.2.2.1 q)), h.2.2.2.2))
      else none) else none
  | _ => none
def z_clone (n : Nat) (ls : ZL) (st : List ZV) (h : ZH) : Option ZR := match st with
  | .inr (.inr (some q)) :: st => bif Nat.ble 2 q && Nat.beq (h.1.1 q).1 3 && Nat.ble (h.1.1 q).2 65536 && Nat.ble (st.map z_cat).sum 8 then
      some (n, ls, .inr (.inr (some h.1.2.2.1)) :: st, ((z_born h (3, (h.1.1 q).2) (h.1.1 q).2).1, (z_born h (3, (h.1.1 q).2) (h.1.1 q).2).2.1, (z_born h (3, (h.1.1 q).2) (h.1.1 q).2).2.2.1, z_up h.2.2.2.1 h.1.2.2.1 (h.2.2.2.1 q), (z_born h (3, (h.1.1 q).2) (h.1.1 q).2).2.2.2.2)) else none
  | _ => none
def z_ccast (n : Nat) (ls : ZL) (st : List ZV) (h : ZH) : Option ZR := match st with
  | .inr (.inr (some q)) :: st => bif Nat.ble 2 q && Nat.beq (h.1.1 q).1 3 then some (n, ls, .inr (.inr (some q)) :: st, h) else none
  | _ => none
/-- one instruction that is no return and no call of a method with code -/
def z_s (i : Instr) (a b t n : Nat) (pc : Nat) (ls : ZL) (st : List ZV) (h : ZH) : Option ZR := match i with
  | .iconst c => some (n, ls, .inl c :: st, h)
  | .bipush c => some (n, ls, .inl c :: st, h)
  | .sipush c => some (n, ls, .inl c :: st, h)
  | .lconst c => some (n, ls, .inr (.inl (Int64.ofNat c)) :: st, h)
  | .ldc _ => some (n, ls, .inl (a : Int) :: st, h)
  | .ldc_w _ => some (n, ls, .inl (a : Int) :: st, h)
  | .ldc2_w _ => some (n, ls, .inr (.inl (Int64.ofInt ((a : Int) - b))) :: st, h)
  | .aconst_null => some (n, ls, .inr (.inr none) :: st, h)
  | .iload_n k => z_iload n (z_lg ls k) ls st h
  | .iload k => z_iload n (z_lg ls k) ls st h
  | .lload_n k => z_lload n (z_lg ls k) ls st h
  | .lload k => z_lload n (z_lg ls k) ls st h
  | .aload_n k => z_aload n (z_lg ls k) ls st h
  | .aload k => z_aload n (z_lg ls k) ls st h
  | .istore_n k => z_istore n k ls st h
  | .istore k => z_istore n k ls st h
  | .lstore_n k => z_lstore n k ls st h
  | .lstore k => z_lstore n k ls st h
  | .astore_n k => z_astore n k ls st h
  | .astore k => z_astore n k ls st h
  | .iinc k c => z_iinc n k c ls st h
  | .iadd => z_ari n (fun x y => x + y) ls st h
  | .isub => z_ari n (fun x y => x - y) ls st h
  | .imul => z_ari n (fun x y => x * y) ls st h
  | .idiv => z_div n (fun x y => x / y) ls st h
  | .irem => z_div n (fun x y => x % y) ls st h
  | .iand => z_iand n ls st h
  | .ior => z_ior n ls st h
  | .ishr => z_ishr n ls st h
  | .ladd => z_lll n (fun x y => x + y) ls st h
  | .lsub => z_lll n (fun x y => x - y) ls st h
  | .land => z_lll n (fun x y => x &&& y) ls st h
  | .lor => z_lll n (fun x y => x ||| y) ls st h
  | .lxor => z_lll n (fun x y => x ^^^ y) ls st h
  | .lshl => z_lsh n (fun x y => x <<< ((Int32.ofInt y).toInt64 &&& 63)) ls st h
  | .lushr => z_lsh n (fun x y => (x.toUInt64 >>> ((Int32.ofInt y).toInt64.toUInt64 &&& Int64.toUInt64 63)).toInt64) ls st h
  | .lneg => z_lneg n ls st h
  | .lcmp => z_lcmp n ls st h
  | .i2l => z_i2l n ls st h
  | .l2i => z_l2i n ls st h
  | .i2b => z_i2b n ls st h
  | .dup => z_dup n ls st h
  | .dup2 => z_dup2 n ls st h
  | .pop => z_pop n ls st h
  | .ifCond c _ => z_if n a c ls st h
  | .if_icmp c _ => z_icmp n a c ls st h
  | .ifnonnull _ => z_ifnn n a ls st h
  | .goto _ => some (a, ls, st, h)
  | .tableswitch d lo hi os => z_sw pc d lo hi os.toList ls st h
  | .getfield _ => z_getf n a b t ls st h
  | .putfield _ => z_putf n a b t ls st h
  | .getstatic _ => some (n, ls, .inr (.inr (some 1)) :: st, h)
  | .iaload => z_iald n ls st h
  | .laload => z_lald n ls st h
  | .aaload => z_aald n ls st h
  | .iastore => z_iast n ls st h
  | .lastore => z_last n ls st h
  | .aastore => z_aast n ls st h
  | .arraylength => z_alen n ls st h
  | .new _ => some (n, ls, .inr (.inr (some h.1.2.2.1)) :: st, z_born h (1, a) b)
  | .newarray _ => z_newa n a ls st h
  | .anewarray _ => z_newa n a ls st h
  | .invokespecial _ => z_oinit n ls st h
  | .invokestatic _ => z_copy n ls st h
  | .invokevirtual _ => z_clone n ls st h
  | .checkcast _ => z_ccast n ls st h
  | _ => none
/-- 0 a step, 1 a return, 2 a call -/
def z_kind (i : Instr) (a : Nat) : Nat := match i with
  | .ireturn => 1
  | .lreturn => 1
  | .areturn => 1
  | .return_ => 1
  | .invokevirtual _ => bif Nat.ble 9000 a then 0 else 2
  | .invokestatic _ => bif Nat.ble 9000 a then 0 else 2
  | .invokespecial _ => bif Nat.ble 9000 a then 0 else 2
  | _ => 0
def z_ret (i : Instr) (t : Nat) (st : List ZV) (h : ZH) : Option (Option ZV × ZH) := match i, st with
  | .ireturn, [.inl x] => bif Nat.beq t 0 || decide (x = 0) || decide (x = 1) then some (some (.inl x), h) else none
  | .lreturn, [.inr (.inl x)] => some (some (.inr (.inl x)), h)
  | .areturn, [.inr (.inr x)] => some (some (.inr (.inr x)), h)
  | .return_, [] => some (none, h)
  | _, _ => none
/-- may this call begin: the receiver is of the class; what stays on the stack is small -/
def z_cok (i : Instr) (b t : Nat) (st : List ZV) (h : ZH) : Bool := Nat.ble b st.length && Nat.ble ((st.drop b).map z_cat).sum 8 && (match i, (st.take b).reverse with
  | .invokevirtual _, .inr (.inr (some q)) :: _ => Nat.beq (h.1.1 q).1 1 && Nat.beq (h.1.1 q).2 t
  | .invokespecial _, .inr (.inr (some _)) :: _ => true
  | .invokestatic _, _ => true
  | _, _ => false)
def z_arg : List ZV → ZL
  | [] => []
  | .inr (.inl x) :: vs => some (.inr (.inl x)) :: none :: z_arg vs
  | v :: vs => some v :: z_arg vs
