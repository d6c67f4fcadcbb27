/-! EACH INSTRUCTION of the pure tables is the one that the bytes have, and its links are among the words -/
def z_fok (o j a b t : Nat) : Bool := (z_FL.any (fun q => Nat.beq q.1 o && Nat.beq q.2.1 j && Nat.beq q.2.2.1 a && Nat.beq q.2.2.2.1 b) || z_FN.any (fun q => Nat.beq q.1 o && Nat.beq q.2.1 j && Nat.beq q.2.2.1 a && Nat.beq q.2.2.2.1 b)) && Nat.ble (a + 1) 13 && Nat.ble (b + 1) (z_N a) && Nat.beq (z_ft (z_ty a b)) t && Nat.ble t 2
def z_pok (M o j a b t : Nat) : Bool := bif (z_T a b).2.2.2 then Nat.beq o a && decide ((z_y M).name = "<init>") && z_FL.any (fun q => Nat.beq q.1 o && Nat.beq q.2.1 j && Nat.beq q.2.2.1 a && Nat.beq q.2.2.2.1 b) else Nat.beq t t
def z_mok (o j a b t : Nat) (kd : Nat) : Bool := (z_ML.any (fun q => Nat.beq q.1 o && Nat.beq q.2.1 j && Nat.beq q.2.2.1 a) || z_MN.any (fun q => Nat.beq q.1 o && Nat.beq q.2.1 j && Nat.beq q.2.2.1 a)) && z_MW.any (fun q => Nat.beq q.1 a && Nat.beq q.2.1 kd) && Nat.beq (z_cl a) t && Nat.beq (z_na a) b && decide ((parseMethodDescriptor (z_y a).desc).map (fun d => d.parameters.length) = some (bif Nat.beq kd 0 then b else b - 1)) && (bif Nat.beq kd 0 then true else Nat.ble 1 b)
/-- an instruction's length; 0 for a switch -/
def z_il : Instr → Nat
  | .bipush _ => 2
  | .iload _ => 2
  | .lload _ => 2
  | .aload _ => 2
  | .istore _ => 2
  | .lstore _ => 2
  | .astore _ => 2
  | .ldc _ => 2
  | .newarray _ => 2
  | .sipush _ => 3
  | .ldc_w _ => 3
  | .ldc2_w _ => 3
  | .iinc _ _ => 3
  | .ifCond _ _ => 3
  | .if_icmp _ _ => 3
  | .goto _ => 3
  | .ifnonnull _ => 3
  | .getfield _ => 3
  | .putfield _ => 3
  | .getstatic _ => 3
  | .new _ => 3
  | .anewarray _ => 3
  | .checkcast _ => 3
  | .invokevirtual _ => 3
  | .invokestatic _ => 3
  | .invokespecial _ => 3
  | .tableswitch _ _ _ _ => 0
  | _ => 1
def z_chk3 (M pc : Nat) (i : Instr) (a b t n : Nat) : Bool := match i with
  | .iconst c => z_inb c
  | .bipush c => decide ((Int8.ofInt c).toInt32 = Int32.ofInt c) && z_inb c
  | .sipush c => decide ((Int16.ofInt c).toInt32 = Int32.ofInt c) && z_inb c
  | .ldc j => z_KI.any (fun q => Nat.beq q.1 (z_cl M) && Nat.beq q.2.1 j && Nat.beq q.2.2.1 a) && Nat.ble a 100000
  | .ldc_w j => z_KI.any (fun q => Nat.beq q.1 (z_cl M) && Nat.beq q.2.1 j && Nat.beq q.2.2.1 a) && Nat.ble a 100000
  | .ldc2_w j => z_KL.any (fun q => Nat.beq q.1 (z_cl M) && Nat.beq q.2.1 j && Nat.beq q.2.2.1 a && Nat.beq q.2.2.2.1 b)
  | .ifCond _ o => decide ((pc : Int) + o = (a : Int))
  | .if_icmp _ o => decide ((pc : Int) + o = (a : Int))
  | .goto o => decide ((pc : Int) + o = (a : Int))
  | .ifnonnull o => decide ((pc : Int) + o = (a : Int))
  | .tableswitch d lo hi os => decide (0 ≤ (pc : Int) + d) && os.toList.all (fun o => decide (0 ≤ (pc : Int) + o)) && decide ((os.toList.length : Int) = hi - lo + 1)
  | .getfield j => z_fok (z_cl M) j a b t
  | .putfield j => z_fok (z_cl M) j a b t && z_pok M (z_cl M) j a b t
  | .getstatic j => Nat.beq j 304 && Nat.beq (z_cl M) 11
  | .new j => z_CL.any (fun q => Nat.beq q.1 (z_cl M) && Nat.beq q.2.1 j && Nat.beq q.2.2.1 a) && Nat.ble (a + 1) 13 && Nat.beq b (z_N a)
  | .newarray ty => (decide (ty = .int) && Nat.beq a 2) || (decide (ty = .long) && Nat.beq a 3)
  | .anewarray j => z_CA.any (fun q => Nat.beq q.1 (z_cl M) && Nat.beq q.2.1 j && Nat.beq q.2.2.1 a) && Nat.ble 4 a && Nat.ble a 6
  | .checkcast j => z_CA.any (fun q => Nat.beq q.1 (z_cl M) && Nat.beq q.2.1 j && Nat.beq q.2.2.1 6)
  | .invokevirtual j => bif Nat.ble 9000 a then z_CO.any (fun q => Nat.beq q.1 (z_cl M) && Nat.beq q.2.1 j) else z_mok (z_cl M) j a b t 2
  | .invokestatic j => bif Nat.ble 9000 a then z_AC.any (fun q => Nat.beq q.1 (z_cl M) && Nat.beq q.2.1 j) else z_mok (z_cl M) j a b t 0
  | .invokespecial j => bif Nat.ble 9000 a then z_OI.any (fun q => Nat.beq q.1 (z_cl M) && Nat.beq q.2.1 j) else z_mok (z_cl M) j a b t 1
  | .ireturn => (decide (z_rt M = some .int) && Nat.beq t 0) || (decide (z_rt M = some .boolean) && Nat.beq t 1)
  | .lreturn => decide (z_rt M = some .long)
  | .areturn => (match z_rt M with | some (.object _) => true | some (.array _) => true | _ => false)
  | .return_ => decide (z_rt M = none)
  | _ => true
def z_chk (M pc : Nat) (i : Instr) (a b t n : Nat) : Bool := decide (decode (z_b M) pc = .ok (i, n - pc)) && (Nat.beq n (pc + z_il i) || Nat.beq (z_il i) 0) && z_chk3 M pc i a b t n
def z_chk1 (M pc : Nat) : Bool := match z_tb M pc with
  | none => true
  | some (i, a, b, t, n) => z_chk M pc i a b t n
def z_chkm (M : Nat) : Bool := (List.range (z_len M)).all (z_chk1 M)
theorem z_chk_d {M pc : Nat} {i : Instr} {a b t n : Nat} (h : z_chk M pc i a b t n = true) (hi : Nat.beq (z_il i) 0 = false) : decode (z_b M) pc = .ok (i, z_il i) ∧ n = pc + z_il i := by
  unfold z_chk at h
  simp only [Bool.and_eq_true, decide_eq_true_eq, hi, Bool.or_false] at h
  have e := Nat.eq_of_beq_eq_true h.1.2
  refine ⟨?_, e⟩
  rw [h.1.1, e]
  congr 2
  omega
theorem z_chk_3 {M pc : Nat} {i : Instr} {a b t n : Nat} (h : z_chk M pc i a b t n = true) : z_chk3 M pc i a b t n = true := by
  unfold z_chk at h
  simp only [Bool.and_eq_true] at h
  exact h.2
