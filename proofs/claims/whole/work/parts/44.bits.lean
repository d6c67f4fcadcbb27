/-! BITS -/
def zbit (w : Int64) (x : Nat) : Bool := w.toBitVec.getLsbD x
theorem z_lcmp_zero {x y : Int64} : z_lcmpv x y = 0 ↔ x = y := by
  unfold z_lcmpv
  by_cases h1 : y < x
  · rw [if_pos h1]
    refine ⟨fun h => by omega, fun h => ?_⟩
    rw [h] at h1
    exact absurd h1 (by simp)
  · rw [if_neg h1]
    by_cases h2 : x = y
    · rw [if_pos h2]; exact ⟨fun _ => h2, fun _ => rfl⟩
    · rw [if_neg h2]; exact ⟨fun h => by omega, fun h => absurd h h2⟩
theorem zbit_ext {a b : Int64} (h : ∀ x, x < 64 → zbit a x = zbit b x) : a = b := by
  refine Int64.toBitVec_inj.1 (BitVec.eq_of_getLsbD_eq (fun i hi => h i hi))
theorem zbit_and (a b : Int64) (x : Nat) : zbit (a &&& b) x = (zbit a x && zbit b x) := by
  unfold zbit
  rw [Int64.toBitVec_and, BitVec.getLsbD_and]
theorem zbit_or (a b : Int64) (x : Nat) : zbit (a ||| b) x = (zbit a x || zbit b x) := by
  unfold zbit
  rw [Int64.toBitVec_or, BitVec.getLsbD_or]
theorem zbit_xor (a b : Int64) (x : Nat) : zbit (a ^^^ b) x = (zbit a x != zbit b x) := by
  unfold zbit
  rw [Int64.toBitVec_xor, BitVec.getLsbD_xor]
theorem z_shr_amt : ∀ x : Nat, x < 64 → ((Int32.ofInt (x : Int)).toInt64.toUInt64 &&& Int64.toUInt64 63) = UInt64.ofNat x := by decide
theorem z_shl_amt : ∀ x : Nat, x < 64 → ((Int32.ofInt (x : Int)).toInt64 &&& 63) = Int64.ofNat x := by decide
theorem zbit_shr (w : Int64) (s x : Nat) (hs : s < 64) : zbit (w.toUInt64 >>> ((Int32.ofInt (s : Int)).toInt64.toUInt64 &&& Int64.toUInt64 63)).toInt64 x = zbit w (s + x) := by
  rw [z_shr_amt s hs]
  unfold zbit
  show ((w.toUInt64 >>> UInt64.ofNat s).toBitVec).getLsbD x = _
  rw [UInt64.toBitVec_shiftRight]
  have e : ((UInt64.ofNat s).toBitVec % 64).toNat = s := by
    simp
    omega
  rw [BitVec.ushiftRight_eq', e, BitVec.getLsbD_ushiftRight]
  rfl
theorem zbit_one (x : Nat) : zbit (Int64.ofNat 1) x = decide (x = 0) := by
  unfold zbit
  show (1#64).getLsbD x = _
  rw [BitVec.getLsbD_one]
  simp
theorem z_lb_bit (w : Int64) (x : Nat) (hx : x < 64) : z_lb w x = zbit w x := by
  unfold z_lb
  have e : ((w.toUInt64 >>> ((Int32.ofInt (x : Int)).toInt64.toUInt64 &&& Int64.toUInt64 63)).toInt64 &&& Int64.ofNat 1 = Int64.ofNat 1) ↔ zbit w x = true := by
    constructor
    · intro h
      have h1 := congrArg (fun a => zbit a 0) h
      rw [zbit_and, zbit_shr _ _ _ hx, zbit_one, Nat.add_zero] at h1
      simpa using h1
    · intro h
      refine zbit_ext (fun y _ => ?_)
      rw [zbit_and, zbit_shr _ _ _ hx, zbit_one]
      by_cases hy : y = 0
      · subst hy; simp [h]
      · simp [hy]
  rw [Bool.eq_iff_iff]
  rw [decide_eq_true_iff, z_lcmp_zero]
  exact e
theorem zbit_shl (w : Int64) (s x : Nat) (hs : s < 64) (hx : x < 64) : zbit (w <<< ((Int32.ofInt (s : Int)).toInt64 &&& 63)) x = (decide (s ≤ x) && zbit w (x - s)) := by
  rw [z_shl_amt s hs]
  unfold zbit
  rw [Int64.toBitVec_shiftLeft]
  have e : ((Int64.ofNat s).toBitVec.smod 64).toNat = s := by
    revert s
    decide
  rw [BitVec.shiftLeft_eq', e, BitVec.getLsbD_shiftLeft]
  by_cases h : s ≤ x
  · simp [hx, h]
  · simp [hx, h]
