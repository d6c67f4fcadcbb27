/-! THE SEARCHES, reckoned out -/
def z_emp {α : Type} : List α → Bool
  | [] => true
  | _ :: _ => false
def z_nem {α : Type} : List α → Bool
  | [] => false
  | _ :: _ => true
/-- all of n numbers from y on -/
def z_al (p : Nat → Bool) : Nat → Nat → Bool
  | 0, _ => true
  | n + 1, y => p y && z_fc (y + 1) (fun z => z_al p n z)
theorem z_al_iff {p : Nat → Bool} : ∀ (n y : Nat), z_al p n y = true → ∀ j, y ≤ j → j < y + n → p j = true
  | 0, y, _, j, h1, h2 => by omega
  | n + 1, y, h, j, h1, h2 => by
    unfold z_al at h
    rw [z_fc_eq, Bool.and_eq_true] at h
    by_cases hj : j = y
    · rw [hj]; exact h.1
    · exact z_al_iff n (y + 1) h.2 j (by omega) (by omega)
theorem z_sp_ev : z_al (fun m => z_al (fun n => z_emp (z_spb m n)) (z_sbl m - m * (m - 1) / 2) (m * (m - 1) / 2) && z_nem (z_spb m (z_sbl m)) && Nat.ble (z_spb m (z_sbl m)).length 512 && (z_spb m (z_sbl m)).all (fun w => w.testBit (z_sbl m))) 7 1 = true := by decide +kernel
def z_lck (n : Nat) : Bool := z_al (fun m => z_emp (z_cp n m (m - 2) (1 ||| 1 <<< n) 0 1 (1 <<< n))) (z_lfw n - 2) 2 && z_nem (z_cp n (z_lfw n) (z_lfw n - 2) (1 ||| 1 <<< n) 0 1 (1 <<< n)) && Nat.ble (z_cp n (z_lfw n) (z_lfw n - 2) (1 ||| 1 <<< n) 0 1 (1 <<< n)).length 512
theorem z_le_ev1 : z_al z_lck 18 1 = true := by decide +kernel
theorem z_le_ev2 : z_al z_lck 5 19 = true := by decide +kernel
theorem z_le_ev3 : z_lck 24 = true := by decide +kernel
