/-! FULL RULERS: ways that are left out come to nothing -/
theorem z_or_mod (a b : Nat) : (a ||| b) % 2 ≤ a % 2 + b % 2 := by
  have h := Nat.or_mod_two_eq_one (a := a) (b := b)
  rcases Nat.mod_two_eq_zero_or_one (a ||| b) with h1 | h1
  · omega
  · rcases h.1 h1 with h2 | h2 <;> omega
theorem z_pc_or : ∀ (f a b : Nat), z_pc f (a ||| b) ≤ z_pc f a + z_pc f b
  | 0, _, _ => Nat.le_refl _
  | f + 1, a, b => by
    rw [z_pc_succ, z_pc_succ, z_pc_succ, Nat.or_div_two]
    have h1 := z_or_mod a b
    have h2 := z_pc_or f (a / 2) (b / 2)
    omega
theorem z_pc_mono : ∀ (f m : Nat), z_pc f m ≤ z_pc (f + 1) m
  | 0, _ => Nat.zero_le _
  | f + 1, m => by
    rw [z_pc_succ, z_pc_succ (f + 1)]
    have := z_pc_mono f (m / 2)
    omega
theorem z_pc_dbl (f m : Nat) : z_pc f (m * 2) ≤ z_pc f m := by
  cases f with
  | zero => exact Nat.le_refl _
  | succ f =>
    have := z_pc_mono f m
    rw [z_pc_succ, show m * 2 % 2 = 0 by omega, show m * 2 / 2 = m by omega]
    omega
theorem z_pc_shl (f a : Nat) : ∀ s : Nat, z_pc f (a <<< s) ≤ z_pc f a
  | 0 => Nat.le_refl _
  | s + 1 => by
    have h1 := z_pc_shl f a s
    have h2 := z_pc_dbl f (a <<< s)
    have e : a <<< (s + 1) = a <<< s * 2 := by rw [Nat.shiftLeft_eq, Nat.shiftLeft_eq, Nat.pow_succ, Nat.mul_assoc]
    rw [e]
    omega
theorem z_pc_zero : ∀ f : Nat, z_pc f 0 = 0
  | 0 => rfl
  | f + 1 => by rw [z_pc_succ, Nat.zero_div, z_pc_zero f]
theorem z_pc_one (f s : Nat) : z_pc f (1 <<< s) ≤ 1 := by
  refine Nat.le_trans (z_pc_shl f 1 s) ?_
  cases f with
  | zero => exact Nat.zero_le _
  | succ f => rw [z_pc_succ, show 1 / 2 = 0 by decide, z_pc_zero]; exact Nat.le_refl _
theorem z_pc_split : ∀ (a b m : Nat), z_pc (a + b) m = z_pc a m + z_pc b (m / 2 ^ a)
  | 0, b, m => by rw [Nat.zero_add, Nat.pow_zero, Nat.div_one, show z_pc 0 m = 0 from rfl, Nat.zero_add]
  | a + 1, b, m => by
    rw [show a + 1 + b = a + b + 1 by omega, z_pc_succ, z_pc_succ, z_pc_split a b (m / 2), Nat.div_div_eq_div_mul, Nat.pow_succ, Nat.mul_comm 2]
    omega
theorem z_pc_all : ∀ (f m : Nat), z_pc f m ≤ f ∧ (z_pc f m = f ↔ ∀ i, i < f → m.testBit i = true)
  | 0, m => ⟨Nat.le_refl _, fun _ i hi => by omega, fun _ => rfl⟩
  | f + 1, m => by
    obtain ⟨h1, h2⟩ := z_pc_all f (m / 2)
    rw [z_pc_succ]
    refine ⟨by omega, fun h i hi => ?_, fun h => ?_⟩
    · cases i with
      | zero => rw [Nat.testBit_zero, decide_eq_true_iff]; omega
      | succ i => rw [Nat.testBit_succ]; exact h2.1 (by omega) i (by omega)
    · have a := h 0 (by omega)
      rw [Nat.testBit_zero, decide_eq_true_iff] at a
      have b := h2.2 (fun i hi => by rw [← Nat.testBit_succ]; exact h (i + 1) (by omega))
      omega
theorem z_full {n m : Nat} (hm : m < 2 ^ (n + 1)) (h0 : m.testBit 0 = false) (hn : n ≤ 63) : n ≤ z_pc 64 m ↔ ∀ d, 1 ≤ d → d ≤ n → m.testBit d = true := by
  have e0 : m % 2 = 0 := Nat.mod_two_eq_zero_iff_testBit_zero.2 h0
  have e1 : z_pc 64 m = z_pc n (m / 2) := by
    have hd : m / 2 / 2 ^ n = 0 := Nat.div_eq_of_lt (by rw [Nat.pow_succ] at hm; omega)
    rw [show (64 : Nat) = n + (63 - n) + 1 by omega, z_pc_succ, e0, Nat.zero_add, z_pc_split, hd, z_pc_zero, Nat.add_zero]
  obtain ⟨a1, a2⟩ := z_pc_all n (m / 2)
  rw [e1]
  constructor
  · intro h d h1 h2
    have := a2.1 (by omega) (d - 1) (by omega)
    rw [← Nat.testBit_succ, show (d - 1).succ = d by omega] at this
    exact this
  · intro h
    exact Nat.le_of_eq (a2.2 (fun i hi => by rw [← Nat.testBit_succ]; exact h (i + 1) (by omega) (by omega))).symm
/-- 0 + 1 + .. -/
def z_tri : Nat → Nat
  | 0 => 0
  | l + 1 => l + z_tri l
theorem z_tri_succ (l : Nat) : z_tri (l + 1) = l + z_tri l := rfl
theorem z_tri_mul : ∀ m : Nat, m * (m - 1) = 2 * z_tri m
  | 0 => rfl
  | l + 1 => by
    have h := z_tri_mul l
    unfold z_tri
    rw [Nat.mul_add, ← h, show l + 1 - 1 = l by omega, Nat.add_mul, Nat.one_mul, Nat.mul_sub, Nat.mul_one]
    have : l ≤ l * l := by
      cases l with
      | zero => exact Nat.le_refl _
      | succ l => exact Nat.le_mul_of_pos_left _ (by omega)
    omega
theorem z_tri_add (s : Nat) : ∀ l : Nat, z_tri (s + l) = z_tri s + l * s + z_tri l
  | 0 => by simp [z_tri]
  | l + 1 => by
    have h := z_tri_add s l
    rw [show s + (l + 1) = s + l + 1 by omega, z_tri_succ, z_tri_succ, h, Nat.add_mul, Nat.one_mul]
    omega
theorem z_cv_succ (n left mask last back meas : Nat) : z_cv n (left + 1) mask last back meas = z_fl (fun y => z_cv n left (mask ||| 1 <<< y) y ((back <<< (y - last)) ||| 1) (meas ||| (back <<< (y - last)) ||| 1 <<< (n - y))) (n - (left + 1) - last) (last + 1) := rfl
/-- too few lengths can come -/
theorem z_cv_nil {n : Nat} : ∀ (left mask last back meas s : Nat), z_pc 64 back + 1 ≤ s → z_pc 64 meas + (left * s + z_tri left) < n → z_cv n left mask last back meas = []
  | 0, mask, last, back, meas, s, h1, h2 => by
    show (bif Nat.ble n (z_pc 64 meas) && z_own mask n then [mask] else []) = []
    have : Nat.ble n (z_pc 64 meas) = false := by
      rw [Bool.eq_false_iff]
      intro h
      have := Nat.le_of_ble_eq_true h
      unfold z_tri at h2
      omega
    rw [this, Bool.false_and, cond_false]
  | left + 1, mask, last, back, meas, s, h1, h2 => by
    rw [z_cv_succ]
    refine z_fl_nil _ _ (fun y _ _ => ?_)
    have a1 := z_pc_shl 64 back (y - last)
    have a2 := z_pc_or 64 (back <<< (y - last)) 1
    have a3 := z_pc_one 64 0
    have a4 := z_pc_one 64 (n - y)
    have a5 := z_pc_or 64 (meas ||| back <<< (y - last)) (1 <<< (n - y))
    have a6 := z_pc_or 64 meas (back <<< (y - last))
    rw [show (1 <<< 0 : Nat) = 1 from rfl] at a3
    refine z_cv_nil left _ y _ _ (s + 1) (by omega) ?_
    unfold z_tri at h2
    rw [Nat.add_mul, Nat.one_mul] at h2
    rw [Nat.mul_add, Nat.mul_one]
    omega
/-- what a state says of its mask -/
def ZCv (n mask last back meas : Nat) : Prop := mask < 2 ^ (n + 1) ∧ mask.testBit 0 = true ∧ mask.testBit n = true ∧ (∀ x, last < x → x < n → mask.testBit x = false) ∧ (∀ d, back.testBit d = true → d ≤ last ∧ mask.testBit (last - d) = true) ∧ (∀ d, meas.testBit d = true → 1 ≤ d ∧ ∃ x, mask.testBit x = true ∧ mask.testBit (x + d) = true) ∧ meas < 2 ^ (n + 1)
theorem z_tb_or1 {m y x : Nat} (h : m.testBit x = true) : (m ||| 1 <<< y).testBit x = true := by rw [Nat.testBit_or, h, Bool.true_or]
theorem z_tb_orn {m y x : Nat} (h : x ≠ y) : (m ||| 1 <<< y).testBit x = m.testBit x := by rw [Nat.testBit_or, z_tb_one, decide_eq_false h, Bool.or_false]
theorem z_tb_ors (m y : Nat) : (m ||| 1 <<< y).testBit y = true := by rw [Nat.testBit_or, z_tb_one, decide_eq_true rfl, Bool.or_true]
theorem ZCv.add {n mask last back meas y : Nat} (h : ZCv n mask last back meas) (h1 : last < y) (h2 : y < n) : ZCv n (mask ||| 1 <<< y) y ((back <<< (y - last)) ||| 1) (meas ||| (back <<< (y - last)) ||| 1 <<< (n - y)) := by
  obtain ⟨a1, a2, a3, a4, a5, a6, a7⟩ := h
  have sh : ∀ d, (back <<< (y - last)).testBit d = true → 1 ≤ d ∧ d ≤ y ∧ (mask ||| 1 <<< y).testBit (y - d) = true := by
    intro d q
    rw [Nat.testBit_shiftLeft, Bool.and_eq_true, decide_eq_true_iff] at q
    obtain ⟨b1, b2⟩ := a5 _ q.2
    refine ⟨by omega, by omega, z_tb_or1 ?_⟩
    rw [show y - d = last - (d - (y - last)) by omega]
    exact b2
  have bl : back < 2 ^ (last + 1) := Nat.lt_pow_two_of_testBit _ (fun i hi => by
    cases hb : back.testBit i with
    | false => rfl
    | true => have := (a5 i hb).1; omega)
  refine ⟨z_or_lt a1 (z_one_lt (by omega)), z_tb_or1 a2, z_tb_or1 a3, fun x q1 q2 => ?_, fun d q => ?_, fun d q => ?_, ?_⟩
  · rw [z_tb_orn (by omega)]; exact a4 x (by omega) q2
  · rw [Nat.testBit_or, Bool.or_eq_true] at q
    rcases q with q | q
    · exact ⟨(sh d q).2.1, (sh d q).2.2⟩
    · have := Nat.testBit_one_eq_true_iff_self_eq_zero.1 q
      rw [this]
      exact ⟨by omega, z_tb_ors _ _⟩
  · rw [Nat.testBit_or, Nat.testBit_or, Bool.or_eq_true, Bool.or_eq_true] at q
    rcases q with (q | q) | q
    · obtain ⟨b1, x, b2, b3⟩ := a6 d q
      exact ⟨b1, x, z_tb_or1 b2, z_tb_or1 b3⟩
    · obtain ⟨b1, b2, b3⟩ := sh d q
      exact ⟨b1, y - d, b3, by rw [show y - d + d = y by omega]; exact z_tb_ors _ _⟩
    · rw [z_tb_one, decide_eq_true_iff] at q
      exact ⟨by omega, y, z_tb_ors _ _, by rw [q, show y + (n - y) = n by omega]; exact z_tb_or1 a3⟩
  · exact z_or_lt (z_or_lt a7 (z_shl_lt bl (by omega))) (z_one_lt (by omega))
theorem ZCv.zero {n mask last back meas : Nat} (h : ZCv n mask last back meas) : meas.testBit 0 = false := by
  cases q : meas.testBit 0 with
  | false => rfl
  | true => have := (h.2.2.2.2.2.1 0 q).1; omega
/-- without mark 1 no full ruler is its own form -/
theorem z_cv_no1 {n : Nat} (hn : 1 ≤ n ∧ n ≤ 63) : ∀ (left mask last back meas : Nat), ZCv n mask last back meas → 1 ≤ last → mask.testBit 1 = false → z_cv n left mask last back meas = []
  | 0, mask, last, back, meas, h, _, hm => by
    show (bif Nat.ble n (z_pc 64 meas) && z_own mask n then [mask] else []) = []
    cases hb : Nat.ble n (z_pc 64 meas) with
    | false => rw [Bool.false_and, cond_false]
    | true =>
      have hall := (z_full h.2.2.2.2.2.2 h.zero hn.2).1 (Nat.le_of_ble_eq_true hb)
      have hn1 : 2 ≤ n := by
        refine Nat.le_of_not_lt (fun q => ?_)
        have : n = 1 := by omega
        rw [this] at h
        rw [h.2.2.1] at hm
        cases hm
      obtain ⟨_, x, b2, b3⟩ := h.2.2.2.2.2.1 (n - 1) (hall (n - 1) (by omega) (by omega))
      have hx : x = 0 := by
        refine Classical.byContradiction (fun hx => ?_)
        by_cases hx1 : x = 1
        · rw [hx1, hm] at b2; cases b2
        · rw [z_tb_far (n + 1) h.1 (by omega)] at b3; cases b3
      rw [hx, Nat.zero_add] at b3
      cases ho : z_own mask n with
      | false => rfl
      | true =>
        have := (z_ow_iff (n + 1) 0).1 ho 1 (by omega) (by omega) (by rw [hm, b3]; decide) (fun y q1 q2 => by rw [show y = 0 by omega, h.2.1, show n - 0 = n by omega, h.2.2.1])
        rw [hm] at this
        cases this
  | left + 1, mask, last, back, meas, h, hl, hm => by
    rw [z_cv_succ]
    refine z_fl_nil _ _ (fun y h1 h2 => ?_)
    exact z_cv_no1 hn left _ y _ _ (h.add (by omega) (by omega)) (by omega) (by rw [z_tb_orn (by omega)]; exact hm)
theorem z_cp_succ (n m left mask last back meas : Nat) : z_cp n m (left + 1) mask last back meas = bif Nat.ble n (z_bc meas + (m * (m - 1) - (m - (left + 1)) * (m - (left + 1) - 1)) / 2) then z_fl (fun y => z_cp n m left (mask ||| 1 <<< y) y ((back <<< (y - last)) ||| 1) (meas ||| (back <<< (y - last)) ||| 1 <<< (n - y))) (bif Nat.beq last 0 then 1 else n - (left + 1) - last) (last + 1) else [] := by
  show (bif _ then z_fl _ _ _ else []) = _
  simp only [z_fc_eq]
/-- the class's way and all ways come to the same -/
theorem z_cp_cv {n m : Nat} (hn : 1 ≤ n ∧ n ≤ 60) : ∀ (left mask last back meas : Nat), left + 2 ≤ m → ZCv n mask last back meas → (last = 0 → left + 1 ≤ n ∧ mask.testBit 1 = decide (n = 1)) → z_pc 64 back + 1 ≤ m - left → z_cp n m left mask last back meas = z_cv n left mask last back meas
  | 0, mask, last, back, meas, _, h, _, _ => by
    show (bif Nat.ble n (z_bc meas) then (bif z_own mask n then [mask] else []) else []) = (bif Nat.ble n (z_pc 64 meas) && z_own mask n then [mask] else [])
    rw [(z_bc_pc (z_up_lt h.2.2.2.2.2.2 (show n + 1 ≤ 64 by omega))).1]
    cases Nat.ble n (z_pc 64 meas) <;> cases z_own mask n <;> rfl
  | left + 1, mask, last, back, meas, hm, h, h0, hp => by
    rw [z_cp_succ, (z_bc_pc (z_up_lt h.2.2.2.2.2.2 (show n + 1 ≤ 64 by omega))).1]
    have et : (m * (m - 1) - (m - (left + 1)) * (m - (left + 1) - 1)) / 2 = (left + 1) * (m - (left + 1)) + z_tri (left + 1) := by
      rw [z_tri_mul, z_tri_mul, show z_tri m = z_tri (m - (left + 1) + (left + 1)) by rw [show m - (left + 1) + (left + 1) = m by omega], z_tri_add]
      omega
    rw [et]
    cases hb : Nat.ble n (z_pc 64 meas + ((left + 1) * (m - (left + 1)) + z_tri (left + 1))) with
    | false =>
      rw [cond_false]
      refine (z_cv_nil (left + 1) mask last back meas (m - (left + 1)) (by omega) ?_).symm
      refine Nat.lt_of_not_le (fun q => ?_)
      rw [Nat.ble_eq_true_of_le q] at hb
      cases hb
    | true =>
      rw [cond_true, z_cv_succ]
      have step : ∀ y, last + 1 ≤ y → y < n → z_cp n m left (mask ||| 1 <<< y) y ((back <<< (y - last)) ||| 1) (meas ||| (back <<< (y - last)) ||| 1 <<< (n - y)) = z_cv n left (mask ||| 1 <<< y) y ((back <<< (y - last)) ||| 1) (meas ||| (back <<< (y - last)) ||| 1 <<< (n - y)) := by
        intro y h1 h2
        have a1 := z_pc_shl 64 back (y - last)
        have a2 := z_pc_or 64 (back <<< (y - last)) 1
        have a3 := z_pc_one 64 0
        rw [show (1 <<< 0 : Nat) = 1 from rfl] at a3
        exact z_cp_cv hn left _ y _ _ (by omega) (h.add (by omega) (by omega)) (fun q => by omega) (by omega)
      by_cases hl : last = 0
      · rw [show Nat.beq last 0 = true by rw [hl]; rfl, cond_true]
        obtain ⟨q1, q2⟩ := h0 hl
        have e : n - (left + 1) - last = 1 + (n - (left + 1) - last - 1) := by omega
        rw [e, z_fl_add, z_fl_nil (n - (left + 1) - last - 1), List.append_nil]
        · exact z_fl_cong _ _ (fun y h1 h2 => step y h1 (by omega))
        · intro y h1 h2
          refine z_cv_no1 (by omega) left _ y _ _ (h.add (by omega) (by omega)) (by omega) ?_
          rw [z_tb_orn (by omega), q2, decide_eq_false (by omega)]
      · rw [show Nat.beq last 0 = false from Bool.eq_false_iff.2 (fun q => hl (Nat.eq_of_beq_eq_true q)), cond_false]
        exact z_fl_cong _ _ (fun y h1 h2 => step y h1 (by omega))
theorem z_cv0 {n : Nat} (hn : 1 ≤ n) : ZCv n (1 ||| 1 <<< n) 0 1 (1 <<< n) := by
  refine ⟨z_or_lt (z_up_lt (n := 1) (by decide) (by omega)) (z_one_lt (by omega)), z_tb_or1 rfl, z_tb_ors _ _, fun x h1 h2 => ?_, fun d q => ?_, fun d q => ?_, z_one_lt (by omega)⟩
  · rw [z_tb_orn (by omega)]
    exact z_tb_far 1 (by decide) (by omega)
  · have := Nat.testBit_one_eq_true_iff_self_eq_zero.1 q
    rw [this]
    exact ⟨by omega, z_tb_or1 rfl⟩
  · rw [z_tb_one, decide_eq_true_iff] at q
    exact ⟨by omega, 0, z_tb_or1 rfl, by rw [q, Nat.zero_add]; exact z_tb_ors _ _⟩
theorem z_lnm_cp {n m : Nat} (hn : 1 ≤ n ∧ n ≤ 60) (hm : 2 ≤ m ∧ m ≤ n + 1) : z_cp n m (m - 2) (1 ||| 1 <<< n) 0 1 (1 <<< n) = z_lnm n m := by
  refine z_cp_cv hn (m - 2) _ 0 1 _ (by omega) (z_cv0 hn.1) (fun _ => ⟨by omega, ?_⟩) ?_
  · rw [Nat.testBit_or, z_tb_one, z_tb_far 1 (by decide) (by omega), Bool.false_or]
    exact decide_eq_decide.2 ⟨fun h => h.symm, fun h => h.symm⟩
  · have := z_pc_one 64 0
    rw [show (1 <<< 0 : Nat) = 1 from rfl] at this
    omega
theorem z_le_facts {n : Nat} (hn : 1 ≤ n ∧ n ≤ 24) : (2 ≤ z_lfw n ∧ z_lfw n ≤ n + 1 ∧ z_lfw n ≤ 9) ∧ (∀ m, 2 ≤ m → m < z_lfw n → z_lnm n m = []) ∧ z_lnm n (z_lfw n) ≠ [] ∧ (z_lnm n (z_lfw n)).length ≤ 512 := by
  have hb : 2 ≤ z_lfw n ∧ z_lfw n ≤ n + 1 ∧ z_lfw n ≤ 9 := by
    have : ∀ n, n < 25 → 1 ≤ n → 2 ≤ z_lfw n ∧ z_lfw n ≤ n + 1 ∧ z_lfw n ≤ 9 := by decide
    exact this n (by omega) hn.1
  have e : z_lck n = true := by
    by_cases h1 : n ≤ 18
    · exact z_al_iff 18 1 z_le_ev1 n (by omega) (by omega)
    · by_cases h2 : n ≤ 23
      · exact z_al_iff 5 19 z_le_ev2 n (by omega) (by omega)
      · rw [show n = 24 by omega]; exact z_le_ev3
  unfold z_lck at e
  simp only [Bool.and_eq_true] at e
  obtain ⟨⟨e1, e2⟩, e3⟩ := e
  rw [z_lnm_cp (by omega) (by omega)] at e2 e3
  refine ⟨hb, fun m h1 h2 => ?_, fun q => ?_, Nat.le_of_ble_eq_true e3⟩
  · have q := z_al_iff _ _ e1 m h1 (by omega)
    rw [z_lnm_cp (by omega) (by omega)] at q
    cases hz : z_lnm n m with
    | nil => rfl
    | cons x t => rw [hz] at q; cases q
  · rw [q] at e2; cases e2
theorem z_cv_gd {n : Nat} : ∀ (left mask last back meas c r : Nat), ZCv n mask last back meas → ZGd (n + 1) c mask → r ∈ z_cv n left mask last back meas → ZGd (n + 1) (c + left) r
  | 0, mask, last, back, meas, c, r, _, hg, hr => by
    have hr : r ∈ (bif Nat.ble n (z_pc 64 meas) && z_own mask n then [mask] else []) := hr
    cases ho : (Nat.ble n (z_pc 64 meas) && z_own mask n) with
    | false => rw [ho] at hr; cases hr
    | true =>
      rw [ho, cond_true, List.mem_singleton] at hr
      rw [hr]
      exact hg
  | left + 1, mask, last, back, meas, c, r, h, hg, hr => by
    rw [z_cv_succ] at hr
    obtain ⟨y, h1, h2, h3⟩ := z_fl_mem _ _ hr
    have a := hg.add (h.2.2.2.1 y (by omega) (by omega)) (by omega)
    have := z_cv_gd left _ y _ _ (c + 1) r (h.add (by omega) (by omega)) a h3
    rw [show c + (left + 1) = c + 1 + left by omega]
    exact this
theorem z_lnm_gd {n m r : Nat} (hn : 1 ≤ n) (hm : 2 ≤ m) (hr : r ∈ z_lnm n m) : ZGd (n + 1) m r := by
  have h1 : ZGd (n + 1) 1 1 := ⟨z_up_lt (n := 1) (by decide) (by omega), rfl, _, ZMR.one⟩
  have := z_cv_gd (m - 2) _ 0 1 _ 2 r (z_cv0 hn) (h1.add (z_tb_far 1 (by decide) (by omega)) (by omega)) hr
  rw [show 2 + (m - 2) = m by omega] at this
  exact this
/-- a mask's marks are its bits -/
theorem z_rdm_pc (w : Nat) : ∀ (n : Nat) (f : Nat → Int) (m x : Nat), x + n ≤ 64 → (z_rdm (z_lb (Int64.ofNat w)) f m x n).2 = m + z_pc n (w / 2 ^ x)
  | 0, f, m, x, _ => rfl
  | n + 1, f, m, x, h => by
    unfold z_rdm
    rw [z_lb_bit _ _ (by omega), zbit_ofNat _ _ (by omega), z_pc_succ, Nat.div_div_eq_div_mul, show 2 ^ x * 2 = 2 ^ (x + 1) from (Nat.pow_succ 2 x).symm, Nat.testBit_eq_decide_div_mod_eq]
    by_cases hb : w / 2 ^ x % 2 = 1
    · rw [if_pos (by simp [hb]), z_rdm_pc w n _ (m + 1) (x + 1) (by omega)]
      omega
    · rw [if_neg (by simp [hb]), z_rdm_pc w n f m (x + 1) (by omega)]
      omega
theorem ZGd.pc {n c m : Nat} (h : ZGd n c m) (hn : n ≤ 64) : z_pc 64 m = c := by
  rw [← (h.row hn).1]
  unfold z_row
  rw [z_rdm_pc _ _ _ _ _ (by omega), Nat.pow_zero, Nat.div_one, Nat.zero_add]
