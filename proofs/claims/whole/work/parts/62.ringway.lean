/-! RINGS: ways that are left out come to nothing -/
theorem z_bef_succ {f g : Nat → Int} (n i : Nat) : z_bef f g (n + 1) i = if f i = g i then z_bef f g n (i + 1) else decide (f i < g i) := rfl
/-- of two rows the first one has the least mark that is not in both -/
theorem z_lex {f g : Nat → Int} {c : Nat} (hf : ZRise f c) (hg : ZRise g c) : ∀ (n i : Nat), i + n = c → (∀ j, j < i → f j = g j) → z_bef f g n i = true → ∃ z, ZMem f c z ∧ ¬ ZMem g c z ∧ ∀ z', z' < z → (ZMem f c z' ↔ ZMem g c z')
  | 0, i, _, _, h => by cases h
  | n + 1, i, hc, he, h => by
    rw [z_bef_succ] at h
    by_cases q : f i = g i
    · rw [if_pos q] at h
      exact z_lex hf hg n (i + 1) (by omega) (fun j hj => by
        by_cases hji : j = i
        · rw [hji]; exact q
        · exact he j (by omega)) h
    · rw [if_neg q, decide_eq_true_iff] at h
      refine ⟨f i, ⟨i, by omega, rfl⟩, ?_, fun z' hz => ?_⟩
      · rintro ⟨j, hj, e⟩
        by_cases hji : j < i
        · have := he j hji
          have := hf j i hji (by omega)
          omega
        · have := hg.le (show i ≤ j by omega) hj
          omega
      · constructor
        · rintro ⟨j, hj, e⟩
          have hji : j < i := by
            refine Nat.lt_of_not_le (fun q => ?_)
            have := hf.le q hj
            omega
          exact ⟨j, hj, by rw [← he j hji]; exact e⟩
        · rintro ⟨j, hj, e⟩
          have hji : j < i := by
            refine Nat.lt_of_not_le (fun q => ?_)
            have := hg.le q hj
            omega
          exact ⟨j, hj, by rw [he j hji]; exact e⟩
/-- the multiple of a ring by a unit, moved -/
theorem z_can_ex {w : Nat → Int} {c n a i : Nat} (hw : ZRise w c) (hww : ZWin w c n) (hn : 0 < n) (hg : Nat.gcd a n = 1) (hi : i < c) : ∃ h, ZRise h c ∧ ∀ y, ZMem h c y ↔ ∃ j, j < c ∧ ((a : Int) * (w j - w i)) % (n : Int) = y := by
  have key : ∀ p q, p < c → q < c → ((a : Int) * (w p - w i)) % (n : Int) = ((a : Int) * (w q - w i)) % (n : Int) → p = q := by
    intro p q hp hq e
    have e1 : ∀ z : Int, ((a : Int) * z) % (n : Int) = ((z % (n : Int)) * (a : Int)) % (n : Int) := fun z => by rw [Int.mul_comm, Int.mul_emod z (a : Int) (n : Int), Int.mul_emod (z % (n : Int)) (a : Int) (n : Int), Int.emod_emod]
    rw [e1, e1] at e
    have e2 := z_unit_inj hg ⟨Int.emod_nonneg _ (by omega), Int.emod_lt_of_pos _ (by omega)⟩ ⟨Int.emod_nonneg _ (by omega), Int.emod_lt_of_pos _ (by omega)⟩ e
    have b1 := hww p hp
    have b2 := hww q hq
    have b3 := hww i hi
    refine hw.inj hp hq ?_
    have e3 : (w p - w i - (w q - w i)) % (n : Int) = 0 := Int.emod_eq_emod_iff_emod_sub_eq_zero.1 e2
    rw [show w p - w i - (w q - w i) = w p - w q by omega] at e3
    obtain ⟨t, ht⟩ := Int.dvd_of_emod_eq_zero e3
    have h3 : t = 0 := by
      by_cases hq1 : 1 ≤ t
      · have : (n : Int) * 1 ≤ n * t := Int.mul_le_mul_of_nonneg_left hq1 (by omega)
        omega
      · by_cases hq2 : t ≤ -1
        · have : (n : Int) * t ≤ n * (-1) := Int.mul_le_mul_of_nonneg_left hq2 (by omega)
          omega
        · omega
    rw [h3] at ht
    omega
  obtain ⟨h1, h2⟩ := z_bld_all (v := fun j => ((a : Int) * (w j - w i)) % (n : Int)) (f := fun _ => 0) (c := c) (fun p q h3 h4 e => by have := key p q (by omega) h4 e; omega)
  exact ⟨_, h1, h2⟩
/-- some of n numbers from y on -/
def z_exi (p : Nat → Bool) : Nat → Nat → Bool
  | 0, _ => false
  | n + 1, y => p y || z_fc (y + 1) (fun z => z_exi p n z)
theorem z_exi_iff {p : Nat → Bool} : ∀ (n y : Nat), z_exi p n y = true → ∃ j, y ≤ j ∧ j < y + n ∧ p j = true
  | 0, y, h => by cases h
  | n + 1, y, h => by
    unfold z_exi at h
    rw [z_fc_eq, Bool.or_eq_true] at h
    rcases h with h | h
    · exact ⟨y, by omega, by omega, h⟩
    · obtain ⟨j, h1, h2, h3⟩ := z_exi_iff n (y + 1) h
      exact ⟨j, by omega, by omega, h3⟩
theorem z_unit_ev : z_al (fun n => z_al (fun d => z_exi (fun a => Nat.beq (Nat.gcd a n) 1 && Nat.beq ((a * d) % n) (Nat.gcd d n)) (n - 1) 1) (n - 1) 1) 39 2 = true := by decide +kernel
theorem z_unit_ex {n d : Nat} (hn : 2 ≤ n ∧ n ≤ 40) (hd : 1 ≤ d ∧ d < n) : ∃ a, 1 ≤ a ∧ a < n ∧ Nat.gcd a n = 1 ∧ (a * d) % n = Nat.gcd d n := by
  have h1 := z_al_iff 39 2 z_unit_ev n (by omega) (by omega)
  have h2 := z_al_iff _ _ h1 d (by omega) (by omega)
  obtain ⟨a, h3, h4, h5⟩ := z_exi_iff _ _ h2
  rw [Bool.and_eq_true] at h5
  exact ⟨a, h3, by omega, Nat.eq_of_beq_eq_true h5.1, Nat.eq_of_beq_eq_true h5.2⟩
theorem z_or_iff {n m : Nat} : z_or n m = true ↔ ZOr n m := @decide_eq_true_iff _ (Classical.propDecidable _)
/-- a mask in which two marks are so far apart that a multiple has a lesser second mark -/
def ZBad (n mask s : Nat) : Prop := (∀ x, 0 < x → mask.testBit x = true → s ≤ x) ∧ ∃ x y, x < y ∧ mask.testBit x = true ∧ mask.testBit y = true ∧ Nat.gcd (y - x) n < s
theorem ZBad.no {n mask s c : Nat} (h : ZBad n mask s) (hn : 2 ≤ n ∧ n ≤ 40) (hg : ZGd n c mask) : z_or n mask = false := by
  obtain ⟨h1, x, y, hxy, hx, hy, hs⟩ := h
  obtain ⟨g1, g2, w, hw⟩ := hg
  have hyn : y < n := by
    refine Nat.lt_of_not_le (fun q => ?_)
    rw [z_tb_far n g1 q] at hy; cases hy
  obtain ⟨a, a1, a2, a3, a4⟩ := z_unit_ex (d := y - x) hn (by omega)
  obtain ⟨i, hi, ei⟩ := (hw.2 (x : Int)).2 ⟨by omega, by rw [Int.toNat_natCast]; exact hx⟩
  obtain ⟨j, hj, ej⟩ := (hw.2 (y : Int)).2 ⟨by omega, by rw [Int.toNat_natCast]; exact hy⟩
  have hww : ZWin w c n := fun j hj => hw.lt g1 hj
  obtain ⟨r, r1, r2⟩ := z_can_ex hw.1 hww (by omega) a3 hi
  have e1 : ((a : Int) * (w j - w i)) % (n : Int) = ((Nat.gcd (y - x) n : Nat) : Int) := by
    rw [ei, ej, show (y : Int) - (x : Int) = ((y - x : Nat) : Int) by omega, ← Int.natCast_mul, ← Int.natCast_emod, a4]
  have gp : 0 < Nat.gcd (y - x) n := Nat.gcd_pos_of_pos_left _ (by omega)
  obtain ⟨t, ht, et⟩ := (r2 _).2 ⟨j, hj, e1⟩
  have r0 : ∀ j, j < c → 0 ≤ r j := fun j hj => by
    obtain ⟨j', _, e⟩ := (r2 (r j)).1 ⟨j, hj, rfl⟩
    rw [← e]
    exact Int.emod_nonneg _ (by omega)
  have rz : r 0 = 0 := z_rise_zero r1 r0 ((r2 0).2 ⟨i, hi, by rw [Int.sub_self, Int.mul_zero, Int.zero_emod]⟩)
  have t1 : 1 ≤ t := by
    refine Nat.pos_of_ne_zero (fun q => ?_)
    rw [q, rz] at et
    omega
  have l1 : r 1 ≤ r t := r1.le t1 ht
  have w1 : (s : Int) ≤ w 1 := by
    obtain ⟨z, z1, z2⟩ := hw.nat (show 1 < c by omega)
    have := hw.1 0 1 (by omega) (by omega)
    have := (hw.zero g2).2
    have := h1 z (by omega) z2
    omega
  rw [Bool.eq_false_iff]
  intro hor
  have hor := z_or_iff.1 hor
  have := hor w c hw a a1 a2 a3 r ⟨i, hi, r1, r2⟩
  rw [show c - 1 = c - 2 + 1 by omega, z_bef_succ, if_neg (by omega), decide_eq_true (by omega)] at this
  cases this
theorem z_rs_succ (n : Nat) (own : Nat → Bool) (left mask last back ahead meas : Nat) : z_rs n own (left + 1) mask last back ahead meas = z_fl (fun y => bif Nat.beq ((back <<< (y - last)) &&& (ahead >>> (y - last))) 0 && Nat.beq (((back <<< (y - last)) ||| (ahead >>> (y - last))) &&& meas) 0 then z_rs n own left (mask ||| 1 <<< y) y ((back <<< (y - last)) ||| 1) ((ahead >>> (y - last)) ||| 1 <<< n) (meas ||| (back <<< (y - last)) ||| (ahead >>> (y - last))) else []) (n - 1 - last) (last + 1) := rfl
theorem ZBad.add {n mask s y : Nat} (h : ZBad n mask s) (hy : s ≤ y) : ZBad n (mask ||| 1 <<< y) s := by
  obtain ⟨h1, x, z, h2, h3, h4, h5⟩ := h
  refine ⟨fun t ht q => ?_, x, z, h2, z_tb_or1 h3, z_tb_or1 h4, h5⟩
  by_cases hty : t = y
  · omega
  · rw [z_tb_orn hty] at q; exact h1 t ht q
theorem z_rs_bad {n s : Nat} (hn : 2 ≤ n ∧ n ≤ 40) : ∀ (left mask last back ahead meas c : Nat), ZBad n mask s → ZGd n c mask → mask < 2 ^ (last + 1) → s ≤ last → z_rs n (z_or n) left mask last back ahead meas = []
  | 0, mask, last, back, ahead, meas, c, h, hg, _, _ => by
    show (bif z_or n mask then [mask] else []) = []
    rw [h.no hn hg, cond_false]
  | left + 1, mask, last, back, ahead, meas, c, h, hg, hl, hs => by
    rw [z_rs_succ]
    refine z_fl_nil _ _ (fun y h1 h2 => ?_)
    rw [z_rs_bad hn left _ y _ _ _ (c + 1) (h.add (by omega)) (hg.add (z_tb_far (last + 1) hl h1) (by omega)) (z_or_lt (z_up_lt hl (by omega)) (z_one_lt (by omega))) (by omega)]
    cases (Nat.beq ((back <<< (y - last)) &&& (ahead >>> (y - last))) 0 && Nat.beq (((back <<< (y - last)) ||| (ahead >>> (y - last))) &&& meas) 0) <;> rfl
theorem z_rs_room {n : Nat} {own : Nat → Bool} : ∀ (left mask last back ahead meas : Nat), 1 ≤ left → n ≤ last + left → z_rs n own left mask last back ahead meas = []
  | 0, _, _, _, _, _, h, _ => by omega
  | left + 1, mask, last, back, ahead, meas, _, h => by
    rw [z_rs_succ]
    by_cases hl : left = 0
    · rw [show n - 1 - last = 0 by omega]; rfl
    · refine z_fl_nil _ _ (fun y h1 h2 => ?_)
      rw [z_rs_room left _ y _ _ _ (by omega) (by omega)]
      cases (Nat.beq ((back <<< (y - last)) &&& (ahead >>> (y - last))) 0 && Nat.beq (((back <<< (y - last)) ||| (ahead >>> (y - last))) &&& meas) 0) <;> rfl
theorem z_fnr_bit {n s : Nat} : ∀ (f d x : Nat), (z_fnr n s f d).testBit x = (decide (d ≤ x ∧ x < d + f) && Nat.blt (Nat.gcd x n) s)
  | 0, d, x => by
    show (0 : Nat).testBit x = _
    rw [Nat.zero_testBit, decide_eq_false (by omega), Bool.false_and]
  | f + 1, d, x => by
    unfold z_fnr
    rw [Nat.testBit_or, z_fnr_bit f (d + 1) x]
    by_cases hx : x = d
    · subst hx
      rw [decide_eq_false (show ¬ (x + 1 ≤ x ∧ x < x + 1 + f) by omega), decide_eq_true (show x ≤ x ∧ x < x + (f + 1) by omega), Bool.false_and, Bool.or_false, Bool.true_and]
      cases Nat.blt (Nat.gcd x n) s with
      | false => rw [cond_false, Nat.zero_testBit]
      | true => rw [cond_true, z_tb_one, decide_eq_true rfl]
    · have e : (bif Nat.blt (Nat.gcd d n) s then 1 <<< d else 0 : Nat).testBit x = false := by
        cases Nat.blt (Nat.gcd d n) s with
        | false => rw [cond_false, Nat.zero_testBit]
        | true => rw [cond_true, z_tb_one, decide_eq_false hx]
      rw [e, Bool.false_or]
      by_cases h : d + 1 ≤ x ∧ x < d + 1 + f
      · rw [decide_eq_true h, decide_eq_true (show d ≤ x ∧ x < d + (f + 1) by omega)]
      · rw [decide_eq_false h, decide_eq_false (show ¬ (d ≤ x ∧ x < d + (f + 1)) by omega)]
/-- what a state says of its ring -/
def ZRv (n mask last back ahead : Nat) : Prop := mask < 2 ^ (last + 1) ∧ last < n ∧ mask.testBit last = true ∧ (∀ d, back.testBit d = true → d ≤ last ∧ mask.testBit (last - d) = true) ∧ (∀ e, ahead.testBit e = true → ∃ x, x ≤ last ∧ mask.testBit x = true ∧ e + last = n + x)
theorem ZRv.add {n mask last back ahead y : Nat} (h : ZRv n mask last back ahead) (h1 : last < y) (h2 : y < n) : ZRv n (mask ||| 1 <<< y) y ((back <<< (y - last)) ||| 1) ((ahead >>> (y - last)) ||| 1 <<< n) ∧ (∀ d, ((back <<< (y - last)) ||| (ahead >>> (y - last))).testBit d = true → ∃ x, x < y ∧ mask.testBit x = true ∧ (d = y - x ∨ d = n - (y - x))) := by
  obtain ⟨a1, a2, a3, a4, a5⟩ := h
  have up : ∀ d, (back <<< (y - last)).testBit d = true → ∃ x, x < y ∧ mask.testBit x = true ∧ d = y - x := by
    intro d q
    rw [Nat.testBit_shiftLeft, Bool.and_eq_true, decide_eq_true_iff] at q
    obtain ⟨b1, b2⟩ := a4 _ q.2
    exact ⟨last - (d - (y - last)), by omega, b2, by omega⟩
  have dn : ∀ d, (ahead >>> (y - last)).testBit d = true → ∃ x, x < y ∧ mask.testBit x = true ∧ d + y = n + x := by
    intro d q
    rw [Nat.testBit_shiftRight] at q
    obtain ⟨x, b1, b2, b3⟩ := a5 _ q
    exact ⟨x, by omega, b2, by omega⟩
  refine ⟨⟨z_or_lt (z_up_lt a1 (by omega)) (z_one_lt (by omega)), h2, z_tb_ors _ _, fun d q => ?_, fun e q => ?_⟩, fun d q => ?_⟩
  · rw [Nat.testBit_or, Bool.or_eq_true] at q
    rcases q with q | q
    · obtain ⟨x, b1, b2, b3⟩ := up d q
      exact ⟨by omega, by rw [show y - d = x by omega]; exact z_tb_or1 b2⟩
    · have := Nat.testBit_one_eq_true_iff_self_eq_zero.1 q
      rw [this]
      exact ⟨by omega, z_tb_ors _ _⟩
  · rw [Nat.testBit_or, Bool.or_eq_true] at q
    rcases q with q | q
    · obtain ⟨x, b1, b2, b3⟩ := dn e q
      exact ⟨x, by omega, z_tb_or1 b2, b3⟩
    · rw [z_tb_one, decide_eq_true_iff] at q
      exact ⟨y, by omega, z_tb_ors _ _, by omega⟩
  · rw [Nat.testBit_or, Bool.or_eq_true] at q
    rcases q with q | q
    · obtain ⟨x, b1, b2, b3⟩ := up d q
      exact ⟨x, b1, b2, Or.inl b3⟩
    · obtain ⟨x, b1, b2, b3⟩ := dn d q
      exact ⟨x, b1, b2, Or.inr (by omega)⟩
theorem z_rp_succ (n : Nat) (own : Nat → Bool) (left mask last back ahead barred : Nat) : z_rp n own (left + 1) mask last back ahead barred = z_fl (fun y => bif Nat.beq last 0 && !(Nat.beq (n % y) 0) then [] else bif Nat.beq ((back <<< (y - last)) &&& (ahead >>> (y - last))) 0 && Nat.beq (((back <<< (y - last)) ||| (ahead >>> (y - last))) &&& (bif Nat.beq last 0 then z_fnr n y (n - 1) 1 else barred)) 0 then z_rp n own left (mask ||| 1 <<< y) y ((back <<< (y - last)) ||| 1) ((ahead >>> (y - last)) ||| 1 <<< n) ((bif Nat.beq last 0 then z_fnr n y (n - 1) 1 else barred) ||| (back <<< (y - last)) ||| (ahead >>> (y - last))) else []) (n - (left + 1) - last) (last + 1) := by
  show z_fl _ _ _ = _
  simp only [z_fc_eq]
theorem z_gcd_sub {n d : Nat} (h : d < n) : Nat.gcd (n - d) n = Nat.gcd d n := by
  have e := Nat.gcd_sub_self_left (show d ≤ n by omega)
  rw [Nat.gcd_comm] at e
  have e2 := Nat.gcd_sub_self_right (show n - d ≤ n by omega)
  rw [show n - (n - d) = d by omega] at e2
  rw [← e2, Nat.gcd_comm, e, Nat.gcd_comm]
/-- one mark more: the class's way and all ways -/
theorem z_rp_step {n s left mask last back ahead meas shut y c : Nat} (hn : 2 ≤ n ∧ n ≤ 40) (hv : ZRv n mask last back ahead) (hg : ZGd n c mask) (h1 : last < y) (h2 : y < n) (hs : s ≤ y) (hpos : ∀ x, 0 < x → (mask ||| 1 <<< y).testBit x = true → s ≤ x) (hsh : ∀ d, shut.testBit d = (meas.testBit d || (decide (1 ≤ d ∧ d < n) && Nat.blt (Nat.gcd d n) s)))
    (ih : z_rp n (z_or n) left (mask ||| 1 <<< y) y ((back <<< (y - last)) ||| 1) ((ahead >>> (y - last)) ||| 1 <<< n) (shut ||| (back <<< (y - last)) ||| (ahead >>> (y - last))) = z_rs n (z_or n) left (mask ||| 1 <<< y) y ((back <<< (y - last)) ||| 1) ((ahead >>> (y - last)) ||| 1 <<< n) (meas ||| (back <<< (y - last)) ||| (ahead >>> (y - last)))) :
    (bif Nat.beq ((back <<< (y - last)) &&& (ahead >>> (y - last))) 0 && Nat.beq (((back <<< (y - last)) ||| (ahead >>> (y - last))) &&& shut) 0 then z_rp n (z_or n) left (mask ||| 1 <<< y) y ((back <<< (y - last)) ||| 1) ((ahead >>> (y - last)) ||| 1 <<< n) (shut ||| (back <<< (y - last)) ||| (ahead >>> (y - last))) else []) = (bif Nat.beq ((back <<< (y - last)) &&& (ahead >>> (y - last))) 0 && Nat.beq (((back <<< (y - last)) ||| (ahead >>> (y - last))) &&& meas) 0 then z_rs n (z_or n) left (mask ||| 1 <<< y) y ((back <<< (y - last)) ||| 1) ((ahead >>> (y - last)) ||| 1 <<< n) (meas ||| (back <<< (y - last)) ||| (ahead >>> (y - last))) else []) := by
  rw [ih]
  obtain ⟨_, ud⟩ := hv.add h1 h2
  cases Nat.beq ((back <<< (y - last)) &&& (ahead >>> (y - last))) 0 with
  | false => rfl
  | true =>
    rw [Bool.true_and, Bool.true_and]
    by_cases q1 : ((back <<< (y - last)) ||| (ahead >>> (y - last))) &&& shut = 0
    · have q2 : ((back <<< (y - last)) ||| (ahead >>> (y - last))) &&& meas = 0 := by
        refine Nat.eq_of_testBit_eq (fun i => ?_)
        have := congrArg (fun a => a.testBit i) q1
        simp only [Nat.testBit_and, Nat.zero_testBit] at this ⊢
        rw [hsh i] at this
        revert this
        cases ((back <<< (y - last)) ||| (ahead >>> (y - last))).testBit i <;> cases meas.testBit i <;> simp
      rw [z_beq0.2 q1, z_beq0.2 q2]
    · rw [show Nat.beq (((back <<< (y - last)) ||| (ahead >>> (y - last))) &&& shut) 0 = false from Bool.eq_false_iff.2 (fun q => q1 (z_beq0.1 q)), cond_false]
      by_cases q2 : ((back <<< (y - last)) ||| (ahead >>> (y - last))) &&& meas = 0
      · obtain ⟨i, hi⟩ := Nat.exists_testBit_of_ne_zero q1
        have m0 := congrArg (fun a => a.testBit i) q2
        simp only [Nat.testBit_and, Nat.zero_testBit] at m0
        rw [Nat.testBit_and, Bool.and_eq_true, hsh i] at hi
        rw [hi.1, Bool.true_and] at m0
        obtain ⟨hi1, hi2⟩ := hi
        rw [m0, Bool.false_or, Bool.and_eq_true, decide_eq_true_iff] at hi2
        obtain ⟨x, x1, x2, x3⟩ := ud i hi1
        have hgs : Nat.gcd i n < s := Nat.le_of_ble_eq_true hi2.2
        have hbad : ZBad n (mask ||| 1 <<< y) s := by
          refine ⟨hpos, x, y, x1, z_tb_or1 x2, z_tb_ors _ _, ?_⟩
          rcases x3 with x3 | x3
          · rw [← x3]; exact hgs
          · rw [x3, z_gcd_sub (by omega)] at hgs; exact hgs
        rw [z_beq0.2 q2, cond_true]
        exact (z_rs_bad hn left _ y _ _ _ (c + 1) hbad (hg.add (z_tb_far (last + 1) hv.1 (by omega)) h2) (z_or_lt (z_up_lt hv.1 (by omega)) (z_one_lt (by omega))) hs).symm
      · rw [show Nat.beq (((back <<< (y - last)) ||| (ahead >>> (y - last))) &&& meas) 0 = false from Bool.eq_false_iff.2 (fun q => q2 (z_beq0.1 q)), cond_false]
theorem z_rp_rs {n s : Nat} (hn : 2 ≤ n ∧ n ≤ 40) : ∀ (left mask last back ahead meas shut c : Nat), ZRv n mask last back ahead → ZGd n c mask → 0 < last → s ≤ last → (∀ x, 0 < x → mask.testBit x = true → s ≤ x) → (∀ d, shut.testBit d = (meas.testBit d || (decide (1 ≤ d ∧ d < n) && Nat.blt (Nat.gcd d n) s))) → z_rp n (z_or n) left mask last back ahead shut = z_rs n (z_or n) left mask last back ahead meas
  | 0, mask, last, back, ahead, meas, shut, c, _, _, _, _, _, _ => rfl
  | left + 1, mask, last, back, ahead, meas, shut, c, hv, hg, hl, hs, hpos, hsh => by
    rw [z_rp_succ, z_rs_succ]
    have hb : Nat.beq last 0 = false := Bool.eq_false_iff.2 (fun q => by have := Nat.eq_of_beq_eq_true q; omega)
    simp only [hb, Bool.false_and, cond_false]
    have e : n - 1 - last = (n - (left + 1) - last) + ((n - 1 - last) - (n - (left + 1) - last)) := by omega
    rw [e, z_fl_add, z_fl_nil ((n - 1 - last) - (n - (left + 1) - last)), List.append_nil]
    · refine z_fl_cong _ _ (fun y h1 h2 => ?_)
      have hpos2 : ∀ x, 0 < x → (mask ||| 1 <<< y).testBit x = true → s ≤ x := fun x hx q => by
        by_cases hxy : x = y
        · omega
        · rw [z_tb_orn hxy] at q; exact hpos x hx q
      refine z_rp_step hn hv hg (by omega) (by omega) (by omega) hpos2 hsh ?_
      refine z_rp_rs hn left _ y _ _ _ _ (c + 1) (hv.add (by omega) (by omega)).1 (hg.add (z_tb_far (last + 1) hv.1 (by omega)) (by omega)) (by omega) (by omega) hpos2 (fun d => ?_)
      rw [Nat.testBit_or, Nat.testBit_or, Nat.testBit_or, Nat.testBit_or, hsh d]
      cases meas.testBit d <;> cases (back <<< (y - last)).testBit d <;> cases (ahead >>> (y - last)).testBit d <;> simp
    · intro y h1 h2
      rw [z_rs_room left _ y _ _ _ (by omega) (by omega)]
      cases (Nat.beq ((back <<< (y - last)) &&& (ahead >>> (y - last))) 0 && Nat.beq (((back <<< (y - last)) ||| (ahead >>> (y - last))) &&& meas) 0) <;> rfl
theorem z_rv0 {n : Nat} (hn : 2 ≤ n) : ZRv n 1 0 1 (1 <<< n) := by
  refine ⟨by decide, by omega, rfl, fun d q => ?_, fun e q => ?_⟩
  · have := Nat.testBit_one_eq_true_iff_self_eq_zero.1 q
    rw [this]
    exact ⟨by omega, rfl⟩
  · rw [z_tb_one, decide_eq_true_iff] at q
    exact ⟨0, by omega, rfl, by omega⟩
theorem z_gd1 {n : Nat} (hn : 1 ≤ n) : ZGd n 1 1 := ⟨z_up_lt (n := 1) (by decide) hn, rfl, _, ZMR.one⟩
/-- the class's search for rings finds all of them -/
theorem z_rg_eq {n : Nat} (hn : 2 ≤ n ∧ n ≤ 40) (left : Nat) : z_rp n (z_or n) left 1 0 1 (1 <<< n) 0 = z_rs n (z_or n) left 1 0 1 (1 <<< n) 0 := by
  cases left with
  | zero => rfl
  | succ left =>
    rw [z_rp_succ, z_rs_succ]
    have hv := z_rv0 (n := n) hn.1
    have hg := z_gd1 (n := n) (by omega)
    have hb : Nat.beq 0 0 = true := rfl
    simp only [hb, Bool.true_and, cond_true]
    have e : n - 1 - 0 = (n - (left + 1) - 0) + ((n - 1 - 0) - (n - (left + 1) - 0)) := by omega
    rw [e, z_fl_add, z_fl_nil ((n - 1 - 0) - (n - (left + 1) - 0)), List.append_nil]
    · refine z_fl_cong _ _ (fun y h1 h2 => ?_)
      have hpos2 : ∀ x, 0 < x → (1 ||| 1 <<< y).testBit x = true → y ≤ x := fun x hx q => by
        by_cases hxy : x = y
        · omega
        · rw [z_tb_orn hxy] at q
          have := Nat.testBit_one_eq_true_iff_self_eq_zero.1 q
          omega
      cases hd : Nat.beq (n % y) 0 with
      | false =>
        rw [Bool.not_false, cond_true]
        have hbad : ZBad n (1 ||| 1 <<< y) y := by
          refine ⟨hpos2, 0, y, by omega, z_tb_or1 rfl, z_tb_ors _ _, ?_⟩
          rw [Nat.sub_zero]
          refine Nat.lt_of_le_of_ne (Nat.gcd_le_left _ (by omega)) (fun q => ?_)
          have : y ∣ n := by rw [← q]; exact Nat.gcd_dvd_right _ _
          rw [Nat.mod_eq_zero_of_dvd this] at hd
          cases hd
        rw [z_rs_bad hn left _ y _ _ _ 2 hbad (hg.add (z_tb_far 1 (by decide) (by omega)) (by omega)) (z_or_lt (z_up_lt (n := 1) (by decide) (by omega)) (z_one_lt (by omega))) (Nat.le_refl _)]
        cases (Nat.beq ((1 <<< (y - 0)) &&& ((1 <<< n) >>> (y - 0))) 0 && Nat.beq (((1 <<< (y - 0)) ||| ((1 <<< n) >>> (y - 0))) &&& 0) 0) <;> rfl
      | true =>
        rw [Bool.not_true, cond_false]
        have hsh : ∀ d, (z_fnr n y (n - 1) 1).testBit d = ((0 : Nat).testBit d || (decide (1 ≤ d ∧ d < n) && Nat.blt (Nat.gcd d n) y)) := fun d => by
          rw [z_fnr_bit, Nat.zero_testBit, Bool.false_or, show 1 + (n - 1) = n by omega]
        refine z_rp_step hn hv hg (by omega) (by omega) (Nat.le_refl _) hpos2 hsh ?_
        refine z_rp_rs (s := y) hn left _ y _ _ _ _ 2 (hv.add (by omega) (by omega)).1 (hg.add (z_tb_far 1 (by decide) (by omega)) (by omega)) (by omega) (Nat.le_refl _) hpos2 (fun d => ?_)
        rw [Nat.testBit_or, Nat.testBit_or, Nat.testBit_or, Nat.testBit_or, hsh d]
        cases (1 <<< (y - 0)).testBit d <;> cases ((1 <<< n) >>> (y - 0)).testBit d <;> simp
    · intro y h1 h2
      rw [z_rs_room left _ y _ _ _ (by omega) (by omega)]
      cases (Nat.beq ((1 <<< (y - 0)) &&& ((1 <<< n) >>> (y - 0))) 0 && Nat.beq (((1 <<< (y - 0)) ||| ((1 <<< n) >>> (y - 0))) &&& 0) 0) <;> rfl
