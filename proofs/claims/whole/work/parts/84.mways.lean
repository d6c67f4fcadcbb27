/-! THE REFERENCE'S SEARCHES: masks, forms, ways -/
/-- back is the mask read from last downwards -/
def ZLn (mask last back : Nat) : Prop := mask < 2 ^ (last + 1) ∧ mask.testBit last = true ∧ mask.testBit 0 = true ∧ ∀ d, back.testBit d = (decide (d ≤ last) && mask.testBit (last - d))
def z_fb (m : Nat) (x : Nat) : Int := if m.testBit x = true then 1 else 0
theorem z_fb_le (m x : Nat) : 0 ≤ z_fb m x ∧ z_fb m x ≤ 1 := by unfold z_fb; split <;> omega
theorem ZLn.more {mask last back y : Nat} (h : ZLn mask last back) (hy : last < y) (x : Nat) : (back <<< (y - last)).testBit x = (decide (x ≤ y) && mask.testBit (y - x)) := by
  rw [Nat.testBit_shiftLeft]
  by_cases h1 : x ≥ y - last
  · rw [decide_eq_true h1, Bool.true_and, h.2.2.2]
    by_cases h2 : x ≤ y
    · rw [decide_eq_true h2, Bool.true_and, decide_eq_true (show x - (y - last) ≤ last by omega), Bool.true_and, show last - (x - (y - last)) = y - x by omega]
    · rw [decide_eq_false h2, decide_eq_false (show ¬ x - (y - last) ≤ last by omega), Bool.false_and, Bool.false_and]
  · rw [decide_eq_false h1, Bool.false_and, z_tb_far (last + 1) h.1 (show last + 1 ≤ y - x by omega), Bool.and_false]
theorem ZLn.add {mask last back y : Nat} (h : ZLn mask last back) (hy : last < y) : ZLn (mask ||| 1 <<< y) y ((back <<< (y - last)) ||| 1) := by
  refine ⟨z_or_lt (z_up_lt h.1 (by omega)) (z_one_lt (by omega)), z_tb_ors _ _, z_tb_or1 h.2.2.1, fun d => ?_⟩
  rw [Nat.testBit_or, h.more hy d, show (1 : Nat) = 1 <<< 0 from rfl, z_tb_one 0 d]
  by_cases hd : d = 0
  · subst hd
    rw [decide_eq_true rfl, Bool.or_true, decide_eq_true (by omega), Bool.true_and, Nat.sub_zero]
    exact (z_tb_ors mask y).symm
  · rw [decide_eq_false hd, Bool.or_false]
    by_cases h2 : d ≤ y
    · rw [decide_eq_true h2, Bool.true_and, Bool.true_and]
      exact (z_tb_orn (show y - d ≠ y by omega)).symm
    · rw [decide_eq_false h2, Bool.false_and, Bool.false_and]
theorem ZLn.one : ZLn 1 0 1 := by
  refine ⟨by decide, by decide, by decide, fun d => ?_⟩
  by_cases hd : d = 0
  · subst hd; rfl
  · rw [decide_eq_false (show ¬ d ≤ 0 by omega), Bool.false_and]
    exact z_tb_far 1 (by decide) (by omega)
theorem z_tb_new {mask last y : Nat} (h : mask < 2 ^ (last + 1)) (hy : last < y) : mask.testBit y = false := z_tb_far (last + 1) h (by omega)
theorem z_cn_bits {mask last back c y : Nat} {w : Nat → Int} (h : ZLn mask last back) (hw : ZMR mask w c) (hy : last < y) (x : Nat) : z_cn w c 0 (y : Int) x = z_fb (back <<< (y - last)) x := by
  have e : z_cn w c 0 (y : Int) x = zsf (fun i => z_one ((y : Int) - w i) x) 0 c := zsf_cong _ _ (fun i _ _ => by unfold z_e; rw [if_neg (by omega), Int.add_zero])
  obtain ⟨s1, s0⟩ := z_sum1 (g := fun i => (y : Int) - w i) (x := x) c (fun a b h1 h2 q => by have := hw.1 a b h1 h2; omega)
  rw [e]
  unfold z_fb
  rw [h.more hy x]
  by_cases q : ∃ i, i < c ∧ (y : Int) - w i = (x : Int)
  · rw [s1 q]
    obtain ⟨i, hi, e⟩ := q
    obtain ⟨a1, a2⟩ := (hw.2 (w i)).1 ⟨i, hi, rfl⟩
    rw [if_pos]
    rw [decide_eq_true (show x ≤ y by omega), Bool.true_and, show y - x = (w i).toNat by omega]
    exact a2
  · rw [s0 q, if_neg]
    intro hb
    rw [Bool.and_eq_true, decide_eq_true_iff] at hb
    obtain ⟨i, hi, e⟩ := (hw.2 ((y - x : Nat) : Int)).2 ⟨by omega, by rw [Int.toNat_natCast]; exact hb.2⟩
    exact q ⟨i, hi, by rw [e]; omega⟩
theorem z_fb_or {a b x : Nat} (h : b &&& a = 0) : z_fb (a ||| b) x = z_fb a x + z_fb b x := by
  have q : (b &&& a).testBit x = false := by rw [h, Nat.zero_testBit]
  rw [Nat.testBit_and] at q
  unfold z_fb
  rw [Nat.testBit_or]
  revert q
  cases a.testBit x <;> cases b.testBit x <;> simp
theorem z_fb_one {a b : Nat} (h : ∀ x, z_fb a x + z_fb b x ≤ 1) : b &&& a = 0 := by
  refine Nat.eq_of_testBit_eq (fun x => ?_)
  rw [Nat.testBit_and, Nat.zero_testBit]
  have := h x
  unfold z_fb at this
  revert this
  cases a.testBit x <;> cases b.testBit x <;> simp
theorem z_fb_two {a b x : Nat} (h : 1 < z_fb a x + z_fb b x) : b &&& a ≠ 0 := by
  intro q
  have e := z_fb_or (x := x) q
  have := z_fb_le (a ||| b) x
  omega
theorem ZMR.top {mask last c : Nat} {w : Nat → Int} (h : ZMR mask w c) (hm : mask < 2 ^ (last + 1)) (ht : mask.testBit last = true) : 0 < c ∧ w (c - 1) = (last : Int) := by
  obtain ⟨j, hj, e⟩ := (h.2 (last : Int)).2 ⟨by omega, by rw [Int.toNat_natCast]; exact ht⟩
  have a := h.1.le (show j ≤ c - 1 by omega) (by omega)
  have b := (h.lt hm (show c - 1 < c by omega)).2
  exact ⟨by omega, by omega⟩
/-- a row with one mark more behind -/
theorem ZMR.snoc {mask last c y : Nat} {w : Nat → Int} (h : ZMR mask w c) (hm : mask < 2 ^ (last + 1)) (hy : last < y) : ZMR (mask ||| 1 <<< y) (z_up w c (y : Int)) (c + 1) := by
  have lt : ∀ j, j < c → w j < (y : Int) := fun j hj => by have := (h.lt hm hj).2; omega
  refine ⟨fun i j hij hj => ?_, fun x => ?_⟩
  · rw [z_up_ne _ _ (show i ≠ c by omega)]
    by_cases hjc : j = c
    · rw [hjc, z_up_same]; exact lt i (by omega)
    · rw [z_up_ne _ _ hjc]; exact h.1 i j hij (by omega)
  · constructor
    · rintro ⟨j, hj, e⟩
      by_cases hjc : j = c
      · rw [hjc, z_up_same] at e
        exact ⟨by omega, by rw [← e, Int.toNat_natCast]; exact z_tb_ors _ _⟩
      · rw [z_up_ne _ _ hjc] at e
        obtain ⟨a, b⟩ := (h.2 x).1 ⟨j, by omega, e⟩
        exact ⟨a, z_tb_or1 b⟩
    · rintro ⟨a, b⟩
      by_cases hxy : x = (y : Int)
      · exact ⟨c, by omega, by rw [z_up_same]; exact hxy.symm⟩
      · rw [z_tb_orn (by omega)] at b
        obtain ⟨j, hj, e⟩ := (h.2 x).2 ⟨a, b⟩
        exact ⟨j, by omega, by rw [z_up_ne _ _ (by omega)]; exact e⟩
theorem z_own_bef {mask last c : Nat} {w : Nat → Int} (h : ZMR mask w c) (hm : mask < 2 ^ (last + 1)) (ht : mask.testBit last = true) : z_own mask last = !(z_bef (z_trn w c) w c 0) := by
  obtain ⟨hc, htop⟩ := h.top hm ht
  have tm : ∀ z : Int, ZMem (z_trn w c) c z ↔ (z ≤ (last : Int) ∧ mask.testBit ((last : Int) - z).toNat = true) := fun z => by
    constructor
    · rintro ⟨j, hj, e⟩
      unfold z_trn at e
      obtain ⟨a, b⟩ := (h.2 (w (c - 1 - j))).1 ⟨c - 1 - j, by omega, rfl⟩
      exact ⟨by omega, by rw [show (last : Int) - z = w (c - 1 - j) by omega]; exact b⟩
    · rintro ⟨a, b⟩
      obtain ⟨j, hj, e⟩ := (h.2 ((last : Int) - z)).2 ⟨by omega, b⟩
      refine ⟨c - 1 - j, by omega, ?_⟩
      unfold z_trn
      rw [show c - 1 - (c - 1 - j) = j by omega]
      omega
  have tr := z_trn_rise h.1
  have wl : ∀ z : Int, ZMem w c z → 0 ≤ z ∧ z ≤ (last : Int) := fun z ⟨j, hj, e⟩ => by have := h.lt hm hj; omega
  cases hb : z_bef (z_trn w c) w c 0 with
  | true =>
    obtain ⟨z, z1, z2, z3⟩ := z_lex tr h.1 c 0 (by omega) (fun j hj => by omega) hb
    obtain ⟨q1, q2⟩ := (tm z).1 z1
    have q0 : 0 ≤ z := by
      have := z_tb_far (a := mask) (x := ((last : Int) - z).toNat) (last + 1) hm
      by_cases q : 0 ≤ z
      · exact q
      · rw [this (by omega)] at q2; cases q2
    obtain ⟨j, rfl⟩ : ∃ j : Nat, z = (j : Int) := ⟨z.toNat, by omega⟩
    rw [show ((last : Int) - (j : Int)).toNat = last - j by omega] at q2
    have q3 : mask.testBit j = false := by
      cases q : mask.testBit j with
      | false => rfl
      | true => exact absurd ((h.2 (j : Int)).2 ⟨by omega, by rw [Int.toNat_natCast]; exact q⟩) z2
    show z_ow mask last (last + 1) 0 = false
    cases ho : z_ow mask last (last + 1) 0 with
    | false => rfl
    | true =>
      have := (z_ow_iff (last + 1) 0).1 ho j (by omega) (by omega) (by rw [q2, q3]; decide) (fun y _ hy => by
        have s := z3 (y : Int) (by omega)
        rw [tm, h.2, Int.toNat_natCast, show ((last : Int) - (y : Int)).toNat = last - y by omega] at s
        rw [Bool.eq_iff_iff]
        exact ⟨fun a => (s.2 ⟨by omega, a⟩).2, fun a => (s.1 ⟨by omega, a⟩).2⟩)
      rw [q3] at this; cases this
  | false =>
    show z_ow mask last (last + 1) 0 = true
    rw [z_ow_iff]
    intro j _ hj hne hsm
    cases q3 : mask.testBit j with
    | true => rfl
    | false =>
      have q2 : mask.testBit (last - j) = true := by
        rw [q3] at hne
        revert hne
        cases mask.testBit (last - j) <;> simp
      have m1 : ZMem (z_trn w c) c (j : Int) := (tm _).2 ⟨by omega, by rw [show ((last : Int) - (j : Int)).toNat = last - j by omega]; exact q2⟩
      have m2 : ¬ ZMem w c (j : Int) := fun q => by
        have := ((h.2 _).1 q).2
        rw [Int.toNat_natCast, q3] at this
        cases this
      cases hb2 : z_bef w (z_trn w c) c 0 with
      | false =>
        have := z_bef_tri _ _ hb hb2
        obtain ⟨i, hi, e⟩ := m1
        exact absurd ⟨i, hi, by rw [← this i (by omega) (by omega)]; exact e⟩ m2
      | true =>
        obtain ⟨z, z1, z2, z3⟩ := z_lex h.1 tr c 0 (by omega) (fun j hj => by omega) hb2
        obtain ⟨p1, p2⟩ := wl z z1
        obtain ⟨i, rfl⟩ : ∃ i : Nat, z = (i : Int) := ⟨z.toNat, by omega⟩
        by_cases hij : i < j
        · have s := hsm i (by omega) hij
          have a1 := ((h.2 _).1 z1).2
          rw [Int.toNat_natCast] at a1
          exact absurd ((tm _).2 ⟨p2, by rw [show ((last : Int) - (i : Int)).toNat = last - i by omega, ← s]; exact a1⟩) z2
        · by_cases hji : j = i
          · subst hji; exact absurd z1 m2
          · exact absurd ((z3 (j : Int) (by omega)).2 m1) m2
theorem z_own_form {mask last c : Nat} {w : Nat → Int} (h : ZMR mask w c) (hm : mask < 2 ^ (last + 1)) (ht : mask.testBit last = true) : ∀ (g : Nat → Int) (b : Int), ZForm w c 0 g → ((b = 1 ∧ ZAgr g w c) ∨ (b = 0 ∧ ¬ ZAgr g w c)) → b = z_int (z_own mask last) := by
  intro g b hf hb
  rcases hf with ⟨q, _⟩ | ⟨_, hf⟩
  · omega
  rw [z_own_bef h hm ht]
  unfold z_frm at hf
  cases hbf : z_bef (z_trn w c) w c 0 with
  | true =>
    rw [if_pos hbf] at hf
    rcases hb with ⟨b1, b2⟩ | ⟨b1, b2⟩
    · rw [z_bef_irr _ _ (fun j _ hj => by rw [← hf j (by omega)]; exact b2 j (by omega))] at hbf
      cases hbf
    · exact b1
  | false =>
    rw [if_neg (by rw [hbf]; decide)] at hf
    rcases hb with ⟨b1, b2⟩ | ⟨b1, b2⟩
    · exact b1
    · exact absurd hf b2
theorem z_or_form {mask n c : Nat} {w : Nat → Int} (hn : 2 ≤ n) (h : ZMR mask w c) (hc : 0 < c) (hrow : ZRow w c (n : Int)) : ∀ (g : Nat → Int) (b : Int), ZForm w c (n : Int) g → ((b = 1 ∧ ZAgr g w c) ∨ (b = 0 ∧ ¬ ZAgr g w c)) → b = z_int (z_or n mask) := by
  intro g b hf hb
  have hwin : ZWin w c (n : Int) := fun j hj => ⟨(hrow.2.2.1 j hj).1, (hrow.2.2.2.2.1 (by omega)).2 j hj⟩
  rcases hf with ⟨_, hf⟩ | ⟨q, _⟩
  · rw [Int.toNat_natCast] at hf
    obtain ⟨f1, a, a1, a2, a3, a4⟩ := hf
    rcases hb with ⟨b1, b2⟩ | ⟨b1, b2⟩
    · have : z_or n mask = true := z_or_iff.2 (z_or_of h (fun a' x1 x2 x3 h' hh => by
        rw [← z_bef_cong (f := h') (g := g) (f' := h') (g' := w) _ _ (fun _ _ _ => rfl) (fun j _ hj => b2 j (by omega))]
        exact f1 a' x1 x2 x3 h' hh))
      rw [this, b1]; rfl
    · have : z_or n mask = false := by
        cases q : z_or n mask with
        | false => rfl
        | true =>
          exfalso
          have o := z_or_iff.1 q w c h a a1 a2 a3 g a4
          have v0 := hrow.2.2.2.2.2 hc
          have o2 := f1 1 (by omega) (by omega) (Nat.gcd_one_left _) w (z_can_self hc hn h.1 hwin v0 (fun _ _ => rfl))
          have t := z_bef_tri _ _ o o2
          refine b2 (fun j hj => ?_)
          by_cases hj0 : j = 0
          · rw [hj0, v0, a4.zero (by omega)]
          · exact t j (by omega) (by omega)
      rw [this, b1]; rfl
  · omega
/-- sparse rulers of a length: the last mark lies at its end -/
def z_gr (n : Nat) : Nat → Nat → Nat → Nat → Nat → List Nat
  | 0, mask, last, _, _ => bif z_own mask last then [mask] else []
  | left + 1, mask, last, back, meas => z_fl (fun y => if (back <<< (y - last)) &&& meas = 0 then z_gr n left (mask ||| 1 <<< y) y ((back <<< (y - last)) ||| 1) (meas ||| (back <<< (y - last))) else []) (if left = 0 then 1 else n - (left + 1) * left / 2 - last) (if left = 0 then n else last + 1)
theorem z_gr_sp {n : Nat} : ∀ (left mask last back meas : Nat), mask < 2 ^ (last + 1) → last < n → z_gr n (left + 1) mask last back meas = (z_sp n (left + 1) mask last back meas).filter (fun m => m.testBit n)
  | 0, mask, last, back, meas, hm, hl => by
    rw [z_sp_succ, z_fl_filter, show n - (0 + 1) * 0 / 2 - last = (n - 1 - last) + 1 by omega, z_fl_add 1 (n - 1 - last) (last + 1), z_fl_nil (n - 1 - last) (last + 1) (fun j h1 h2 => ?_), List.nil_append]
    · show z_fl _ 1 n = _
      rw [show last + 1 + (n - 1 - last) = n by omega]
      refine z_fl_cong 1 n (fun j h1 h2 => ?_)
      have hj : j = n := by omega
      subst hj
      split
      · show (bif _ then [_] else []) = List.filter _ (bif _ then [_] else [])
        cases z_own (mask ||| 1 <<< j) j
        · rfl
        · rw [cond_true]
          exact (List.filter_eq_self.2 (fun a ha => by rw [List.mem_singleton] at ha; rw [ha]; exact z_tb_ors _ _)).symm
      · rfl
    · split
      · show List.filter _ (bif _ then [_] else []) = []
        cases z_own (mask ||| 1 <<< j) j
        · rfl
        · rw [cond_true, List.filter_cons_of_neg, List.filter_nil]
          rw [z_tb_far (j + 1) (z_or_lt (z_up_lt hm (by omega)) (z_one_lt (by omega))) (by omega)]
          decide
      · rfl
  | left + 1, mask, last, back, meas, hm, hl => by
    rw [z_sp_succ, z_fl_filter]
    show z_fl _ _ _ = _
    rw [if_neg (by omega), if_neg (by omega)]
    refine z_fl_cong _ _ (fun y h1 h2 => ?_)
    have ht : 2 * 1 ≤ (left + 1 + 1) * (left + 1) := Nat.mul_le_mul (by omega) (by omega)
    split
    · exact z_gr_sp left _ y _ _ (z_or_lt (z_up_lt hm (by omega)) (z_one_lt (by omega))) (by omega)
    · rfl
theorem z_gr_facts {m : Nat} (hm : 2 ≤ m ∧ m ≤ 7) : (∀ n, m * (m - 1) / 2 ≤ n → n < z_sbl m → z_gr n (m - 1) 1 0 1 0 = []) ∧ z_gr (z_sbl m) (m - 1) 1 0 1 0 = z_spb m (z_sbl m) := by
  obtain ⟨f1, f2, f3, f4, f5, _⟩ := z_sp_facts (show 1 ≤ m ∧ m ≤ 7 by omega)
  have ht : 2 * 1 ≤ m * (m - 1) := Nat.mul_le_mul (by omega) (by omega)
  have e : ∀ n, m * (m - 1) / 2 ≤ n → z_gr n (m - 1) 1 0 1 0 = (z_spb m n).filter (fun w => w.testBit n) := fun n hn => by
    rw [show m - 1 = m - 2 + 1 by omega, z_gr_sp (m - 2) 1 0 1 0 (by decide) (by omega)]
    unfold z_spb
    rw [show m - 1 = m - 2 + 1 by omega]
  refine ⟨fun n h1 h2 => ?_, ?_⟩
  · rw [e n h1, f1 n h1 h2]; rfl
  · rw [e _ f5]
    exact List.filter_eq_self.2 f4
