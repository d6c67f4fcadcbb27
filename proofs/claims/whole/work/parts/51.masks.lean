/-! MASKS: numbers and longs, masks and rows -/
theorem zbit_ofNat (m x : Nat) (hx : x < 64) : zbit (Int64.ofNat m) x = m.testBit x := by
  unfold zbit
  show (BitVec.ofNat 64 m).getLsbD x = _
  rw [BitVec.getLsbD_ofNat]
  simp [hx]
theorem z_on_or (a b : Nat) : Int64.ofNat a ||| Int64.ofNat b = Int64.ofNat (a ||| b) := zbit_ext (fun x hx => by rw [zbit_or, zbit_ofNat _ _ hx, zbit_ofNat _ _ hx, zbit_ofNat _ _ hx, Nat.testBit_or])
theorem z_on_and (a b : Nat) : Int64.ofNat a &&& Int64.ofNat b = Int64.ofNat (a &&& b) := zbit_ext (fun x hx => by rw [zbit_and, zbit_ofNat _ _ hx, zbit_ofNat _ _ hx, zbit_ofNat _ _ hx, Nat.testBit_and])
theorem z_on_shl (a s : Nat) (hs : s < 64) : Int64.ofNat a <<< ((Int32.ofInt (s : Int)).toInt64 &&& 63) = Int64.ofNat (a <<< s) := zbit_ext (fun x hx => by
  rw [zbit_shl _ _ _ hs hx, zbit_ofNat _ _ hx, zbit_ofNat _ _ (by omega), Nat.testBit_shiftLeft])
theorem z_tb_far {a x : Nat} (n : Nat) (h : a < 2 ^ n) (hx : n ≤ x) : a.testBit x = false := Nat.testBit_lt_two_pow (Nat.lt_of_lt_of_le h (Nat.pow_le_pow_right (by omega) hx))
theorem z_on_shr (a s : Nat) (hs : s < 64) (ha : a < 2 ^ 64) : ((Int64.ofNat a).toUInt64 >>> ((Int32.ofInt (s : Int)).toInt64.toUInt64 &&& Int64.toUInt64 63)).toInt64 = Int64.ofNat (a >>> s) := zbit_ext (fun x hx => by
  rw [zbit_shr _ _ _ hs, zbit_ofNat _ _ hx, Nat.testBit_shiftRight]
  by_cases h : s + x < 64
  · rw [zbit_ofNat _ _ h]
  · rw [z_tb_far 64 ha (by omega), zbit_far _ (by omega)])
theorem z_on_zero {a : Nat} (ha : a < 2 ^ 64) : Int64.ofNat a = Int64.ofNat 0 ↔ a = 0 := by
  refine ⟨fun h => Nat.eq_of_testBit_eq (fun x => ?_), fun h => by rw [h]⟩
  by_cases hx : x < 64
  · rw [← zbit_ofNat a x hx, h, zbit_ofNat 0 x hx]
  · rw [z_tb_far 64 ha (by omega), Nat.zero_testBit]
theorem z_and_lt {a b : Nat} {n : Nat} (h : b < 2 ^ n) : a &&& b < 2 ^ n := Nat.lt_of_le_of_lt Nat.and_le_right h
theorem z_shl_lt {a s n t : Nat} (h : a < 2 ^ n) (e : n + s ≤ t) : a <<< s < 2 ^ t := by
  rw [Nat.shiftLeft_eq]
  have h1 : a * 2 ^ s < 2 ^ n * 2 ^ s := Nat.mul_lt_mul_of_pos_right h (Nat.two_pow_pos s)
  rw [← Nat.pow_add] at h1
  exact Nat.lt_of_lt_of_le h1 (Nat.pow_le_pow_right (by omega) e)
theorem z_one_lt {y t : Nat} (h : y < t) : 1 <<< y < 2 ^ t := by
  rw [Nat.shiftLeft_eq, Nat.one_mul]
  exact Nat.pow_lt_pow_right (by omega) h
theorem z_or_lt {a b n : Nat} (h1 : a < 2 ^ n) (h2 : b < 2 ^ n) : a ||| b < 2 ^ n := Nat.or_lt_two_pow h1 h2
theorem z_up_lt {a n t : Nat} (h1 : a < 2 ^ n) (h2 : n ≤ t) : a < 2 ^ t := Nat.lt_of_lt_of_le h1 (Nat.pow_le_pow_right (by omega) h2)
theorem z_tb_one (y x : Nat) : (1 <<< y : Nat).testBit x = decide (x = y) := by
  rw [Nat.shiftLeft_eq, Nat.one_mul, Nat.testBit_two_pow]
  exact decide_eq_decide.2 ⟨fun h => h.symm, fun h => h.symm⟩
theorem z_beq0 {a : Nat} : Nat.beq a 0 = true ↔ a = 0 := ⟨fun h => Nat.eq_of_beq_eq_true h, fun h => by rw [h]; rfl⟩
/-! rows of rows -/
theorem z_fl_succ {α : Type} (f : Nat → List α) (n y : Nat) : z_fl f (n + 1) y = f y ++ z_fl f n (y + 1) := by
  show f y ++ z_fc (y + 1) (fun z => z_fl f n z) = _
  rw [z_fc_eq]
theorem z_fl_nil {α : Type} {f : Nat → List α} : ∀ (n y : Nat), (∀ j, y ≤ j → j < y + n → f j = []) → z_fl f n y = []
  | 0, y, _ => rfl
  | n + 1, y, h => by rw [z_fl_succ, h y (by omega) (by omega), z_fl_nil n (y + 1) (fun j h1 h2 => h j (by omega) (by omega)), List.nil_append]
theorem z_fl_cong {α : Type} {f g : Nat → List α} : ∀ (n y : Nat), (∀ j, y ≤ j → j < y + n → f j = g j) → z_fl f n y = z_fl g n y
  | 0, y, _ => rfl
  | n + 1, y, h => by rw [z_fl_succ, z_fl_succ, h y (by omega) (by omega), z_fl_cong n (y + 1) (fun j h1 h2 => h j (by omega) (by omega))]
theorem z_fl_add {α : Type} {f : Nat → List α} (b : Nat) : ∀ (a y : Nat), z_fl f (a + b) y = z_fl f a y ++ z_fl f b (y + a)
  | 0, y => by rw [Nat.zero_add, Nat.add_zero]; rfl
  | a + 1, y => by rw [show a + 1 + b = a + b + 1 by omega, z_fl_succ, z_fl_succ, z_fl_add b a (y + 1), List.append_assoc, show y + 1 + a = y + (a + 1) by omega]
theorem z_fl_mem {α : Type} {f : Nat → List α} {r : α} : ∀ (n y : Nat), r ∈ z_fl f n y → ∃ j, y ≤ j ∧ j < y + n ∧ r ∈ f j
  | 0, y, h => by cases h
  | n + 1, y, h => by
    rw [z_fl_succ] at h
    rcases List.mem_append.1 h with h | h
    · exact ⟨y, by omega, by omega, h⟩
    · obtain ⟨j, h1, h2, h3⟩ := z_fl_mem n (y + 1) h
      exact ⟨j, by omega, by omega, h3⟩
theorem z_fl_filter {α : Type} {f : Nat → List α} {p : α → Bool} : ∀ (n y : Nat), (z_fl f n y).filter p = z_fl (fun j => (f j).filter p) n y
  | 0, y => rfl
  | n + 1, y => by rw [z_fl_succ, z_fl_succ, List.filter_append, z_fl_filter n (y + 1)]
/-! own forms -/
theorem z_ow_iff {m n : Nat} : ∀ (f x : Nat), z_ow m n f x = true ↔ ∀ j, x ≤ j → j < x + f → m.testBit j ≠ m.testBit (n - j) → (∀ y, x ≤ y → y < j → m.testBit y = m.testBit (n - y)) → m.testBit j = true
  | 0, x => ⟨fun _ j h1 h2 => by omega, fun _ => rfl⟩
  | f + 1, x => by
    unfold z_ow
    by_cases h : m.testBit x = m.testBit (n - x)
    · rw [beq_iff_eq.2 h, cond_true, z_ow_iff f (x + 1)]
      constructor
      · intro q j h1 h2 h3 h4
        by_cases hj : j = x
        · rw [hj] at h3; exact absurd h h3
        · exact q j (by omega) (by omega) h3 (fun y h5 h6 => h4 y (by omega) h6)
      · intro q j h1 h2 h3 h4
        refine q j (by omega) (by omega) h3 (fun y h5 h6 => ?_)
        by_cases hy : y = x
        · rw [hy]; exact h
        · exact h4 y (by omega) h6
    · rw [beq_eq_false_iff_ne.2 h, cond_false]
      constructor
      · intro q j h1 h2 h3 h4
        by_cases hj : j = x
        · rw [hj]; exact q
        · exact absurd (h4 x (by omega) (by omega)) h
      · intro q
        exact q x (by omega) (by omega) h (fun y h5 h6 => by omega)
theorem z_own_on {m n : Nat} (hm : m < 2 ^ (n + 1)) (hn : n < 64) : ZOwn (Int64.ofNat m) n ↔ z_own m n = true := by
  unfold z_own
  rw [z_ow_iff]
  have e : ∀ x, x ≤ n → z_tb2 (Int64.ofNat m) n x = m.testBit (n - x) := fun x hx => by
    unfold z_tb2
    rw [decide_eq_true hx, Bool.true_and, zbit_ofNat _ _ (by omega)]
  constructor
  · intro h j _ h2 h3 h4
    rw [← zbit_ofNat m j (by omega)]
    refine h j (by omega) (by rw [e j (by omega), zbit_ofNat _ _ (by omega)]; exact h3) (fun y hy => ?_)
    rw [e y (by omega), zbit_ofNat _ _ (by omega)]
    exact h4 y (by omega) hy
  · intro h x hx h1 h2
    by_cases hxn : x ≤ n
    · rw [zbit_ofNat _ _ hx]
      refine h x (by omega) (by omega) (by rw [← e x hxn, ← zbit_ofNat _ _ hx]; exact h1) (fun y _ hy => ?_)
      rw [← e y (by omega), ← zbit_ofNat _ _ (by omega)]
      exact h2 y hy
    · refine absurd ?_ h1
      rw [zbit_ofNat _ _ hx, z_tb_far (n + 1) hm (by omega)]
      unfold z_tb2
      rw [decide_eq_false hxn, Bool.false_and]
/-! masks and rows -/
theorem z_rise_agr {f g : Nat → Int} {c e : Nat} (hf : ZRise f c) (hg : ZRise g e) (h : ∀ x, ZMem f c x ↔ ZMem g e x) : ∀ j, j < c → j < e → f j = g j := by
  intro j
  induction j using Nat.strongRecOn with
  | ind j ih =>
    intro hj he
    have a1 : g j ≤ f j := by
      obtain ⟨i, hi, q⟩ := (h (f j)).1 ⟨j, hj, rfl⟩
      by_cases hij : i < j
      · have := ih i hij (by omega) hi
        have := hf i j hij hj
        omega
      · have := hg.le (show j ≤ i by omega) hi
        omega
    have a2 : f j ≤ g j := by
      obtain ⟨i, hi, q⟩ := (h (g j)).2 ⟨j, he, rfl⟩
      by_cases hij : i < j
      · have := ih i hij hi (by omega)
        have := hg i j hij he
        omega
      · have := hf.le (show j ≤ i by omega) hi
        omega
    omega
theorem z_rise_cle {f g : Nat → Int} {c e : Nat} (hf : ZRise f c) (hg : ZRise g e) (h : ∀ x, ZMem f c x ↔ ZMem g e x) : e ≤ c := by
  refine Nat.le_of_not_lt (fun hlt => ?_)
  obtain ⟨i, hi, q⟩ := (h (g c)).2 ⟨c, hlt, rfl⟩
  have a := z_rise_agr hf hg h i hi (by omega)
  have b := hg i c hi hlt
  omega
theorem z_rise_cnt {f g : Nat → Int} {c e : Nat} (hf : ZRise f c) (hg : ZRise g e) (h : ∀ x, ZMem f c x ↔ ZMem g e x) : c = e := Nat.le_antisymm (z_rise_cle hg hf (fun x => (h x).symm)) (z_rise_cle hf hg h)
theorem ZMR.cnt {m c e : Nat} {w v : Nat → Int} (h : ZMR m w c) (h' : ZMR m v e) : c = e := z_rise_cnt h.1 h'.1 (fun x => by rw [h.2, h'.2])
theorem ZMR.agr {m c : Nat} {w v : Nat → Int} (h : ZMR m w c) (h' : ZMR m v c) : ZAgr w v c := z_rise_uniq h.1 h'.1 (fun x => by rw [h.2, h'.2])
theorem ZMR.cong {m c : Nat} {w v : Nat → Int} (h : ZMR m w c) (e : ZAgr w v c) : ZMR m v c := ⟨e.rise h.1, fun x => by rw [← e.mem x]; exact h.2 x⟩
theorem ZMR.nat {m c : Nat} {w : Nat → Int} (h : ZMR m w c) {j : Nat} (hj : j < c) : ∃ x : Nat, w j = (x : Int) ∧ m.testBit x = true := by
  obtain ⟨h1, h2⟩ := (h.2 (w j)).1 ⟨j, hj, rfl⟩
  exact ⟨(w j).toNat, by omega, h2⟩
theorem ZMR.lt {m c n : Nat} {w : Nat → Int} (h : ZMR m w c) (hm : m < 2 ^ n) {j : Nat} (hj : j < c) : 0 ≤ w j ∧ w j < (n : Int) := by
  obtain ⟨x, h1, h2⟩ := h.nat hj
  by_cases hx : n ≤ x
  · rw [z_tb_far n hm hx] at h2; cases h2
  · omega
theorem ZMR.zero {m c : Nat} {w : Nat → Int} (h : ZMR m w c) (h0 : m.testBit 0 = true) : 0 < c ∧ w 0 = 0 := by
  have hm : ZMem w c 0 := (h.2 0).2 ⟨by omega, h0⟩
  refine ⟨?_, z_rise_zero h.1 (fun j hj => ((h.2 (w j)).1 ⟨j, hj, rfl⟩).1) hm⟩
  obtain ⟨j, hj, _⟩ := hm
  omega
theorem ZMR.one : ZMR 1 (fun _ => 0) 1 := by
  refine ⟨fun i j h1 h2 => by omega, fun x => ⟨?_, ?_⟩⟩
  · rintro ⟨j, hj, e⟩
    subst e
    exact ⟨Int.le_refl 0, Nat.testBit_one_zero⟩
  · rintro ⟨h1, h2⟩
    refine ⟨0, by omega, ?_⟩
    have := Nat.testBit_one_eq_true_iff_self_eq_zero.1 h2
    show (0 : Int) = x
    omega
theorem ZMR.add {m c y : Nat} {w : Nat → Int} (h : ZMR m w c) (hy : m.testBit y = false) : ZMR (m ||| 1 <<< y) (z_ins (y : Int) w c) (c + 1) := by
  have hn : ¬ ZMem w c (y : Int) := fun q => by
    have := ((h.2 _).1 q).2
    rw [Int.toNat_natCast, hy] at this
    cases this
  obtain ⟨h1, h2, _⟩ := z_ins_spec (y : Int) c w h.1 hn
  refine ⟨h1, fun x => ?_⟩
  rw [h2 x, h.2 x, Nat.testBit_or, z_tb_one, Bool.or_eq_true, decide_eq_true_iff]
  constructor
  · rintro (q | ⟨q1, q2⟩)
    · exact ⟨by omega, Or.inr (by omega)⟩
    · exact ⟨q1, Or.inl q2⟩
  · rintro ⟨q1, q2 | q2⟩
    · exact Or.inr ⟨q1, q2⟩
    · exact Or.inl (by omega)
theorem z_rdm_spec (b : Nat → Bool) : ∀ (n : Nat) (f : Nat → Int) (m x : Nat), ZRise f m → (∀ j, j < m → f j < (x : Int)) → ZRise (z_rdm b f m x n).1 (z_rdm b f m x n).2 ∧ ∀ y : Int, ZMem (z_rdm b f m x n).1 (z_rdm b f m x n).2 y ↔ (ZMem f m y ∨ ∃ z : Nat, x ≤ z ∧ z < x + n ∧ b z = true ∧ y = (z : Int))
  | 0, f, m, x, hf, _ => by
    unfold z_rdm
    refine ⟨hf, fun y => ⟨fun h => Or.inl h, ?_⟩⟩
    rintro (h | ⟨z, h1, h2, _⟩)
    · exact h
    · omega
  | n + 1, f, m, x, hf, hx => by
    unfold z_rdm
    by_cases hb : b x = true
    · rw [if_pos hb]
      have hn : ¬ ZMem f m (x : Int) := by rintro ⟨j, hj, e⟩; have := hx j hj; omega
      obtain ⟨a1, a2, _⟩ := z_ins_spec (x : Int) m f hf hn
      have a3 : ∀ j, j < m + 1 → z_ins (x : Int) f m j < ((x + 1 : Nat) : Int) := fun j hj => by
        rcases (a2 _).1 ⟨j, hj, rfl⟩ with q | ⟨i, hi, q⟩
        · omega
        · have := hx i hi; omega
      obtain ⟨b1, b2⟩ := z_rdm_spec b n _ (m + 1) (x + 1) a1 a3
      refine ⟨b1, fun y => ?_⟩
      rw [b2 y, a2 y]
      constructor
      · rintro ((q | q) | ⟨z, h1, h2, h3, h4⟩)
        · exact Or.inr ⟨x, by omega, by omega, hb, q⟩
        · exact Or.inl q
        · exact Or.inr ⟨z, by omega, by omega, h3, h4⟩
      · rintro (q | ⟨z, h1, h2, h3, h4⟩)
        · exact Or.inl (Or.inr q)
        · by_cases hz : z = x
          · exact Or.inl (Or.inl (by rw [h4, hz]))
          · exact Or.inr ⟨z, by omega, by omega, h3, h4⟩
    · rw [if_neg hb]
      obtain ⟨b1, b2⟩ := z_rdm_spec b n f m (x + 1) hf (fun j hj => by have := hx j hj; omega)
      refine ⟨b1, fun y => ?_⟩
      rw [b2 y]
      constructor
      · rintro (q | ⟨z, h1, h2, h3, h4⟩)
        · exact Or.inl q
        · exact Or.inr ⟨z, by omega, by omega, h3, h4⟩
      · rintro (q | ⟨z, h1, h2, h3, h4⟩)
        · exact Or.inl q
        · by_cases hz : z = x
          · rw [hz] at h3; exact absurd h3 hb
          · exact Or.inr ⟨z, by omega, by omega, h3, h4⟩
theorem z_rdm_mr {m : Nat} (hm : m < 2 ^ 64) (f : Nat → Int) : ZMR m (z_rdm (z_lb (Int64.ofNat m)) f 0 0 64).1 (z_rdm (z_lb (Int64.ofNat m)) f 0 0 64).2 := by
  obtain ⟨h1, h2⟩ := z_rdm_spec (z_lb (Int64.ofNat m)) 64 f 0 0 (fun i j _ h => by omega) (fun j h => by omega)
  refine ⟨h1, fun x => ?_⟩
  rw [h2 x]
  constructor
  · rintro (⟨j, hj, _⟩ | ⟨z, _, q2, q3, q4⟩)
    · omega
    · rw [z_lb_bit _ _ (by omega), zbit_ofNat _ _ (by omega)] at q3
      exact ⟨by omega, by rw [q4, Int.toNat_natCast]; exact q3⟩
  · rintro ⟨q1, q2⟩
    by_cases hx : x.toNat < 64
    · exact Or.inr ⟨x.toNat, by omega, by omega, by rw [z_lb_bit _ _ hx, zbit_ofNat _ _ hx]; exact q2, by omega⟩
    · rw [z_tb_far 64 hm (by omega)] at q2; cases q2
/-- the row of a mask, and how many marks it has -/
def z_row (m : Nat) : (Nat → Int) × Nat := z_rdm (z_lb (Int64.ofNat m)) (fun _ => 0) 0 0 64
theorem z_row_mr {m : Nat} (hm : m < 2 ^ 64) : ZMR m (z_row m).1 (z_row m).2 := z_rdm_mr hm _
/-- a mask of c marks, 0 among them, none from n on -/
def ZGd (n c m : Nat) : Prop := m < 2 ^ n ∧ m.testBit 0 = true ∧ ∃ w, ZMR m w c
theorem ZGd.add {n c m y : Nat} (h : ZGd n c m) (hy : m.testBit y = false) (hn : y < n) : ZGd n (c + 1) (m ||| 1 <<< y) := by
  obtain ⟨h1, h2, w, h3⟩ := h
  exact ⟨z_or_lt h1 (z_one_lt hn), by rw [Nat.testBit_or, h2, Bool.true_or], _, h3.add hy⟩
theorem ZGd.up {n n' c m : Nat} (h : ZGd n c m) (hn : n ≤ n') : ZGd n' c m := ⟨z_up_lt h.1 hn, h.2⟩
theorem ZGd.row {n c m : Nat} (h : ZGd n c m) (hn : n ≤ 64) : (z_row m).2 = c ∧ ZMR m (z_row m).1 c := by
  obtain ⟨h1, h2, w, h3⟩ := h
  have a := z_row_mr (z_up_lt h1 hn)
  have e := a.cnt h3
  exact ⟨e, by rw [← e]; exact a⟩
theorem ZGd.zrow {n c m : Nat} {w : Nat → Int} (h : ZGd n c m) (hw : ZMR m w c) (hc : c ≤ 24) (hn : n ≤ 1001) {rd : Int} (hr : rd = 0 ∨ (2 ≤ n ∧ n ≤ 400 ∧ rd = (n : Int))) : ZRow w c rd := by
  refine ⟨hc, hw.1, fun j hj => ?_, by omega, fun q => ⟨by omega, fun j hj => ?_⟩, fun _ => (hw.zero h.2.1).2⟩
  · have := hw.lt h.1 hj; omega
  · have := hw.lt h.1 hj; omega
