/-! RINGS: how many there are at most -/
theorem z_fl_len {α : Type} {f g : Nat → List α} : ∀ (n y : Nat), (∀ j, y ≤ j → j < y + n → (f j).length ≤ (g j).length) → (z_fl f n y).length ≤ (z_fl g n y).length
  | 0, y, _ => Nat.le_refl _
  | n + 1, y, h => by
    rw [z_fl_succ, z_fl_succ, List.length_append, List.length_append]
    have h1 := h y (by omega) (by omega)
    have h2 := z_fl_len (f := f) (g := g) n (y + 1) (fun j a b => h j (by omega) (by omega))
    omega
theorem z_rp_len {n : Nat} {own own' : Nat → Bool} : ∀ (left mask last back ahead barred c : Nat), (∀ r, ZGd n (c + left) r → own r = true → own' r = true) → ZGd n c mask → mask < 2 ^ (last + 1) → (z_rp n own left mask last back ahead barred).length ≤ (z_rp n own' left mask last back ahead barred).length
  | 0, mask, last, back, ahead, barred, c, h, hg, _ => by
    show (bif own mask then [mask] else []).length ≤ (bif own' mask then [mask] else []).length
    cases ho : own mask with
    | false => exact Nat.zero_le _
    | true => rw [h mask hg ho]; exact Nat.le_refl _
  | left + 1, mask, last, back, ahead, barred, c, h, hg, hl => by
    rw [z_rp_succ, z_rp_succ]
    refine z_fl_len _ _ (fun y h1 h2 => ?_)
    cases (Nat.beq last 0 && !(Nat.beq (n % y) 0)) with
    | true => exact Nat.le_refl _
    | false =>
      cases (Nat.beq ((back <<< (y - last)) &&& (ahead >>> (y - last))) 0 && Nat.beq (((back <<< (y - last)) ||| (ahead >>> (y - last))) &&& (bif Nat.beq last 0 then z_fnr n y (n - 1) 1 else barred)) 0) with
      | false => exact Nat.le_refl _
      | true => exact z_rp_len left _ y _ _ _ (c + 1) (fun r hr => h r (by rw [show c + (left + 1) = c + 1 + left by omega]; exact hr)) (hg.add (z_tb_far (last + 1) hl h1) (by omega)) (z_or_lt (z_up_lt hl (by omega)) (z_one_lt (by omega)))
theorem z_rs_gd {n : Nat} {own : Nat → Bool} : ∀ (left mask last back ahead meas c r : Nat), ZGd n c mask → mask < 2 ^ (last + 1) → r ∈ z_rs n own left mask last back ahead meas → ZGd n (c + left) r ∧ own r = true
  | 0, mask, last, back, ahead, meas, c, r, hg, _, hr => by
    have hr : r ∈ (bif own mask then [mask] else []) := hr
    cases ho : own mask with
    | false => rw [ho] at hr; cases hr
    | true =>
      rw [ho, cond_true, List.mem_singleton] at hr
      rw [hr]
      exact ⟨hg, ho⟩
  | left + 1, mask, last, back, ahead, meas, c, r, hg, hl, hr => by
    rw [z_rs_succ] at hr
    obtain ⟨y, h1, h2, h3⟩ := z_fl_mem _ _ hr
    cases hc : (Nat.beq ((back <<< (y - last)) &&& (ahead >>> (y - last))) 0 && Nat.beq (((back <<< (y - last)) ||| (ahead >>> (y - last))) &&& meas) 0) with
    | false => rw [hc] at h3; cases h3
    | true =>
      rw [hc, cond_true] at h3
      rw [show c + (left + 1) = c + 1 + left by omega]
      exact z_rs_gd left _ y _ _ _ (c + 1) r (hg.add (z_tb_far (last + 1) hl h1) (by omega)) (z_or_lt (z_up_lt hl (by omega)) (z_one_lt (by omega))) h3
theorem z_rgb_gd {n m r : Nat} (hn : 2 ≤ n) (hm : 1 ≤ m) (hr : r ∈ z_rgb n m) : ZGd n m r ∧ z_or n r = true := by
  have := z_rs_gd (m - 1) 1 0 1 (1 <<< n) 0 1 r (z_gd1 (by omega)) (by decide) hr
  rw [show 1 + (m - 1) = m by omega] at this
  exact this
/-! the marks of a mask in a row -/
def z_mkr (m : Nat) : Nat → Nat → List Nat → List Nat
  | 0, _, l => l
  | f + 1, x, l => z_mkr m f (x + 1) (bif m.testBit x then x :: l else l)
theorem z_tb_beq (m x : Nat) : Nat.beq (Nat.land (Nat.shiftRight m x) 1) 1 = m.testBit x := by
  have e : Nat.land (Nat.shiftRight m x) 1 = m / 2 ^ x % 2 := by
    show (m >>> x) &&& 1 = _
    rw [Nat.and_one_is_mod, Nat.shiftRight_eq_div_pow]
  rw [e, Nat.testBit_eq_decide_div_mod_eq]
  by_cases h : m / 2 ^ x % 2 = 1
  · rw [h]; rfl
  · rw [decide_eq_false h]
    exact Bool.eq_false_iff.2 (fun q => h (Nat.eq_of_beq_eq_true q))
theorem z_mkl_eq {α : Type} (m : Nat) : ∀ (f x : Nat) (l : List Nat) (k : List Nat → α), z_mkl m f x l k = k (z_mkr m f x l)
  | 0, _, _, _ => rfl
  | f + 1, x, l, k => by
    unfold z_mkl z_mkr
    rw [z_tb_beq]
    cases m.testBit x with
    | true => rw [cond_true, cond_true, z_fc_eq]; exact z_mkl_eq m f (x + 1) _ k
    | false => rw [cond_false, cond_false, z_fc_eq]; exact z_mkl_eq m f (x + 1) _ k
theorem z_mkr_mem (m : Nat) : ∀ (f x : Nat) (l : List Nat) (y : Nat), y ∈ z_mkr m f x l ↔ (y ∈ l ∨ (x ≤ y ∧ y < x + f ∧ m.testBit y = true))
  | 0, x, l, y => ⟨fun h => Or.inl h, fun h => by
    rcases h with h | h
    · exact h
    · omega⟩
  | f + 1, x, l, y => by
    unfold z_mkr
    rw [z_mkr_mem m f (x + 1)]
    cases hb : m.testBit x with
    | true =>
      rw [cond_true, List.mem_cons]
      constructor
      · rintro ((h | h) | h)
        · exact Or.inr ⟨by omega, by omega, by rw [h]; exact hb⟩
        · exact Or.inl h
        · exact Or.inr ⟨by omega, by omega, h.2.2⟩
      · rintro (h | h)
        · exact Or.inl (Or.inr h)
        · by_cases hy : y = x
          · exact Or.inl (Or.inl hy)
          · exact Or.inr ⟨by omega, by omega, h.2.2⟩
    | false =>
      rw [cond_false]
      constructor
      · rintro (h | h)
        · exact Or.inl h
        · exact Or.inr ⟨by omega, by omega, h.2.2⟩
      · rintro (h | h)
        · exact Or.inl h
        · by_cases hy : y = x
          · have := h.2.2; rw [hy, hb] at this; cases this
          · exact Or.inr ⟨by omega, by omega, h.2.2⟩
theorem z_enc_bit {n a y b : Nat} : ∀ l : List Nat, (z_enc n a y l).testBit b = true ↔ ∃ x, x ∈ l ∧ b = n - 1 - (a * (x + n - y)) % n
  | [] => by
    show (0 : Nat).testBit b = true ↔ _
    rw [Nat.zero_testBit]
    exact ⟨fun h => (by cases h), fun ⟨x, h, _⟩ => (by cases h)⟩
  | x :: t => by
    unfold z_enc
    rw [Nat.testBit_or, Bool.or_eq_true, z_tb_one, decide_eq_true_iff, z_enc_bit t]
    constructor
    · rintro (h | ⟨z, h1, h2⟩)
      · exact ⟨x, List.mem_cons_self, h⟩
      · exact ⟨z, List.mem_cons_of_mem _ h1, h2⟩
    · rintro ⟨z, h1, h2⟩
      rcases List.mem_cons.1 h1 with h | h
      · rw [h] at h2; exact Or.inl h2
      · exact Or.inr ⟨z, h, h2⟩
/-- the greatest bit that is unlike decides -/
theorem z_tb_lt {a b i : Nat} (h1 : a.testBit i = false) (h2 : b.testBit i = true) (h3 : ∀ j, i < j → a.testBit j = b.testBit j) : a < b := by
  have e : a / 2 ^ (i + 1) = b / 2 ^ (i + 1) := Nat.eq_of_testBit_eq (fun j => by
    rw [Nat.testBit_div_two_pow, Nat.testBit_div_two_pow]
    exact h3 _ (by omega))
  rw [Nat.pow_succ, ← Nat.div_div_eq_div_mul, ← Nat.div_div_eq_div_mul] at e
  rw [Nat.testBit_eq_decide_div_mod_eq, decide_eq_false_iff_not] at h1
  rw [Nat.testBit_eq_decide_div_mod_eq, decide_eq_true_iff] at h2
  refine Nat.lt_of_not_le (fun q => ?_)
  have := Nat.div_le_div_right (c := 2 ^ i) q
  omega
theorem z_enc_le {n r c a y : Nat} {l : List Nat} (hn : 2 ≤ n) (hl : ∀ x, x ∈ l ↔ r.testBit x = true) (hg : ZGd n c r) (ho : ZOr n r) (ha : 1 ≤ a ∧ a < n) (hu : Nat.gcd a n = 1) (hy : r.testBit y = true) : z_enc n a y l ≤ z_enc n 1 0 l := by
  obtain ⟨g1, g2, w, hw⟩ := hg
  have hlt : ∀ x, r.testBit x = true → x < n := fun x hx => by
    refine Nat.lt_of_not_le (fun q => ?_)
    rw [z_tb_far n g1 q] at hx; cases hx
  have hww : ZWin w c n := fun j hj => hw.lt g1 hj
  obtain ⟨i, hi, ei⟩ := (hw.2 (y : Int)).2 ⟨by omega, by rw [Int.toNat_natCast]; exact hy⟩
  obtain ⟨h, r1, r2⟩ := z_can_ex hw.1 hww (by omega) hu hi
  have hb := ho w c hw a ha.1 ha.2 hu h ⟨i, hi, r1, r2⟩
  have hyn := hlt y hy
  have cast : ∀ x : Nat, x < n → ((a : Int) * ((x : Int) - (y : Int))) % (n : Int) = (((a * (x + n - y)) % n : Nat) : Int) := fun x hx => by
    rw [Int.natCast_emod, Int.natCast_mul, show ((x + n - y : Nat) : Int) = ((x : Int) - (y : Int)) + (n : Int) by omega, Int.mul_add, Int.add_mul_emod_self_right]
  have hm : ∀ z : Nat, ZMem h c (z : Int) ↔ ∃ x, r.testBit x = true ∧ (a * (x + n - y)) % n = z := by
    intro z
    rw [r2]
    constructor
    · rintro ⟨j, hj, e⟩
      obtain ⟨x, e1, e2⟩ := hw.nat hj
      rw [e1, ei, cast x (hlt x e2)] at e
      exact ⟨x, e2, by omega⟩
    · rintro ⟨x, e1, e2⟩
      obtain ⟨j, hj, ej⟩ := (hw.2 (x : Int)).2 ⟨by omega, by rw [Int.toNat_natCast]; exact e1⟩
      exact ⟨j, hj, by rw [ej, ei, cast x (hlt x e1), e2]⟩
  have hwm : ∀ z : Nat, ZMem w c (z : Int) ↔ r.testBit z = true := fun z => by
    rw [hw.2]
    exact ⟨fun q => by rw [Int.toNat_natCast] at q; exact q.2, fun q => ⟨by omega, by rw [Int.toNat_natCast]; exact q⟩⟩
  have bC : ∀ b, (z_enc n a y l).testBit b = true ↔ (b < n ∧ ZMem h c ((n - 1 - b : Nat) : Int)) := by
    intro b
    rw [z_enc_bit, hm]
    constructor
    · rintro ⟨x, e1, e2⟩
      have := Nat.mod_lt (a * (x + n - y)) (show 0 < n by omega)
      exact ⟨by omega, x, (hl x).1 e1, by omega⟩
    · rintro ⟨e0, x, e1, e2⟩
      exact ⟨x, (hl x).2 e1, by omega⟩
  have bE : ∀ b, (z_enc n 1 0 l).testBit b = true ↔ (b < n ∧ ZMem w c ((n - 1 - b : Nat) : Int)) := by
    intro b
    rw [z_enc_bit, hwm]
    have v : ∀ x, x < n → (1 * (x + n - 0)) % n = x := fun x hx => by
      rw [Nat.one_mul, Nat.sub_zero, Nat.add_mod_right, Nat.mod_eq_of_lt hx]
    constructor
    · rintro ⟨x, e1, e2⟩
      have hx := hlt x ((hl x).1 e1)
      rw [v x hx] at e2
      exact ⟨by omega, by rw [show n - 1 - b = x by omega]; exact (hl x).1 e1⟩
    · rintro ⟨e0, e1⟩
      exact ⟨n - 1 - b, (hl _).2 e1, by rw [v _ (by omega)]; omega⟩
  have h0 : h 0 = 0 := z_rise_zero r1 (fun j hj => by
    obtain ⟨j', _, e⟩ := (r2 (h j)).1 ⟨j, hj, rfl⟩
    rw [← e]
    exact Int.emod_nonneg _ (by omega)) ((r2 0).2 ⟨i, hi, by rw [Int.sub_self, Int.mul_zero, Int.zero_emod]⟩)
  have w0 := (hw.zero g2).2
  cases hb2 : z_bef w h (c - 1) 1 with
  | true =>
    obtain ⟨z, z1, z2, z3⟩ := z_lex hw.1 r1 (c - 1) 1 (by omega) (fun j hj => by rw [show j = 0 by omega, h0, w0]) hb2
    obtain ⟨j, hj, ej⟩ := z1
    obtain ⟨x, e1, e2⟩ := hw.nat hj
    have hx := hlt x e2
    have ez : z = (x : Int) := by omega
    subst ez
    refine Nat.le_of_lt (z_tb_lt (i := n - 1 - x) ?_ ?_ (fun b hb => ?_))
    · rw [Bool.eq_false_iff]
      intro q
      have := ((bC _).1 q).2
      rw [show n - 1 - (n - 1 - x) = x by omega] at this
      exact z2 this
    · exact (bE _).2 ⟨by omega, by rw [show n - 1 - (n - 1 - x) = x by omega]; exact ⟨j, hj, ej⟩⟩
    · rw [Bool.eq_iff_iff, bC, bE]
      by_cases hbn : b < n
      · rw [z3 _ (by omega)]
      · exact ⟨fun q => absurd q.1 hbn, fun q => absurd q.1 hbn⟩
  | false =>
    have ag : ZAgr h w c := fun j hj => by
      by_cases hj0 : j = 0
      · rw [hj0, h0, w0]
      · exact z_bef_tri (c - 1) 1 hb hb2 j (by omega) (by omega)
    refine Nat.le_of_eq (Nat.eq_of_testBit_eq (fun b => ?_))
    rw [Bool.eq_iff_iff, bC, bE, ag.mem]
theorem z_rtl_ok : ∀ n, n < 41 → 33 ≤ n → (z_rtl n).all (fun q => Nat.ble 1 q.1 && Nat.blt q.1 n) = true := by decide +kernel
theorem z_rtt_ok {n r c : Nat} (hn : 33 ≤ n ∧ n ≤ 40) (hg : ZGd n c r) (ho : ZOr n r) : z_rtt n r = true := by
  unfold z_rtt
  rw [z_mkl_eq, z_fc_eq, List.all_eq_true]
  intro q hq
  have hq2 := List.all_eq_true.1 (z_rtl_ok n (by omega) hn.1) q hq
  rw [Bool.and_eq_true] at hq2
  have q1 := Nat.le_of_ble_eq_true hq2.1
  have q2 : q.1 + 1 ≤ n := Nat.le_of_ble_eq_true hq2.2
  have hlt : ∀ x, r.testBit x = true → x < n := fun x hx => by
    refine Nat.lt_of_not_le (fun q => ?_)
    rw [z_tb_far n hg.1 q] at hx; cases hx
  have hl : ∀ x, x ∈ z_mkr r n 0 [] ↔ r.testBit x = true := fun x => by
    rw [z_mkr_mem]
    constructor
    · rintro (h | h)
      · cases h
      · exact h.2.2
    · intro h
      exact Or.inr ⟨by omega, by have := hlt x h; omega, h⟩
  cases hgd : Nat.beq (Nat.gcd q.1 n) 1 with
  | false => rfl
  | true =>
    rw [cond_true, z_fc_eq]
    refine Nat.ble_eq_true_of_le (z_enc_le (by omega) hl hg ho (by omega) (Nat.eq_of_beq_eq_true hgd) ?_)
    by_cases hk : q.2 < (z_mkr r n 0 []).length
    · rw [List.getD_eq_getElem?_getD, List.getElem?_eq_getElem hk]
      exact (hl _).1 (List.getElem_mem hk)
    · rw [List.getD_eq_getElem?_getD, List.getElem?_eq_none (by omega)]
      exact hg.2.1
theorem z_rgb_len {n m : Nat} (hn : 2 ≤ n ∧ n ≤ 40) (hm : 1 ≤ m ∧ m ≤ 6) : (z_rgb n m).length ≤ 512 := by
  have e : z_rck n = true := by
    by_cases h1 : n ≤ 32
    · exact z_al_iff 31 2 z_rg_ev1 n (by omega) (by omega)
    · by_cases h2 : n ≤ 36
      · exact z_al_iff 4 33 z_rg_ev2 n (by omega) (by omega)
      · by_cases h3 : n ≤ 38
        · exact z_al_iff 2 37 z_rg_ev3 n (by omega) (by omega)
        · exact z_al_iff 2 39 z_rg_ev4 n (by omega) (by omega)
  have e2 := Nat.le_of_ble_eq_true (z_al_iff 6 1 e m (by omega) (by omega))
  refine Nat.le_trans ?_ e2
  unfold z_rgb
  rw [← z_rg_eq hn]
  refine z_rp_len (m - 1) 1 0 1 (1 <<< n) 0 1 (fun r hr ho => ?_) (z_gd1 (by omega)) (by decide)
  have ho := z_or_iff.1 ho
  cases hb : (Nat.beq m 5 && Nat.ble 33 n) with
  | false => rfl
  | true =>
    rw [Bool.and_eq_true] at hb
    exact z_rtt_ok ⟨Nat.le_of_ble_eq_true hb.2, hn.2⟩ hr ho
