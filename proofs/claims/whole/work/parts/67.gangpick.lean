/-! GANGS: the class's choice -/
def z_isn {α : Type} : Option α → Bool
  | none => true
  | some _ => false
def z_mx : List Nat → Nat → Nat
  | [], a => a
  | w :: t, a => z_mx t (max a (Nat.log2 w))
def z_gck (r m : Nat) : Bool := z_al (fun n => z_isn (z_ch r (z_spb m n) 0) && Nat.ble (z_spb m n).length 512) (z_gln r m - r * m * (m - 1) / 2) (r * m * (m - 1) / 2) && Nat.ble (z_spb m (z_gln r m)).length 512 && !(z_isn (z_ch r (z_spb m (z_gln r m)) 0)) && Nat.beq (z_mx (z_ggb r m) 0) (z_gln r m) && Nat.ble (r * m * (m - 1) / 2) (z_gln r m) && Nat.ble (z_gln r m) (r * m * (m - 1) / 2 + 1) && Nat.ble (z_gln r m) 13
theorem z_gg_ev : z_al (fun r => z_al (fun m => (Nat.beq r 3 && Nat.beq m 4) || z_gck r m) 3 2) 3 1 = true := by decide +kernel
theorem z_ch_nil (left taken : Nat) : z_ch (left + 1) [] taken = none := rfl
def z_oe : Option (List Nat) → Option (List Nat) → Option (List Nat)
  | some c, _ => some c
  | none, e => e
theorem z_sc_cons (f : Nat → List Nat → Option (List Nat)) (x : Nat) (t : List Nat) : z_sc f (x :: t) = z_oe (f x t) (z_sc f t) := by
  rw [z_sc]
  cases f x t <;> rfl
theorem z_ch_cons (left taken x : Nat) (t : List Nat) : z_ch (left + 1) (x :: t) taken = z_oe (if z_ms x &&& taken = 0 then (z_ch left t (taken ||| z_ms x)).map (fun c => x :: c) else none) (z_ch (left + 1) t taken) := by
  have e := z_sc_cons (fun x t => z_fc (z_ms x) (fun o => bif Nat.beq (o &&& taken) 0 then (z_ch left t (taken ||| o)).map (fun c => x :: c) else none)) x t
  rw [z_fc_eq] at e
  refine Eq.trans e ?_
  by_cases h : z_ms x &&& taken = 0
  · rw [if_pos h, z_beq0.2 h, cond_true]
    rfl
  · rw [if_neg h, show Nat.beq (z_ms x &&& taken) 0 = false from Bool.eq_false_iff.2 (fun q => h (z_beq0.1 q)), cond_false]
    rfl
theorem z_ch_mem : ∀ (left : Nat) (l : List Nat) (taken : Nat) (c : List Nat), z_ch left l taken = some c → c.length = left ∧ ∀ x ∈ c, x ∈ l
  | 0, l, taken, c, h => by
    have h : some [] = some c := h
    cases h
    exact ⟨rfl, fun x hx => by cases hx⟩
  | left + 1, [], taken, c, h => by cases h
  | left + 1, x :: t, taken, c, h => by
    rw [z_ch_cons] at h
    have rest : z_ch (left + 1) t taken = some c → c.length = left + 1 ∧ ∀ y ∈ c, y ∈ x :: t := fun q => by
      obtain ⟨h1, h2⟩ := z_ch_mem (left + 1) t taken c q
      exact ⟨h1, fun y hy => List.mem_cons_of_mem _ (h2 y hy)⟩
    by_cases q : z_ms x &&& taken = 0
    · rw [if_pos q] at h
      cases hc : z_ch left t (taken ||| z_ms x) with
      | none => rw [hc] at h; exact rest h
      | some c' =>
        rw [hc] at h
        have h : some (x :: c') = some c := h
        cases h
        obtain ⟨h1, h2⟩ := z_ch_mem left t _ c' hc
        refine ⟨by rw [List.length_cons, h1], fun y hy => ?_⟩
        rcases List.mem_cons.1 hy with e | e
        · rw [e]; exact List.mem_cons_self
        · exact List.mem_cons_of_mem _ (h2 y e)
    · rw [if_neg q] at h
      exact rest h
theorem z_gg_facts {r m : Nat} (hr : 1 ≤ r ∧ r ≤ 3) (hm : 2 ≤ m ∧ m ≤ 4) (hrm : ¬ (r = 3 ∧ m = 4)) : (∀ n, r * m * (m - 1) / 2 ≤ n → n < z_gln r m → z_ch r (z_spb m n) 0 = none ∧ (z_spb m n).length ≤ 512) ∧ (z_spb m (z_gln r m)).length ≤ 512 ∧ z_ch r (z_spb m (z_gln r m)) 0 = some (z_ggb r m) ∧ z_mx (z_ggb r m) 0 = z_gln r m ∧ r * m * (m - 1) / 2 ≤ z_gln r m ∧ z_gln r m ≤ r * m * (m - 1) / 2 + 1 ∧ z_gln r m ≤ 13 := by
  have e := z_al_iff 3 2 (z_al_iff 3 1 z_gg_ev r (by omega) (by omega)) m (by omega) (by omega)
  have hb : (Nat.beq r 3 && Nat.beq m 4) = false := by
    rw [Bool.eq_false_iff]
    intro q
    rw [Bool.and_eq_true] at q
    exact hrm ⟨Nat.eq_of_beq_eq_true q.1, Nat.eq_of_beq_eq_true q.2⟩
  rw [hb, Bool.false_or] at e
  unfold z_gck at e
  simp only [Bool.and_eq_true] at e
  obtain ⟨⟨⟨⟨⟨⟨e1, e2⟩, e3⟩, e4⟩, e5⟩, e6⟩, e7⟩ := e
  refine ⟨fun n h1 h2 => ?_, Nat.le_of_ble_eq_true e2, ?_, Nat.eq_of_beq_eq_true e4, Nat.le_of_ble_eq_true e5, Nat.le_of_ble_eq_true e6, Nat.le_of_ble_eq_true e7⟩
  · have q := z_al_iff _ _ e1 n h1 (by omega)
    rw [Bool.and_eq_true] at q
    refine ⟨?_, Nat.le_of_ble_eq_true q.2⟩
    cases hz : z_ch r (z_spb m n) 0 with
    | none => rfl
    | some c => rw [hz] at q; cases q.1
  · unfold z_ggb
    cases hz : z_ch r (z_spb m (z_gln r m)) 0 with
    | none => rw [hz] at e3; cases e3
    | some c => rfl
theorem z_gg_mem {r m : Nat} (hr : 1 ≤ r ∧ r ≤ 3) (hm : 2 ≤ m ∧ m ≤ 4) (hrm : ¬ (r = 3 ∧ m = 4)) : (z_ggb r m).length = r ∧ ∀ x ∈ z_ggb r m, ZGd (z_gln r m + 1) m x := by
  obtain ⟨_, _, e3, _⟩ := z_gg_facts hr hm hrm
  obtain ⟨h1, h2⟩ := z_ch_mem _ _ _ _ e3
  exact ⟨h1, fun x hx => z_spb_gd (by omega) (h2 x hx)⟩
theorem z_msr_bit {m : Nat} : ∀ (f x y : Nat), (z_msr m f x).testBit y = true ↔ ∃ z, x ≤ z ∧ z < x + f ∧ m.testBit z = true ∧ m.testBit (z + y) = true
  | 0, x, y => by
    show (0 : Nat).testBit y = true ↔ _
    rw [Nat.zero_testBit]
    exact ⟨fun h => (by cases h), fun ⟨z, h1, h2, _⟩ => by omega⟩
  | f + 1, x, y => by
    unfold z_msr
    rw [Nat.testBit_or, Bool.or_eq_true, z_msr_bit f (x + 1) y]
    constructor
    · rintro (h | ⟨z, h1, h2, h3⟩)
      · cases hb : m.testBit x with
        | false => rw [hb, cond_false, Nat.zero_testBit] at h; cases h
        | true =>
          rw [hb, cond_true, Nat.testBit_shiftRight] at h
          exact ⟨x, by omega, by omega, hb, h⟩
      · exact ⟨z, by omega, by omega, h3⟩
    · rintro ⟨z, h1, h2, h3, h4⟩
      by_cases hz : z = x
      · subst hz
        exact Or.inl (by rw [h3, cond_true, Nat.testBit_shiftRight]; exact h4)
      · exact Or.inr ⟨z, by omega, by omega, h3, h4⟩
theorem z_ms_bit {m y : Nat} : (z_ms m).testBit y = true ↔ 1 ≤ y ∧ ∃ z, z < 64 ∧ m.testBit z = true ∧ m.testBit (z + y) = true := by
  unfold z_ms
  cases y with
  | zero =>
    rw [Nat.testBit_zero, decide_eq_true_iff]
    exact ⟨fun h => by omega, fun h => by omega⟩
  | succ y =>
    rw [Nat.testBit_succ, show z_msr m 64 0 / 2 * 2 / 2 = z_msr m 64 0 / 2 by omega, ← Nat.testBit_succ, z_msr_bit]
    constructor
    · rintro ⟨z, _, h2, h3, h4⟩; exact ⟨by omega, z, by omega, h3, h4⟩
    · rintro ⟨_, z, h2, h3, h4⟩; exact ⟨z, by omega, by omega, h3, h4⟩
theorem z_ms_on {m : Nat} {t : Int64} (hm : m < 2 ^ 64) (ht : ∀ y, y < 64 → (zbit t y = true ↔ 1 ≤ y ∧ ∃ x, x < 64 ∧ zbit (Int64.ofNat m) x = true ∧ zbit (Int64.ofNat m) (x + y) = true)) : t = Int64.ofNat (z_ms m) := zbit_ext (fun y hy => by
  rw [zbit_ofNat _ _ hy, Bool.eq_iff_iff, ht y hy, z_ms_bit]
  have e : ∀ x, zbit (Int64.ofNat m) x = m.testBit x := fun x => by
    by_cases hx : x < 64
    · exact zbit_ofNat _ _ hx
    · rw [zbit_far _ (by omega), z_tb_far 64 hm (by omega)]
  simp only [e])
theorem z_ms_lt {m : Nat} (hm : m < 2 ^ 64) : z_ms m < 2 ^ 64 := Nat.lt_pow_two_of_testBit _ (fun i hi => by
  rw [Bool.eq_false_iff]
  intro q
  obtain ⟨_, z, _, _, h⟩ := z_ms_bit.1 q
  rw [z_tb_far 64 hm (by omega)] at h
  cases h)
section ZGang
variable {k : ZK} {F I : Nat → Nat → Int} {R : Nat → Nat → Option Nat} {r q : Nat} {l : List Nat}
theorem c_chooses (T76 : k.1 76 = (1, 4)) (G2 : k.2.1 76 2 = some 78) (T78 : k.1 78 = (3, 3)) (hq : 95 ≤ q) (Tq : k.1 q = (3, l.length)) (hlen : l.length ≤ 512) (hr : r ≤ 3) (hl : ∀ x ∈ l, x < 2 ^ 64) :
    ∀ (left d num i taken : Nat) (L : Nat → Nat → Int64) (Q : Option ZV → ZH → Prop), num + left = r → i ≤ l.length → taken < 2 ^ 64 → (∀ j, j < l.length → L q j = Int64.ofNat (l.getD j 0)) →
      (∀ c L', z_ch left (l.drop i) taken = some c → (∀ a, a ≠ 78 → L' a = L a) → (∀ j, j < num → L' 78 j = L 78 j) → (∀ j, j < left → L' 78 (num + j) = Int64.ofNat (c.getD j 0)) → Q (some (.inl 1)) (k, F, I, L', R)) →
      (∀ L', z_ch left (l.drop i) taken = none → (∀ a, a ≠ 78 → L' a = L a) → (∀ j, j < num → L' 78 j = L 78 j) → Q (some (.inl 0)) (k, F, I, L', R)) →
      ZC (d + left + 2) 34 [.inr (.inr (some 76)), .inr (.inr (some q)), .inl (r : Int), .inl (num : Int), .inl (i : Int), .inr (.inl (Int64.ofNat taken))] (k, F, I, L, R) Q := by
  intro left
  induction left with
  | zero =>
    intro d num i taken L Q hn hi ht hL K1 K0
    refine ze_GangSearch_chooses ?_
    repeat (first | refine zw_t rfl rfl ?_ | refine zw_jump rfl rfl ?_ | refine zw_getI rfl rfl (by assumption) ?_ | refine zw_ialn rfl (by assumption) (by omega) ?_ | refine zw_laln rfl (by assumption) (by omega) ?_ | refine zw_iastn rfl (by omega) (by assumption) (by omega) ?_ | refine zw_lastn rfl (by assumption) (by omega) ?_ | refine zw_iald0 rfl (by assumption) (by omega) ?_ | refine zw_lald0 rfl (by assumption) (by omega) ?_ | refine zw_aaln rfl (by assumption) rfl (by omega) ?_ | refine zw_getR rfl (by assumption) (by assumption) ?_ | refine zw_alen rfl (by assumption) rfl ?_ | refine zw_iald rfl (by assumption) (by omega) (by omega) ?_ | refine zw_iast rfl (by omega) (by assumption) (by omega) (by omega) ?_ | refine zw_putI rfl (by assumption) ?_ | refine zw_lald rfl (by assumption) (by omega) (by omega) ?_ | refine zw_last rfl (by assumption) (by omega) (by omega) ?_ | refine zw_iadd rfl (by omega) (by omega) ?_ | refine zw_isub rfl (by omega) (by omega) ?_ | refine zw_iinc rfl rfl rfl (by omega) (by omega) ?_)
    refine zw_icmp_ge_t rfl (by omega) ?_
    repeat (first | refine zw_t rfl rfl ?_ | refine zw_jump rfl rfl ?_ | refine zw_getI rfl rfl (by assumption) ?_ | refine zw_ialn rfl (by assumption) (by omega) ?_ | refine zw_laln rfl (by assumption) (by omega) ?_ | refine zw_iastn rfl (by omega) (by assumption) (by omega) ?_ | refine zw_lastn rfl (by assumption) (by omega) ?_ | refine zw_iald0 rfl (by assumption) (by omega) ?_ | refine zw_lald0 rfl (by assumption) (by omega) ?_ | refine zw_aaln rfl (by assumption) rfl (by omega) ?_ | refine zw_getR rfl (by assumption) (by assumption) ?_ | refine zw_alen rfl (by assumption) rfl ?_ | refine zw_iald rfl (by assumption) (by omega) (by omega) ?_ | refine zw_iast rfl (by omega) (by assumption) (by omega) (by omega) ?_ | refine zw_putI rfl (by assumption) ?_ | refine zw_lald rfl (by assumption) (by omega) (by omega) ?_ | refine zw_last rfl (by assumption) (by omega) (by omega) ?_ | refine zw_iadd rfl (by omega) (by omega) ?_ | refine zw_isub rfl (by omega) (by omega) ?_ | refine zw_iinc rfl rfl rfl (by omega) (by omega) ?_)
    exact zw_zret rfl (Or.inr rfl) (K1 [] L rfl (fun _ _ => rfl) (fun _ _ => rfl) (fun j hj => by omega))
  | succ left ih =>
    intro d num i taken L Q hn hi ht hL K1 K0
    refine ze_GangSearch_chooses ?_
    repeat (first | refine zw_t rfl rfl ?_ | refine zw_jump rfl rfl ?_ | refine zw_getI rfl rfl (by assumption) ?_ | refine zw_ialn rfl (by assumption) (by omega) ?_ | refine zw_laln rfl (by assumption) (by omega) ?_ | refine zw_iastn rfl (by omega) (by assumption) (by omega) ?_ | refine zw_lastn rfl (by assumption) (by omega) ?_ | refine zw_iald0 rfl (by assumption) (by omega) ?_ | refine zw_lald0 rfl (by assumption) (by omega) ?_ | refine zw_aaln rfl (by assumption) rfl (by omega) ?_ | refine zw_getR rfl (by assumption) (by assumption) ?_ | refine zw_alen rfl (by assumption) rfl ?_ | refine zw_iald rfl (by assumption) (by omega) (by omega) ?_ | refine zw_iast rfl (by omega) (by assumption) (by omega) (by omega) ?_ | refine zw_putI rfl (by assumption) ?_ | refine zw_lald rfl (by assumption) (by omega) (by omega) ?_ | refine zw_last rfl (by assumption) (by omega) (by omega) ?_ | refine zw_iadd rfl (by omega) (by omega) ?_ | refine zw_isub rfl (by omega) (by omega) ?_ | refine zw_iinc rfl rfl rfl (by omega) (by omega) ?_)
    refine zw_icmp_ge_f rfl (by omega) ?_
    repeat (first | refine zw_t rfl rfl ?_ | refine zw_jump rfl rfl ?_ | refine zw_getI rfl rfl (by assumption) ?_ | refine zw_ialn rfl (by assumption) (by omega) ?_ | refine zw_laln rfl (by assumption) (by omega) ?_ | refine zw_iastn rfl (by omega) (by assumption) (by omega) ?_ | refine zw_lastn rfl (by assumption) (by omega) ?_ | refine zw_iald0 rfl (by assumption) (by omega) ?_ | refine zw_lald0 rfl (by assumption) (by omega) ?_ | refine zw_aaln rfl (by assumption) rfl (by omega) ?_ | refine zw_getR rfl (by assumption) (by assumption) ?_ | refine zw_alen rfl (by assumption) rfl ?_ | refine zw_iald rfl (by assumption) (by omega) (by omega) ?_ | refine zw_iast rfl (by omega) (by assumption) (by omega) (by omega) ?_ | refine zw_putI rfl (by assumption) ?_ | refine zw_lald rfl (by assumption) (by omega) (by omega) ?_ | refine zw_last rfl (by assumption) (by omega) (by omega) ?_ | refine zw_iadd rfl (by omega) (by omega) ?_ | refine zw_isub rfl (by omega) (by omega) ?_ | refine zw_iinc rfl rfl rfl (by omega) (by omega) ?_)
    refine zw_icmp_lt_t rfl (by omega) ?_
    have loop : ∀ (c y : Nat) (x8 x9 : Option ZV) (L2 : Nat → Nat → Int64), c + y = l.length → z_ch (left + 1) (l.drop i) taken = z_ch (left + 1) (l.drop y) taken → (∀ a, a ≠ 78 → L2 a = L a) → (∀ j, j < num → L2 78 j = L 78 j) → ZW (d + (left + 1) + 1) 34 20 [some (.inr (.inr (some 76))), some (.inr (.inr (some q))), some (.inl (r : Int)), some (.inl (num : Int)), some (.inl (i : Int)), some (.inr (.inl (Int64.ofNat taken))), none, some (.inl (y : Int)), x8, x9] [] (k, F, I, L2, R) Q := by
      intro c
      induction c with
      | zero =>
        intro y x8 x9 L2 hy he h1 h2
        repeat (first | refine zw_t rfl rfl ?_ | refine zw_jump rfl rfl ?_ | refine zw_getI rfl rfl (by assumption) ?_ | refine zw_ialn rfl (by assumption) (by omega) ?_ | refine zw_laln rfl (by assumption) (by omega) ?_ | refine zw_iastn rfl (by omega) (by assumption) (by omega) ?_ | refine zw_lastn rfl (by assumption) (by omega) ?_ | refine zw_iald0 rfl (by assumption) (by omega) ?_ | refine zw_lald0 rfl (by assumption) (by omega) ?_ | refine zw_aaln rfl (by assumption) rfl (by omega) ?_ | refine zw_getR rfl (by assumption) (by assumption) ?_ | refine zw_alen rfl (by assumption) rfl ?_ | refine zw_iald rfl (by assumption) (by omega) (by omega) ?_ | refine zw_iast rfl (by omega) (by assumption) (by omega) (by omega) ?_ | refine zw_putI rfl (by assumption) ?_ | refine zw_lald rfl (by assumption) (by omega) (by omega) ?_ | refine zw_last rfl (by assumption) (by omega) (by omega) ?_ | refine zw_iadd rfl (by omega) (by omega) ?_ | refine zw_isub rfl (by omega) (by omega) ?_ | refine zw_iinc rfl rfl rfl (by omega) (by omega) ?_)
        refine zw_icmp_ge_t rfl (by omega) ?_
        repeat (first | refine zw_t rfl rfl ?_ | refine zw_jump rfl rfl ?_ | refine zw_getI rfl rfl (by assumption) ?_ | refine zw_ialn rfl (by assumption) (by omega) ?_ | refine zw_laln rfl (by assumption) (by omega) ?_ | refine zw_iastn rfl (by omega) (by assumption) (by omega) ?_ | refine zw_lastn rfl (by assumption) (by omega) ?_ | refine zw_iald0 rfl (by assumption) (by omega) ?_ | refine zw_lald0 rfl (by assumption) (by omega) ?_ | refine zw_aaln rfl (by assumption) rfl (by omega) ?_ | refine zw_getR rfl (by assumption) (by assumption) ?_ | refine zw_alen rfl (by assumption) rfl ?_ | refine zw_iald rfl (by assumption) (by omega) (by omega) ?_ | refine zw_iast rfl (by omega) (by assumption) (by omega) (by omega) ?_ | refine zw_putI rfl (by assumption) ?_ | refine zw_lald rfl (by assumption) (by omega) (by omega) ?_ | refine zw_last rfl (by assumption) (by omega) (by omega) ?_ | refine zw_iadd rfl (by omega) (by omega) ?_ | refine zw_isub rfl (by omega) (by omega) ?_ | refine zw_iinc rfl rfl rfl (by omega) (by omega) ?_)
        refine zw_zret rfl (Or.inl rfl) (K0 L2 ?_ h1 h2)
        rw [he, List.drop_eq_nil_of_le (by omega)]
        rfl
      | succ c ihc =>
        intro y x8 x9 L2 hy he h1 h2
        have hyl : y < l.length := by omega
        have hd : l.drop y = l.getD y 0 :: l.drop (y + 1) := by
          rw [List.drop_eq_getElem_cons hyl, List.getD_eq_getElem?_getD, List.getElem?_eq_getElem hyl]
          rfl
        obtain ⟨x, hx⟩ : ∃ x, x = l.getD y 0 := ⟨_, rfl⟩
        have hxl : x < 2 ^ 64 := hl x (by rw [hx, List.getD_eq_getElem?_getD, List.getElem?_eq_getElem hyl]; exact List.getElem_mem hyl)
        have eL : L2 q y = Int64.ofNat x := by rw [h1 q (by omega), hL y hyl, hx]
        rw [← hx] at hd
        rw [hd, z_ch_cons] at he
        repeat (first | refine zw_t rfl rfl ?_ | refine zw_jump rfl rfl ?_ | refine zw_getI rfl rfl (by assumption) ?_ | refine zw_ialn rfl (by assumption) (by omega) ?_ | refine zw_laln rfl (by assumption) (by omega) ?_ | refine zw_iastn rfl (by omega) (by assumption) (by omega) ?_ | refine zw_lastn rfl (by assumption) (by omega) ?_ | refine zw_iald0 rfl (by assumption) (by omega) ?_ | refine zw_lald0 rfl (by assumption) (by omega) ?_ | refine zw_aaln rfl (by assumption) rfl (by omega) ?_ | refine zw_getR rfl (by assumption) (by assumption) ?_ | refine zw_alen rfl (by assumption) rfl ?_ | refine zw_iald rfl (by assumption) (by omega) (by omega) ?_ | refine zw_iast rfl (by omega) (by assumption) (by omega) (by omega) ?_ | refine zw_putI rfl (by assumption) ?_ | refine zw_lald rfl (by assumption) (by omega) (by omega) ?_ | refine zw_last rfl (by assumption) (by omega) (by omega) ?_ | refine zw_iadd rfl (by omega) (by omega) ?_ | refine zw_isub rfl (by omega) (by omega) ?_ | refine zw_iinc rfl rfl rfl (by omega) (by omega) ?_)
        refine zw_icmp_ge_f rfl (by omega) ?_
        repeat (first | refine zw_t rfl rfl ?_ | refine zw_jump rfl rfl ?_ | refine zw_getI rfl rfl (by assumption) ?_ | refine zw_ialn rfl (by assumption) (by omega) ?_ | refine zw_laln rfl (by assumption) (by omega) ?_ | refine zw_iastn rfl (by omega) (by assumption) (by omega) ?_ | refine zw_lastn rfl (by assumption) (by omega) ?_ | refine zw_iald0 rfl (by assumption) (by omega) ?_ | refine zw_lald0 rfl (by assumption) (by omega) ?_ | refine zw_aaln rfl (by assumption) rfl (by omega) ?_ | refine zw_getR rfl (by assumption) (by assumption) ?_ | refine zw_alen rfl (by assumption) rfl ?_ | refine zw_iald rfl (by assumption) (by omega) (by omega) ?_ | refine zw_iast rfl (by omega) (by assumption) (by omega) (by omega) ?_ | refine zw_putI rfl (by assumption) ?_ | refine zw_lald rfl (by assumption) (by omega) (by omega) ?_ | refine zw_last rfl (by assumption) (by omega) (by omega) ?_ | refine zw_iadd rfl (by omega) (by omega) ?_ | refine zw_isub rfl (by omega) (by omega) ?_ | refine zw_iinc rfl rfl rfl (by omega) (by omega) ?_)
        rw [eL]
        refine zw_calls rfl rfl rfl rfl rfl rfl ?_
        refine c_measuredBy (fun t ht2 => ?_)
        rw [z_ms_on hxl ht2]
        have key : z_lcmpv (Int64.ofNat (z_ms x) &&& Int64.ofNat taken) (Int64.ofNat 0) = 0 ↔ z_ms x &&& taken = 0 := by
          rw [z_on_and, z_lcmp_zero, z_on_zero (z_and_lt ht)]
        repeat (first | refine zw_t rfl rfl ?_ | refine zw_jump rfl rfl ?_ | refine zw_getI rfl rfl (by assumption) ?_ | refine zw_ialn rfl (by assumption) (by omega) ?_ | refine zw_laln rfl (by assumption) (by omega) ?_ | refine zw_iastn rfl (by omega) (by assumption) (by omega) ?_ | refine zw_lastn rfl (by assumption) (by omega) ?_ | refine zw_iald0 rfl (by assumption) (by omega) ?_ | refine zw_lald0 rfl (by assumption) (by omega) ?_ | refine zw_aaln rfl (by assumption) rfl (by omega) ?_ | refine zw_getR rfl (by assumption) (by assumption) ?_ | refine zw_alen rfl (by assumption) rfl ?_ | refine zw_iald rfl (by assumption) (by omega) (by omega) ?_ | refine zw_iast rfl (by omega) (by assumption) (by omega) (by omega) ?_ | refine zw_putI rfl (by assumption) ?_ | refine zw_lald rfl (by assumption) (by omega) (by omega) ?_ | refine zw_last rfl (by assumption) (by omega) (by omega) ?_ | refine zw_iadd rfl (by omega) (by omega) ?_ | refine zw_isub rfl (by omega) (by omega) ?_ | refine zw_iinc rfl rfl rfl (by omega) (by omega) ?_)
        obtain ⟨L3, hL3⟩ : ∃ L3, L3 = z_u2 L2 78 num (L2 q y) := ⟨_, rfl⟩
        have g1 : ∀ a, a ≠ 78 → L3 a = L a := fun a ha => by rw [hL3, z_u2_ad _ _ _ ha]; exact h1 a ha
        have g2 : ∀ j, j < num → L3 78 j = L 78 j := fun j hj => by rw [hL3, z_u2_nk _ _ _ _ (by omega)]; exact h2 j hj
        have g3 : L3 78 num = Int64.ofNat x := by rw [hL3, z_u2_same, eL]
        rw [← hL3]
        refine zw_if_ne rfl (fun h => ?_) (fun h => ?_)
        · rw [if_neg (fun q => h (key.2 q))] at he
          repeat (first | refine zw_t rfl rfl ?_ | refine zw_jump rfl rfl ?_ | refine zw_getI rfl rfl (by assumption) ?_ | refine zw_ialn rfl (by assumption) (by omega) ?_ | refine zw_laln rfl (by assumption) (by omega) ?_ | refine zw_iastn rfl (by omega) (by assumption) (by omega) ?_ | refine zw_lastn rfl (by assumption) (by omega) ?_ | refine zw_iald0 rfl (by assumption) (by omega) ?_ | refine zw_lald0 rfl (by assumption) (by omega) ?_ | refine zw_aaln rfl (by assumption) rfl (by omega) ?_ | refine zw_getR rfl (by assumption) (by assumption) ?_ | refine zw_alen rfl (by assumption) rfl ?_ | refine zw_iald rfl (by assumption) (by omega) (by omega) ?_ | refine zw_iast rfl (by omega) (by assumption) (by omega) (by omega) ?_ | refine zw_putI rfl (by assumption) ?_ | refine zw_lald rfl (by assumption) (by omega) (by omega) ?_ | refine zw_last rfl (by assumption) (by omega) (by omega) ?_ | refine zw_iadd rfl (by omega) (by omega) ?_ | refine zw_isub rfl (by omega) (by omega) ?_ | refine zw_iinc rfl rfl rfl (by omega) (by omega) ?_)
          refine zw_goto rfl ?_
          exact ihc (y + 1) _ _ L3 (by omega) he g1 g2
        · rw [if_pos (key.1 h)] at he
          repeat (first | refine zw_t rfl rfl ?_ | refine zw_jump rfl rfl ?_ | refine zw_getI rfl rfl (by assumption) ?_ | refine zw_ialn rfl (by assumption) (by omega) ?_ | refine zw_laln rfl (by assumption) (by omega) ?_ | refine zw_iastn rfl (by omega) (by assumption) (by omega) ?_ | refine zw_lastn rfl (by assumption) (by omega) ?_ | refine zw_iald0 rfl (by assumption) (by omega) ?_ | refine zw_lald0 rfl (by assumption) (by omega) ?_ | refine zw_aaln rfl (by assumption) rfl (by omega) ?_ | refine zw_getR rfl (by assumption) (by assumption) ?_ | refine zw_alen rfl (by assumption) rfl ?_ | refine zw_iald rfl (by assumption) (by omega) (by omega) ?_ | refine zw_iast rfl (by omega) (by assumption) (by omega) (by omega) ?_ | refine zw_putI rfl (by assumption) ?_ | refine zw_lald rfl (by assumption) (by omega) (by omega) ?_ | refine zw_last rfl (by assumption) (by omega) (by omega) ?_ | refine zw_iadd rfl (by omega) (by omega) ?_ | refine zw_isub rfl (by omega) (by omega) ?_ | refine zw_iinc rfl rfl rfl (by omega) (by omega) ?_)
          refine zw_callv rfl rfl rfl rfl rfl rfl (by assumption) ?_
          refine ZC.le (show d + left + 2 ≤ _ by omega) ?_
          refine zc_eqv (args' := [.inr (.inr (some 76)), .inr (.inr (some q)), .inl (r : Int), .inl ((num + 1 : Nat) : Int), .inl ((y + 1 : Nat) : Int), .inr (.inl (Int64.ofNat (taken ||| z_ms x)))]) ?_ ?_
          · rw [← z_on_or]
            rfl
          refine ih d (num + 1) (y + 1) _ L3 _ (by omega) (by omega) (z_or_lt ht (z_ms_lt hxl)) (fun j hj => by rw [g1 q (by omega)]; exact hL j hj) (fun c' L' e1 e2 e3 e4 => ?_) (fun L' e1 e2 e3 => ?_)
          · rw [e1] at he
            have he : z_ch (left + 1) (l.drop i) taken = some (x :: c') := he
            refine zw_if_eq_f rfl (by decide) ?_
            repeat (first | refine zw_t rfl rfl ?_ | refine zw_jump rfl rfl ?_ | refine zw_getI rfl rfl (by assumption) ?_ | refine zw_ialn rfl (by assumption) (by omega) ?_ | refine zw_laln rfl (by assumption) (by omega) ?_ | refine zw_iastn rfl (by omega) (by assumption) (by omega) ?_ | refine zw_lastn rfl (by assumption) (by omega) ?_ | refine zw_iald0 rfl (by assumption) (by omega) ?_ | refine zw_lald0 rfl (by assumption) (by omega) ?_ | refine zw_aaln rfl (by assumption) rfl (by omega) ?_ | refine zw_getR rfl (by assumption) (by assumption) ?_ | refine zw_alen rfl (by assumption) rfl ?_ | refine zw_iald rfl (by assumption) (by omega) (by omega) ?_ | refine zw_iast rfl (by omega) (by assumption) (by omega) (by omega) ?_ | refine zw_putI rfl (by assumption) ?_ | refine zw_lald rfl (by assumption) (by omega) (by omega) ?_ | refine zw_last rfl (by assumption) (by omega) (by omega) ?_ | refine zw_iadd rfl (by omega) (by omega) ?_ | refine zw_isub rfl (by omega) (by omega) ?_ | refine zw_iinc rfl rfl rfl (by omega) (by omega) ?_)
            refine zw_zret rfl (Or.inr rfl) (K1 (x :: c') L' he (fun a ha => (e2 a ha).trans (g1 a ha)) (fun j hj => (e3 j (by omega)).trans (g2 j hj)) (fun j hj => ?_))
            cases j with
            | zero => rw [Nat.add_zero, e3 num (by omega), g3]; rfl
            | succ j =>
              rw [show num + (j + 1) = num + 1 + j by omega, e4 j (by omega)]
              rfl
          · rw [e1] at he
            have he : z_ch (left + 1) (l.drop i) taken = z_ch (left + 1) (l.drop (y + 1)) taken := he
            refine zw_if_eq_t rfl rfl ?_
            repeat (first | refine zw_t rfl rfl ?_ | refine zw_jump rfl rfl ?_ | refine zw_getI rfl rfl (by assumption) ?_ | refine zw_ialn rfl (by assumption) (by omega) ?_ | refine zw_laln rfl (by assumption) (by omega) ?_ | refine zw_iastn rfl (by omega) (by assumption) (by omega) ?_ | refine zw_lastn rfl (by assumption) (by omega) ?_ | refine zw_iald0 rfl (by assumption) (by omega) ?_ | refine zw_lald0 rfl (by assumption) (by omega) ?_ | refine zw_aaln rfl (by assumption) rfl (by omega) ?_ | refine zw_getR rfl (by assumption) (by assumption) ?_ | refine zw_alen rfl (by assumption) rfl ?_ | refine zw_iald rfl (by assumption) (by omega) (by omega) ?_ | refine zw_iast rfl (by omega) (by assumption) (by omega) (by omega) ?_ | refine zw_putI rfl (by assumption) ?_ | refine zw_lald rfl (by assumption) (by omega) (by omega) ?_ | refine zw_last rfl (by assumption) (by omega) (by omega) ?_ | refine zw_iadd rfl (by omega) (by omega) ?_ | refine zw_isub rfl (by omega) (by omega) ?_ | refine zw_iinc rfl rfl rfl (by omega) (by omega) ?_)
            refine zw_goto rfl ?_
            exact ihc (y + 1) _ _ L' (by omega) he (fun a ha => (e2 a ha).trans (g1 a ha)) (fun j hj => (e3 j (by omega)).trans (g2 j hj))
    repeat (refine zw_ne 20 rfl ?_; first | refine zw_t rfl rfl ?_ | refine zw_jump rfl rfl ?_ | refine zw_getI rfl rfl (by assumption) ?_ | refine zw_ialn rfl (by assumption) (by omega) ?_ | refine zw_laln rfl (by assumption) (by omega) ?_ | refine zw_iastn rfl (by omega) (by assumption) (by omega) ?_ | refine zw_lastn rfl (by assumption) (by omega) ?_ | refine zw_iald0 rfl (by assumption) (by omega) ?_ | refine zw_lald0 rfl (by assumption) (by omega) ?_ | refine zw_aaln rfl (by assumption) rfl (by omega) ?_ | refine zw_getR rfl (by assumption) (by assumption) ?_ | refine zw_alen rfl (by assumption) rfl ?_ | refine zw_iald rfl (by assumption) (by omega) (by omega) ?_ | refine zw_iast rfl (by omega) (by assumption) (by omega) (by omega) ?_ | refine zw_putI rfl (by assumption) ?_ | refine zw_lald rfl (by assumption) (by omega) (by omega) ?_ | refine zw_last rfl (by assumption) (by omega) (by omega) ?_ | refine zw_iadd rfl (by omega) (by omega) ?_ | refine zw_isub rfl (by omega) (by omega) ?_ | refine zw_iinc rfl rfl rfl (by omega) (by omega) ?_)
    exact loop (l.length - i) i none none L (by omega) rfl (fun _ _ => rfl) (fun _ _ => rfl)
end ZGang
