/-! THE BENCH: rings that are opened -/
theorem z_opn_cong (v : Nat → Int) (p : Int) : ∀ (n m i : Nat) (f g : Nat → Int), ZAgr f g m → (z_opn v p f m i n).2 = (z_opn v p g m i n).2 ∧ ZAgr (z_opn v p f m i n).1 (z_opn v p g m i n).1 (z_opn v p f m i n).2
  | 0, m, i, f, g, h => ⟨rfl, h⟩
  | n + 1, m, i, f, g, h => by
    unfold z_opn
    by_cases hp : v i ≤ p
    · rw [if_pos hp, if_pos hp]
      exact z_opn_cong v p n (m + 1) (i + 1) _ _ (z_ins_cong (v i) m f g h)
    · rw [if_neg hp, if_neg hp]
      exact z_opn_cong v p n m (i + 1) f g h
theorem z_opn_congv {v w : Nat → Int} (p : Int) : ∀ (n m i : Nat) (f : Nat → Int), (∀ j, i ≤ j → j < i + n → v j = w j) → z_opn v p f m i n = z_opn w p f m i n
  | 0, m, i, f, h => rfl
  | n + 1, m, i, f, h => by
    unfold z_opn
    rw [h i (by omega) (by omega), z_opn_congv p n (m + 1) (i + 1) _ (fun j a b => h j (by omega) (by omega)), z_opn_congv p n m (i + 1) _ (fun j a b => h j (by omega) (by omega))]
/-- the row that opens at mark a, as far as p; and how many marks it has -/
def z_opr (v : Nat → Int) (c : Nat) (rd : Int) (a : Nat) (p : Int) : (Nat → Int) × Nat := z_opn (z_far v a rd) p (fun _ => 0) 0 0 c
def z_of (c : Nat) (rd i p : Int) : Int := if 0 ≤ i ∧ i < (c : Int) ∧ 0 ≤ p then (if 0 < rd then 0 else 8) else 5
def sp_open (A : ZA) (s i p to : Int) : Int × ZA := if sp_mf A s to = 0 then (if z_of (A.2.1 s.toNat).1 (A.2.1 s.toNat).2.1 i p = 0 then (z_knd (z_opr (A.2.1 s.toNat).2.2 (A.2.1 s.toNat).1 (A.2.1 s.toNat).2.1 i.toNat p).1 (z_opr (A.2.1 s.toNat).2.2 (A.2.1 s.toNat).1 (A.2.1 s.toNat).2.1 i.toNat p).2 0, A.1, z_up A.2.1 to.toNat ((z_opr (A.2.1 s.toNat).2.2 (A.2.1 s.toNat).1 (A.2.1 s.toNat).2.1 i.toNat p).2, 0, (z_opr (A.2.1 s.toNat).2.2 (A.2.1 s.toNat).1 (A.2.1 s.toNat).2.1 i.toNat p).1), 0) else (-1, A.1, A.2.1, z_of (A.2.1 s.toNat).1 (A.2.1 s.toNat).2.1 i p)) else (-1, A.1, A.2.1, sp_mf A s to)
theorem z_far_dis {v : Nat → Int} {c a : Nat} {rd : Int} (h : ZRow v c rd) (hr : 0 < rd) (ha : a < c) : ZDis (z_far v a rd) c := by
  intro i j hij hj e
  have q := h.2.1 i j hij hj
  have w := (h.2.2.2.2.1 hr).2
  have n := h.2.2.1
  have b1 := w i (by omega)
  have b2 := w j hj
  have b3 := w a ha
  have c1 := n i (by omega)
  have c2 := n j hj
  have c3 := n a ha
  unfold z_far at e
  split at e <;> split at e <;> omega
theorem z_opr_row {v : Nat → Int} {c a : Nat} {rd p : Int} (h : ZRow v c rd) (hr : 0 < rd) (ha : a < c) (hp : 0 ≤ p) : 0 < (z_opr v c rd a p).2 ∧ ZRow (z_opr v c rd a p).1 (z_opr v c rd a p).2 0 ∧ (∀ y, ZMem (z_opr v c rd a p).1 (z_opr v c rd a p).2 y ↔ ∃ j, j < c ∧ z_far v a rd j ≤ p ∧ z_far v a rd j = y) := by
  have hd := z_far_dis h hr ha
  obtain ⟨s1, s2⟩ := z_opn_spec (z_far v a rd) p c 0 0 (fun _ => 0) (fun i j _ hj => by omega) (fun x y _ hxy hy => hd x y hxy (by omega)) (fun x _ _ ⟨j, hj, _⟩ => by omega)
  have le := z_opn_le (z_far v a rd) p c (fun _ => 0) 0 0
  have s3 : ∀ y, ZMem (z_opr v c rd a p).1 (z_opr v c rd a p).2 y ↔ ∃ j, j < c ∧ z_far v a rd j ≤ p ∧ z_far v a rd j = y := fun y => by
    unfold z_opr
    rw [s2 y]
    constructor
    · rintro (⟨j, hj, _⟩ | ⟨x, _, x2, x3, x4⟩)
      · omega
      · exact ⟨x, by omega, x3, x4⟩
    · rintro ⟨x, x2, x3, x4⟩
      exact Or.inr ⟨x, by omega, by omega, x3, x4⟩
  have b : ∀ j, j < c → 0 ≤ z_far v a rd j ∧ z_far v a rd j ≤ 1000 := fun j hj => by
    have w := (h.2.2.2.2.1 hr).2
    have b2 := w j hj
    have b3 := w a ha
    have c2 := h.2.2.1 j hj
    have c3 := h.2.2.1 a ha
    have c4 := h.2.2.2.1
    unfold z_far
    split <;> omega
  have e0 : z_far v a rd a = 0 := by unfold z_far; rw [if_neg (by omega)]; omega
  have hm0 : ZMem (z_opr v c rd a p).1 (z_opr v c rd a p).2 0 := (s3 0).2 ⟨a, ha, by omega, e0⟩
  have s4 : ∀ j, j < (z_opr v c rd a p).2 → 0 ≤ (z_opr v c rd a p).1 j ∧ (z_opr v c rd a p).1 j ≤ 1000 := fun j hj => by
    obtain ⟨i, i1, i2, i3⟩ := (s3 _).1 ⟨j, hj, rfl⟩
    rw [← i3]
    exact b i i1
  refine ⟨?_, ⟨?_, s1, s4, by omega, fun q => by omega, fun _ => z_rise_zero s1 (fun j hj => (s4 j hj).1) hm0⟩, s3⟩
  · obtain ⟨j, hj, _⟩ := hm0; omega
  · have := h.1
    show (z_opn (z_far v a rd) p (fun _ => 0) 0 0 c).2 ≤ 24
    omega
section ZBench9
variable {d : Nat} {A : ZA} {k : ZK} {F I : Nat → Nat → Int} {L : Nat → Nat → Int64} {R : Nat → Nat → Option Nat} {Q : Option ZV → ZH → Prop} {s i p to : Int}
theorem b_open (h : ZB A k F I L R) (K : ∀ F' I' L', ZKp F I L F' I' L' → ZB (sp_open A s i p to).2 k F' I' L' R → Q (some (.inl (sp_open A s i p to).1)) (k, F', I', L', R)) : ZC (d + 6) 109 [.inr (.inr (some 2)), .inl s, .inl i, .inl p, .inl to] (k, F, I, L, R) Q := by
  have hR := h.2.2.1
  obtain ⟨⟨a1, a2, a3, a4, a5, a6, a7, a8, a9, a10, a11, a12, a13, a14⟩, ⟨hm, _, _⟩, _⟩ := h.2.1
  have hm0 := hm
  obtain ⟨m1, m2, m3, m4⟩ := hm
  have no : ∀ (f : Int) (x6 : Option ZV), f ≠ 0 → Q (some (.inl (-1))) (k, z_u2 F 2 11 f, I, L, R) → ZW (d + 5) 109 55 [some (.inr (.inr (some 2))), some (.inl s), some (.inl i), some (.inl p), some (.inl to), some (.inl f), x6] [] (k, F, I, L, R) Q := by
    intro f x6 hf K
    repeat (first | refine zw_t rfl rfl ?_ | refine zw_jump rfl rfl ?_ | refine zw_getI rfl rfl (by assumption) ?_ | refine zw_ialn rfl (by assumption) (by omega) ?_ | refine zw_laln rfl (by assumption) (by omega) ?_ | refine zw_iastn rfl (by omega) (by assumption) (by omega) ?_ | refine zw_lastn rfl (by assumption) (by omega) ?_ | refine zw_iald0 rfl (by assumption) (by omega) ?_ | refine zw_lald0 rfl (by assumption) (by omega) ?_ | refine zw_aaln rfl (by assumption) rfl (by omega) ?_ | refine zw_getR rfl (by assumption) (by assumption) ?_ | refine zw_alen rfl (by assumption) rfl ?_ | refine zw_iald rfl (by assumption) (by omega) (by omega) ?_ | refine zw_iast rfl (by omega) (by assumption) (by omega) (by omega) ?_ | refine zw_putI rfl (by assumption) ?_ | refine zw_lald rfl (by assumption) (by omega) (by omega) ?_ | refine zw_last rfl (by assumption) (by omega) (by omega) ?_ | refine zw_iadd rfl (by omega) (by omega) ?_ | refine zw_isub rfl (by omega) (by omega) ?_ | refine zw_iinc rfl rfl rfl (by omega) (by omega) ?_)
    refine zw_callv rfl rfl rfl rfl rfl rfl (by assumption) ?_
    refine c_passes a1 ?_
    rw [if_neg hf]
    refine zw_if_ne_f rfl rfl ?_
    repeat (first | refine zw_t rfl rfl ?_ | refine zw_jump rfl rfl ?_ | refine zw_getI rfl rfl (by assumption) ?_ | refine zw_ialn rfl (by assumption) (by omega) ?_ | refine zw_laln rfl (by assumption) (by omega) ?_ | refine zw_iastn rfl (by omega) (by assumption) (by omega) ?_ | refine zw_lastn rfl (by assumption) (by omega) ?_ | refine zw_iald0 rfl (by assumption) (by omega) ?_ | refine zw_lald0 rfl (by assumption) (by omega) ?_ | refine zw_aaln rfl (by assumption) rfl (by omega) ?_ | refine zw_getR rfl (by assumption) (by assumption) ?_ | refine zw_alen rfl (by assumption) rfl ?_ | refine zw_iald rfl (by assumption) (by omega) (by omega) ?_ | refine zw_iast rfl (by omega) (by assumption) (by omega) (by omega) ?_ | refine zw_putI rfl (by assumption) ?_ | refine zw_lald rfl (by assumption) (by omega) (by omega) ?_ | refine zw_last rfl (by assumption) (by omega) (by omega) ?_ | refine zw_iadd rfl (by omega) (by omega) ?_ | refine zw_isub rfl (by omega) (by omega) ?_ | refine zw_iinc rfl rfl rfl (by omega) (by omega) ?_)
    exact zw_iret rfl K
  refine ze_B_open ?_
  repeat (first | refine zw_t rfl rfl ?_ | refine zw_jump rfl rfl ?_ | refine zw_getI rfl rfl (by assumption) ?_ | refine zw_ialn rfl (by assumption) (by omega) ?_ | refine zw_laln rfl (by assumption) (by omega) ?_ | refine zw_iastn rfl (by omega) (by assumption) (by omega) ?_ | refine zw_lastn rfl (by assumption) (by omega) ?_ | refine zw_iald0 rfl (by assumption) (by omega) ?_ | refine zw_lald0 rfl (by assumption) (by omega) ?_ | refine zw_aaln rfl (by assumption) rfl (by omega) ?_ | refine zw_getR rfl (by assumption) (by assumption) ?_ | refine zw_alen rfl (by assumption) rfl ?_ | refine zw_iald rfl (by assumption) (by omega) (by omega) ?_ | refine zw_iast rfl (by omega) (by assumption) (by omega) (by omega) ?_ | refine zw_putI rfl (by assumption) ?_ | refine zw_lald rfl (by assumption) (by omega) (by omega) ?_ | refine zw_last rfl (by assumption) (by omega) (by omega) ?_ | refine zw_iadd rfl (by omega) (by omega) ?_ | refine zw_isub rfl (by omega) (by omega) ?_ | refine zw_iinc rfl rfl rfl (by omega) (by omega) ?_)
  refine zw_callv rfl rfl rfl rfl rfl rfl (by assumption) ?_
  refine c_moveFault h ?_
  unfold sp_open at K
  by_cases hf : sp_mf A s to = 0
  · rw [if_pos hf] at K
    obtain ⟨hf1, u, rfl, hu⟩ := sp_mf_to hf
    obtain ⟨t, c, rd, v, rfl, ht, hy, hc0, f1, f2, hrow, hag, hru, hr4, hrow'⟩ := h.at hf1
    rw [Int.toNat_natCast, Int.toNat_natCast, hy] at K
    dsimp only at K
    have hru0 := hru
    obtain ⟨r1, r2, r3, r4⟩ := hru
    have huu := h.2.1.2.2.2.2.2.1 u hu
    have hu4 := hR.2 u hu
    have huu0 := huu
    obtain ⟨u1, u2, u3, u4⟩ := huu
    rw [hf]
    repeat (first | refine zw_t rfl rfl ?_ | refine zw_jump rfl rfl ?_ | refine zw_getI rfl rfl (by assumption) ?_ | refine zw_ialn rfl (by assumption) (by omega) ?_ | refine zw_laln rfl (by assumption) (by omega) ?_ | refine zw_iastn rfl (by omega) (by assumption) (by omega) ?_ | refine zw_lastn rfl (by assumption) (by omega) ?_ | refine zw_iald0 rfl (by assumption) (by omega) ?_ | refine zw_lald0 rfl (by assumption) (by omega) ?_ | refine zw_aaln rfl (by assumption) rfl (by omega) ?_ | refine zw_getR rfl (by assumption) (by assumption) ?_ | refine zw_alen rfl (by assumption) rfl ?_ | refine zw_iald rfl (by assumption) (by omega) (by omega) ?_ | refine zw_iast rfl (by omega) (by assumption) (by omega) (by omega) ?_ | refine zw_putI rfl (by assumption) ?_ | refine zw_lald rfl (by assumption) (by omega) (by omega) ?_ | refine zw_last rfl (by assumption) (by omega) (by omega) ?_ | refine zw_iadd rfl (by omega) (by omega) ?_ | refine zw_isub rfl (by omega) (by omega) ?_ | refine zw_iinc rfl rfl rfl (by omega) (by omega) ?_)
    refine zw_if_ne_f rfl rfl ?_
    repeat (first | refine zw_t rfl rfl ?_ | refine zw_jump rfl rfl ?_ | refine zw_getI rfl rfl (by assumption) ?_ | refine zw_ialn rfl (by assumption) (by omega) ?_ | refine zw_laln rfl (by assumption) (by omega) ?_ | refine zw_iastn rfl (by omega) (by assumption) (by omega) ?_ | refine zw_lastn rfl (by assumption) (by omega) ?_ | refine zw_iald0 rfl (by assumption) (by omega) ?_ | refine zw_lald0 rfl (by assumption) (by omega) ?_ | refine zw_aaln rfl (by assumption) rfl (by omega) ?_ | refine zw_getR rfl (by assumption) (by assumption) ?_ | refine zw_alen rfl (by assumption) rfl ?_ | refine zw_iald rfl (by assumption) (by omega) (by omega) ?_ | refine zw_iast rfl (by omega) (by assumption) (by omega) (by omega) ?_ | refine zw_putI rfl (by assumption) ?_ | refine zw_lald rfl (by assumption) (by omega) (by omega) ?_ | refine zw_last rfl (by assumption) (by omega) (by omega) ?_ | refine zw_iadd rfl (by omega) (by omega) ?_ | refine zw_isub rfl (by omega) (by omega) ?_ | refine zw_iinc rfl rfl rfl (by omega) (by omega) ?_)
    rw [hr4]
    repeat (first | refine zw_t rfl rfl ?_ | refine zw_jump rfl rfl ?_ | refine zw_getI rfl rfl (by assumption) ?_ | refine zw_ialn rfl (by assumption) (by omega) ?_ | refine zw_laln rfl (by assumption) (by omega) ?_ | refine zw_iastn rfl (by omega) (by assumption) (by omega) ?_ | refine zw_lastn rfl (by assumption) (by omega) ?_ | refine zw_iald0 rfl (by assumption) (by omega) ?_ | refine zw_lald0 rfl (by assumption) (by omega) ?_ | refine zw_aaln rfl (by assumption) rfl (by omega) ?_ | refine zw_getR rfl (by assumption) (by assumption) ?_ | refine zw_alen rfl (by assumption) rfl ?_ | refine zw_iald rfl (by assumption) (by omega) (by omega) ?_ | refine zw_iast rfl (by omega) (by assumption) (by omega) (by omega) ?_ | refine zw_putI rfl (by assumption) ?_ | refine zw_lald rfl (by assumption) (by omega) (by omega) ?_ | refine zw_last rfl (by assumption) (by omega) (by omega) ?_ | refine zw_iadd rfl (by omega) (by omega) ?_ | refine zw_isub rfl (by omega) (by omega) ?_ | refine zw_iinc rfl rfl rfl (by omega) (by omega) ?_)
    refine zw_callv rfl rfl rfl rfl rfl rfl (by assumption) ?_
    refine c_has hru0 f1 hrow.1 ?_
    by_cases hi : 0 ≤ i ∧ i < (c : Int)
    · rw [if_pos hi]
      refine zw_if_eq_f rfl (by decide) ?_
      repeat (first | refine zw_t rfl rfl ?_ | refine zw_jump rfl rfl ?_ | refine zw_getI rfl rfl (by assumption) ?_ | refine zw_ialn rfl (by assumption) (by omega) ?_ | refine zw_laln rfl (by assumption) (by omega) ?_ | refine zw_iastn rfl (by omega) (by assumption) (by omega) ?_ | refine zw_lastn rfl (by assumption) (by omega) ?_ | refine zw_iald0 rfl (by assumption) (by omega) ?_ | refine zw_lald0 rfl (by assumption) (by omega) ?_ | refine zw_aaln rfl (by assumption) rfl (by omega) ?_ | refine zw_getR rfl (by assumption) (by assumption) ?_ | refine zw_alen rfl (by assumption) rfl ?_ | refine zw_iald rfl (by assumption) (by omega) (by omega) ?_ | refine zw_iast rfl (by omega) (by assumption) (by omega) (by omega) ?_ | refine zw_putI rfl (by assumption) ?_ | refine zw_lald rfl (by assumption) (by omega) (by omega) ?_ | refine zw_last rfl (by assumption) (by omega) (by omega) ?_ | refine zw_iadd rfl (by omega) (by omega) ?_ | refine zw_isub rfl (by omega) (by omega) ?_ | refine zw_iinc rfl rfl rfl (by omega) (by omega) ?_)
      refine zw_if_ge rfl (fun h1 => ?_) (fun h1 => ?_)
      · repeat (first | refine zw_t rfl rfl ?_ | refine zw_jump rfl rfl ?_ | refine zw_getI rfl rfl (by assumption) ?_ | refine zw_ialn rfl (by assumption) (by omega) ?_ | refine zw_laln rfl (by assumption) (by omega) ?_ | refine zw_iastn rfl (by omega) (by assumption) (by omega) ?_ | refine zw_lastn rfl (by assumption) (by omega) ?_ | refine zw_iald0 rfl (by assumption) (by omega) ?_ | refine zw_lald0 rfl (by assumption) (by omega) ?_ | refine zw_aaln rfl (by assumption) rfl (by omega) ?_ | refine zw_getR rfl (by assumption) (by assumption) ?_ | refine zw_alen rfl (by assumption) rfl ?_ | refine zw_iald rfl (by assumption) (by omega) (by omega) ?_ | refine zw_iast rfl (by omega) (by assumption) (by omega) (by omega) ?_ | refine zw_putI rfl (by assumption) ?_ | refine zw_lald rfl (by assumption) (by omega) (by omega) ?_ | refine zw_last rfl (by assumption) (by omega) (by omega) ?_ | refine zw_iadd rfl (by omega) (by omega) ?_ | refine zw_isub rfl (by omega) (by omega) ?_ | refine zw_iinc rfl rfl rfl (by omega) (by omega) ?_)
        refine zw_callv rfl rfl rfl rfl rfl rfl (by assumption) ?_
        refine c_isRing hru0 ?_
        rw [f2]
        by_cases h3 : 0 < rd
        · rw [if_pos h3]
          refine zw_if_ne_t rfl (by decide) ?_
          rw [if_pos (by unfold z_of; rw [if_pos ⟨hi.1, hi.2, h1⟩, if_pos h3])] at K
          obtain ⟨a, rfl⟩ : ∃ a : Nat, i = (a : Int) := ⟨i.toNat, by omega⟩
          rw [Int.toNat_natCast] at K
          obtain ⟨o1, o2, o3⟩ := z_opr_row (a := a) (p := p) hrow h3 (by omega) h1
          repeat (first | refine zw_t rfl rfl ?_ | refine zw_jump rfl rfl ?_ | refine zw_getI rfl rfl (by assumption) ?_ | refine zw_ialn rfl (by assumption) (by omega) ?_ | refine zw_laln rfl (by assumption) (by omega) ?_ | refine zw_iastn rfl (by omega) (by assumption) (by omega) ?_ | refine zw_lastn rfl (by assumption) (by omega) ?_ | refine zw_iald0 rfl (by assumption) (by omega) ?_ | refine zw_lald0 rfl (by assumption) (by omega) ?_ | refine zw_aaln rfl (by assumption) rfl (by omega) ?_ | refine zw_getR rfl (by assumption) (by assumption) ?_ | refine zw_alen rfl (by assumption) rfl ?_ | refine zw_iald rfl (by assumption) (by omega) (by omega) ?_ | refine zw_iast rfl (by omega) (by assumption) (by omega) (by omega) ?_ | refine zw_putI rfl (by assumption) ?_ | refine zw_lald rfl (by assumption) (by omega) (by omega) ?_ | refine zw_last rfl (by assumption) (by omega) (by omega) ?_ | refine zw_iadd rfl (by omega) (by omega) ?_ | refine zw_isub rfl (by omega) (by omega) ?_ | refine zw_iinc rfl rfl rfl (by omega) (by omega) ?_)
          refine zw_callv rfl rfl rfl rfl rfl rfl (by assumption) ?_
          refine c_passes a1 ?_
          rw [if_pos rfl]
          refine zw_if_ne_t rfl (by decide) ?_
          repeat (first | refine zw_t rfl rfl ?_ | refine zw_jump rfl rfl ?_ | refine zw_getI rfl rfl (by assumption) ?_ | refine zw_ialn rfl (by assumption) (by omega) ?_ | refine zw_laln rfl (by assumption) (by omega) ?_ | refine zw_iastn rfl (by omega) (by assumption) (by omega) ?_ | refine zw_lastn rfl (by assumption) (by omega) ?_ | refine zw_iald0 rfl (by assumption) (by omega) ?_ | refine zw_lald0 rfl (by assumption) (by omega) ?_ | refine zw_aaln rfl (by assumption) rfl (by omega) ?_ | refine zw_getR rfl (by assumption) (by assumption) ?_ | refine zw_alen rfl (by assumption) rfl ?_ | refine zw_iald rfl (by assumption) (by omega) (by omega) ?_ | refine zw_iast rfl (by omega) (by assumption) (by omega) (by omega) ?_ | refine zw_putI rfl (by assumption) ?_ | refine zw_lald rfl (by assumption) (by omega) (by omega) ?_ | refine zw_last rfl (by assumption) (by omega) (by omega) ?_ | refine zw_iadd rfl (by omega) (by omega) ?_ | refine zw_isub rfl (by omega) (by omega) ?_ | refine zw_iinc rfl rfl rfl (by omega) (by omega) ?_)
          rw [hr4]
          repeat (first | refine zw_t rfl rfl ?_ | refine zw_jump rfl rfl ?_ | refine zw_getI rfl rfl (by assumption) ?_ | refine zw_ialn rfl (by assumption) (by omega) ?_ | refine zw_laln rfl (by assumption) (by omega) ?_ | refine zw_iastn rfl (by omega) (by assumption) (by omega) ?_ | refine zw_lastn rfl (by assumption) (by omega) ?_ | refine zw_iald0 rfl (by assumption) (by omega) ?_ | refine zw_lald0 rfl (by assumption) (by omega) ?_ | refine zw_aaln rfl (by assumption) rfl (by omega) ?_ | refine zw_getR rfl (by assumption) (by assumption) ?_ | refine zw_alen rfl (by assumption) rfl ?_ | refine zw_iald rfl (by assumption) (by omega) (by omega) ?_ | refine zw_iast rfl (by omega) (by assumption) (by omega) (by omega) ?_ | refine zw_putI rfl (by assumption) ?_ | refine zw_lald rfl (by assumption) (by omega) (by omega) ?_ | refine zw_last rfl (by assumption) (by omega) (by omega) ?_ | refine zw_iadd rfl (by omega) (by omega) ?_ | refine zw_isub rfl (by omega) (by omega) ?_ | refine zw_iinc rfl rfl rfl (by omega) (by omega) ?_)
          have l := z_refused h 0
          refine zw_callv rfl rfl rfl rfl rfl rfl (by assumption) ?_
          refine c_openFrom (rd := rd) (v := I (34 + 2 * t + 1)) hm0 hru0 (by omega) (by rw [z_u2_ad _ _ _ (by omega)]; exact f1) hrow.1 (by omega) (by rw [z_u2_ad _ _ _ (by omega)]; exact f2) (by have := hrow.2.2.2.1; omega) rfl hrow'.2.2.1 ?_
          have eo : z_opn (z_far (I (34 + 2 * t + 1)) a rd) p (I (5 + 1)) 0 0 c = z_opn (z_far v a rd) p (I 6) 0 0 c := z_opn_congv p c 0 0 _ (fun j _ hj => by unfold z_far; rw [hag j (by omega), hag a (by omega)])
          obtain ⟨eo1, eo2⟩ := z_opn_cong (z_far v a rd) p c 0 0 (I 6) (fun _ => 0) (fun j hj => by omega)
          rw [eo]
          obtain ⟨g, n, hgn⟩ : ∃ g n, z_opn (z_far v a rd) p (I 6) 0 0 c = (g, n) := ⟨_, _, rfl⟩
          rw [hgn] at eo1 eo2 ⊢
          dsimp only at eo1 eo2 ⊢
          have eo1' : n = (z_opr v c rd a p).2 := eo1
          have l2 := ZB.made l.2 (n : Int) 0 g
          obtain ⟨F1, hF1⟩ : ∃ F1, F1 = z_u2 (z_u2 (z_u2 F 2 11 0) 5 1 (n : Int)) 5 2 0 := ⟨_, rfl⟩
          obtain ⟨I1, hI1⟩ : ∃ I1, I1 = z_up I 6 g := ⟨_, rfl⟩
          rw [show z_up I (5 + 1) g = I1 from hI1.symm, ← hF1]
          rw [← hF1, ← hI1] at l2
          have ng1 : F1 5 1 = (n : Int) := by rw [hF1, z_u2_nk _ _ _ _ (by omega), z_u2_same]
          have ng2 : F1 5 2 = 0 := by rw [hF1, z_u2_same]
          have ng3 : I1 (5 + 1) = g := by rw [hI1]; exact z_up_same _ _ _
          have eo2' : ZAgr g (z_opr v c rd a p).1 n := eo2
          rw [← eo1'] at o1 o2 K
          have l3 := ZB.cpy (t := u) (c := n) (o := 5) (rd := 0) (v := (z_opr v c rd a p).1) l2.2 hu ng1 ng2 o2 (by rw [ng3]; exact eo2')
          repeat (first | refine zw_t rfl rfl ?_ | refine zw_jump rfl rfl ?_ | refine zw_getI rfl rfl (by assumption) ?_ | refine zw_ialn rfl (by assumption) (by omega) ?_ | refine zw_laln rfl (by assumption) (by omega) ?_ | refine zw_iastn rfl (by omega) (by assumption) (by omega) ?_ | refine zw_lastn rfl (by assumption) (by omega) ?_ | refine zw_iald0 rfl (by assumption) (by omega) ?_ | refine zw_lald0 rfl (by assumption) (by omega) ?_ | refine zw_aaln rfl (by assumption) rfl (by omega) ?_ | refine zw_getR rfl (by assumption) (by assumption) ?_ | refine zw_alen rfl (by assumption) rfl ?_ | refine zw_iald rfl (by assumption) (by omega) (by omega) ?_ | refine zw_iast rfl (by omega) (by assumption) (by omega) (by omega) ?_ | refine zw_putI rfl (by assumption) ?_ | refine zw_lald rfl (by assumption) (by omega) (by omega) ?_ | refine zw_last rfl (by assumption) (by omega) (by omega) ?_ | refine zw_iadd rfl (by omega) (by omega) ?_ | refine zw_isub rfl (by omega) (by omega) ?_ | refine zw_iinc rfl rfl rfl (by omega) (by omega) ?_)
          rw [hu4]
          repeat (first | refine zw_t rfl rfl ?_ | refine zw_jump rfl rfl ?_ | refine zw_getI rfl rfl (by assumption) ?_ | refine zw_ialn rfl (by assumption) (by omega) ?_ | refine zw_laln rfl (by assumption) (by omega) ?_ | refine zw_iastn rfl (by omega) (by assumption) (by omega) ?_ | refine zw_lastn rfl (by assumption) (by omega) ?_ | refine zw_iald0 rfl (by assumption) (by omega) ?_ | refine zw_lald0 rfl (by assumption) (by omega) ?_ | refine zw_aaln rfl (by assumption) rfl (by omega) ?_ | refine zw_getR rfl (by assumption) (by assumption) ?_ | refine zw_alen rfl (by assumption) rfl ?_ | refine zw_iald rfl (by assumption) (by omega) (by omega) ?_ | refine zw_iast rfl (by omega) (by assumption) (by omega) (by omega) ?_ | refine zw_putI rfl (by assumption) ?_ | refine zw_lald rfl (by assumption) (by omega) (by omega) ?_ | refine zw_last rfl (by assumption) (by omega) (by omega) ?_ | refine zw_iadd rfl (by omega) (by omega) ?_ | refine zw_isub rfl (by omega) (by omega) ?_ | refine zw_iinc rfl rfl rfl (by omega) (by omega) ?_)
          refine zw_callv rfl rfl rfl rfl rfl rfl (by assumption) ?_
          refine c_copy huu0 hm0 (by omega) ?_
          obtain ⟨F2, hF2⟩ : ∃ F2, F2 = z_u2 (z_u2 F1 (34 + 2 * u) 1 (F1 5 1)) (34 + 2 * u) 2 (F1 5 2) := ⟨_, rfl⟩
          obtain ⟨I2, hI2⟩ : ∃ I2, I2 = z_up I1 (34 + 2 * u + 1) (z_cpf 24 (I1 (5 + 1)) (I1 (34 + 2 * u + 1))) := ⟨_, rfl⟩
          rw [← hF2, ← hI2] at l3 ⊢
          have e5 : F2 5 = F1 5 := by rw [hF2, z_u2_ad _ _ _ (by omega), z_u2_ad _ _ _ (by omega)]
          have e6 : I2 (5 + 1) = g := by rw [hI2, z_up_ne _ _ (by omega)]; exact ng3
          repeat (first | refine zw_t rfl rfl ?_ | refine zw_jump rfl rfl ?_ | refine zw_getI rfl rfl (by assumption) ?_ | refine zw_ialn rfl (by assumption) (by omega) ?_ | refine zw_laln rfl (by assumption) (by omega) ?_ | refine zw_iastn rfl (by omega) (by assumption) (by omega) ?_ | refine zw_lastn rfl (by assumption) (by omega) ?_ | refine zw_iald0 rfl (by assumption) (by omega) ?_ | refine zw_lald0 rfl (by assumption) (by omega) ?_ | refine zw_aaln rfl (by assumption) rfl (by omega) ?_ | refine zw_getR rfl (by assumption) (by assumption) ?_ | refine zw_alen rfl (by assumption) rfl ?_ | refine zw_iald rfl (by assumption) (by omega) (by omega) ?_ | refine zw_iast rfl (by omega) (by assumption) (by omega) (by omega) ?_ | refine zw_putI rfl (by assumption) ?_ | refine zw_lald rfl (by assumption) (by omega) (by omega) ?_ | refine zw_last rfl (by assumption) (by omega) (by omega) ?_ | refine zw_iadd rfl (by omega) (by omega) ?_ | refine zw_isub rfl (by omega) (by omega) ?_ | refine zw_iinc rfl rfl rfl (by omega) (by omega) ?_)
          refine zw_callv rfl rfl rfl rfl rfl rfl (by assumption) ?_
          refine c_kindOf (v := g) (rd := 0) (c := n) h.2.1 hm0 (by omega) (by rw [e5]; exact ng1) (by rw [e5]; exact ng2) e6 (o2.agr eo2') l3.2.2.2.2.1 (fun top tt htb => ?_)
          rw [z_knd_cong eo2']
          have l4 := ZB.lens l3.2 top tt htb
          exact zw_iret rfl (K _ _ _ (((l.1.trans l2.1).trans l3.1).trans l4.1) l4.2)
        · rw [if_neg h3]
          refine zw_if_ne_f rfl rfl ?_
          have e : z_of c rd i p = 8 := by unfold z_of; rw [if_pos ⟨hi.1, hi.2, h1⟩, if_neg h3]
          rw [if_neg (by rw [e]; decide), e] at K
          repeat (refine zw_ne 55 rfl ?_; first | refine zw_t rfl rfl ?_ | refine zw_jump rfl rfl ?_ | refine zw_getI rfl rfl (by assumption) ?_ | refine zw_ialn rfl (by assumption) (by omega) ?_ | refine zw_laln rfl (by assumption) (by omega) ?_ | refine zw_iastn rfl (by omega) (by assumption) (by omega) ?_ | refine zw_lastn rfl (by assumption) (by omega) ?_ | refine zw_iald0 rfl (by assumption) (by omega) ?_ | refine zw_lald0 rfl (by assumption) (by omega) ?_ | refine zw_aaln rfl (by assumption) rfl (by omega) ?_ | refine zw_getR rfl (by assumption) (by assumption) ?_ | refine zw_alen rfl (by assumption) rfl ?_ | refine zw_iald rfl (by assumption) (by omega) (by omega) ?_ | refine zw_iast rfl (by omega) (by assumption) (by omega) (by omega) ?_ | refine zw_putI rfl (by assumption) ?_ | refine zw_lald rfl (by assumption) (by omega) (by omega) ?_ | refine zw_last rfl (by assumption) (by omega) (by omega) ?_ | refine zw_iadd rfl (by omega) (by omega) ?_ | refine zw_isub rfl (by omega) (by omega) ?_ | refine zw_iinc rfl rfl rfl (by omega) (by omega) ?_)
          exact no 8 _ (by decide) (K _ _ _ (z_refused h _).1 (z_refused h _).2)
      · have e : z_of c rd i p = 5 := by unfold z_of; rw [if_neg (by omega)]
        rw [if_neg (by rw [e]; decide), e] at K
        repeat (refine zw_ne 55 rfl ?_; first | refine zw_t rfl rfl ?_ | refine zw_jump rfl rfl ?_ | refine zw_getI rfl rfl (by assumption) ?_ | refine zw_ialn rfl (by assumption) (by omega) ?_ | refine zw_laln rfl (by assumption) (by omega) ?_ | refine zw_iastn rfl (by omega) (by assumption) (by omega) ?_ | refine zw_lastn rfl (by assumption) (by omega) ?_ | refine zw_iald0 rfl (by assumption) (by omega) ?_ | refine zw_lald0 rfl (by assumption) (by omega) ?_ | refine zw_aaln rfl (by assumption) rfl (by omega) ?_ | refine zw_getR rfl (by assumption) (by assumption) ?_ | refine zw_alen rfl (by assumption) rfl ?_ | refine zw_iald rfl (by assumption) (by omega) (by omega) ?_ | refine zw_iast rfl (by omega) (by assumption) (by omega) (by omega) ?_ | refine zw_putI rfl (by assumption) ?_ | refine zw_lald rfl (by assumption) (by omega) (by omega) ?_ | refine zw_last rfl (by assumption) (by omega) (by omega) ?_ | refine zw_iadd rfl (by omega) (by omega) ?_ | refine zw_isub rfl (by omega) (by omega) ?_ | refine zw_iinc rfl rfl rfl (by omega) (by omega) ?_)
        exact no 5 _ (by decide) (K _ _ _ (z_refused h _).1 (z_refused h _).2)
    · rw [if_neg hi]
      have e : z_of c rd i p = 5 := by unfold z_of; rw [if_neg (by omega)]
      rw [if_neg (by rw [e]; decide), e] at K
      refine zw_if_eq_t rfl rfl ?_
      repeat (refine zw_ne 55 rfl ?_; first | refine zw_t rfl rfl ?_ | refine zw_jump rfl rfl ?_ | refine zw_getI rfl rfl (by assumption) ?_ | refine zw_ialn rfl (by assumption) (by omega) ?_ | refine zw_laln rfl (by assumption) (by omega) ?_ | refine zw_iastn rfl (by omega) (by assumption) (by omega) ?_ | refine zw_lastn rfl (by assumption) (by omega) ?_ | refine zw_iald0 rfl (by assumption) (by omega) ?_ | refine zw_lald0 rfl (by assumption) (by omega) ?_ | refine zw_aaln rfl (by assumption) rfl (by omega) ?_ | refine zw_getR rfl (by assumption) (by assumption) ?_ | refine zw_alen rfl (by assumption) rfl ?_ | refine zw_iald rfl (by assumption) (by omega) (by omega) ?_ | refine zw_iast rfl (by omega) (by assumption) (by omega) (by omega) ?_ | refine zw_putI rfl (by assumption) ?_ | refine zw_lald rfl (by assumption) (by omega) (by omega) ?_ | refine zw_last rfl (by assumption) (by omega) (by omega) ?_ | refine zw_iadd rfl (by omega) (by omega) ?_ | refine zw_isub rfl (by omega) (by omega) ?_ | refine zw_iinc rfl rfl rfl (by omega) (by omega) ?_)
      exact no 5 _ (by decide) (K _ _ _ (z_refused h _).1 (z_refused h _).2)
  · rw [if_neg hf] at K
    repeat (first | refine zw_t rfl rfl ?_ | refine zw_jump rfl rfl ?_ | refine zw_getI rfl rfl (by assumption) ?_ | refine zw_ialn rfl (by assumption) (by omega) ?_ | refine zw_laln rfl (by assumption) (by omega) ?_ | refine zw_iastn rfl (by omega) (by assumption) (by omega) ?_ | refine zw_lastn rfl (by assumption) (by omega) ?_ | refine zw_iald0 rfl (by assumption) (by omega) ?_ | refine zw_lald0 rfl (by assumption) (by omega) ?_ | refine zw_aaln rfl (by assumption) rfl (by omega) ?_ | refine zw_getR rfl (by assumption) (by assumption) ?_ | refine zw_alen rfl (by assumption) rfl ?_ | refine zw_iald rfl (by assumption) (by omega) (by omega) ?_ | refine zw_iast rfl (by omega) (by assumption) (by omega) (by omega) ?_ | refine zw_putI rfl (by assumption) ?_ | refine zw_lald rfl (by assumption) (by omega) (by omega) ?_ | refine zw_last rfl (by assumption) (by omega) (by omega) ?_ | refine zw_iadd rfl (by omega) (by omega) ?_ | refine zw_isub rfl (by omega) (by omega) ?_ | refine zw_iinc rfl rfl rfl (by omega) (by omega) ?_)
    refine zw_if_ne_t rfl hf ?_
    exact no _ _ hf (K _ _ _ (z_refused h _).1 (z_refused h _).2)
end ZBench9
