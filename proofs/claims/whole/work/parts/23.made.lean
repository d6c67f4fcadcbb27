/-! RULER: what is made of another one -/
theorem z_u2_u2 {α : Type} (f : Nat → Nat → α) (a k : Nat) (v w : α) : z_u2 (z_u2 f a k v) a k w = z_u2 f a k w := by
  funext x y
  unfold z_u2
  split <;> rfl
theorem z_u2_self {α : Type} (f : Nat → Nat → α) {a k : Nat} {v : α} (h : f a k = v) : z_u2 f a k v = f := by
  funext x y
  unfold z_u2
  split
  · rename_i hc; rw [hc.1, hc.2, h]
  · rfl
theorem z_u2_comm {α : Type} (f : Nat → Nat → α) {a k b j : Nat} (h : ¬ (a = b ∧ k = j)) (v w : α) : z_u2 (z_u2 f a k v) b j w = z_u2 (z_u2 f b j w) a k v := by
  funext x y
  unfold z_u2
  by_cases h1 : x = a ∧ y = k
  · rw [if_pos h1]
    by_cases h2 : x = b ∧ y = j
    · exact absurd ⟨h1.1.symm.trans h2.1, h1.2.symm.trans h2.2⟩ h
    · rw [if_neg h2]
      simp [h1]
  · rw [if_neg h1]
    simp [h1]
/-- v i, v (i + 1) .. , n of them, come in, one after the other, behind i that are there -/
def z_bld (v : Nat → Int) : (Nat → Int) → Nat → Nat → (Nat → Int)
  | f, _, 0 => f
  | f, i, n + 1 => z_bld v (z_ins (v i) f i) (i + 1) n
/-- the same, those alone that are at most p; and how many are there then -/
def z_opn (v : Nat → Int) (p : Int) : (Nat → Int) → Nat → Nat → Nat → (Nat → Int) × Nat
  | f, m, _, 0 => (f, m)
  | f, m, i, n + 1 => if v i ≤ p then z_opn v p (z_ins (v i) f m) (m + 1) (i + 1) n else z_opn v p f m (i + 1) n
/-- the numbers from x on, n of them, whose bit is set, come in -/
def z_rdm (b : Nat → Bool) : (Nat → Int) → Nat → Nat → Nat → (Nat → Int) × Nat
  | f, m, _, 0 => (f, m)
  | f, m, x, n + 1 => if b x = true then z_rdm b (z_ins (x : Int) f m) (m + 1) (x + 1) n else z_rdm b f m (x + 1) n
theorem z_opn_le (v : Nat → Int) (p : Int) : ∀ (n : Nat) (f : Nat → Int) (m i : Nat), m ≤ (z_opn v p f m i n).2 ∧ (z_opn v p f m i n).2 ≤ m + n
  | 0, f, m, i => ⟨Nat.le_refl _, Nat.le_refl _⟩
  | n + 1, f, m, i => by
    unfold z_opn
    split
    · have := z_opn_le v p n (z_ins (v i) f m) (m + 1) (i + 1); omega
    · have := z_opn_le v p n f m (i + 1); omega
theorem z_rdm_le (b : Nat → Bool) : ∀ (n : Nat) (f : Nat → Int) (m x : Nat), m ≤ (z_rdm b f m x n).2
  | 0, f, m, x => Nat.le_refl _
  | n + 1, f, m, x => by
    unfold z_rdm
    split
    · have := z_rdm_le b n (z_ins (x : Int) f m) (m + 1) (x + 1); omega
    · exact z_rdm_le b n f m (x + 1)
/-- does a long have bit x -/
def z_lb (w : Int64) (x : Nat) : Bool := decide (z_lcmpv ((w.toUInt64 >>> ((Int32.ofInt (x : Int)).toInt64.toUInt64 &&& Int64.toUInt64 63)).toInt64 &&& Int64.ofNat 1) (Int64.ofNat 1) = 0)
section ZRuler2
variable {d r o c : Nat} {k : ZK} {F I : Nat → Nat → Int} {L : Nat → Nat → Int64} {R : Nat → Nat → Option Nat} {Q : Option ZV → ZH → Prop}
theorem c_multiplyFrom {kk rd : Int} (hr : ZRu k r) (ho : ZRu k o) (hne : r ≠ o) (hoc : F o 1 = (c : Int)) (hc2 : c ≤ 24) (hor : F o 2 = rd) (hrd : 0 < rd) (hk : 0 ≤ kk ∧ kk ≤ 1000) (hm : ∀ j, j < c → 0 ≤ I (o + 1) j ∧ I (o + 1) j ≤ 1000)
    (K : Q none (k, z_u2 (z_u2 F r 1 c) r 2 rd, z_up I (r + 1) (z_bld (fun j => I (o + 1) j * kk % rd) (I (r + 1)) 0 c), L, R)) : ZC (d + 2) 70 [.inr (.inr (some r)), .inr (.inr (some o)), .inl kk] (k, F, I, L, R) Q := by
  have hr0 := hr
  obtain ⟨h2, hT, hG, hA⟩ := hr
  obtain ⟨g2, gT, gG, gA⟩ := ho
  refine ze_Ruler_multiplyFrom ?_
  repeat (first | refine zw_t rfl rfl ?_ | refine zw_jump rfl rfl ?_ | refine zw_getI rfl rfl (by assumption) ?_ | refine zw_ialn rfl (by assumption) (by omega) ?_ | refine zw_laln rfl (by assumption) (by omega) ?_ | refine zw_iastn rfl (by omega) (by assumption) (by omega) ?_ | refine zw_lastn rfl (by assumption) (by omega) ?_ | refine zw_iald0 rfl (by assumption) (by omega) ?_ | refine zw_lald0 rfl (by assumption) (by omega) ?_ | refine zw_aaln rfl (by assumption) rfl (by omega) ?_ | refine zw_getR rfl (by assumption) (by assumption) ?_ | refine zw_alen rfl (by assumption) rfl ?_ | refine zw_iald rfl (by assumption) (by omega) (by omega) ?_ | refine zw_iast rfl (by omega) (by assumption) (by omega) (by omega) ?_ | refine zw_putI rfl (by assumption) ?_ | refine zw_lald rfl (by assumption) (by omega) (by omega) ?_ | refine zw_last rfl (by assumption) (by omega) (by omega) ?_ | refine zw_iadd rfl (by omega) (by omega) ?_ | refine zw_isub rfl (by omega) (by omega) ?_ | refine zw_iinc rfl rfl rfl (by omega) (by omega) ?_)
  refine zw_callv rfl rfl rfl rfl rfl rfl (by assumption) ?_
  refine c_begin hr0 ?_
  rw [hor]
  have loop : ∀ (n i : Nat) (F I : Nat → Nat → Int), n + i = c → F r 1 = (i : Int) → F r 2 = rd → F o 1 = (c : Int) → (∀ j, j < c → 0 ≤ I (o + 1) j ∧ I (o + 1) j ≤ 1000) → Q none (k, z_u2 F r 1 c, z_up I (r + 1) (z_bld (fun j => I (o + 1) j * kk % rd) (I (r + 1)) i n), L, R) → ZW (d + 1) 70 10 [some (.inr (.inr (some r))), some (.inr (.inr (some o))), some (.inl kk), some (.inl (i : Int))] [] (k, F, I, L, R) Q := by
    intro n
    induction n with
    | zero =>
      intro i F I hi f1 f2 f3 hm K
      repeat (first | refine zw_t rfl rfl ?_ | refine zw_jump rfl rfl ?_ | refine zw_getI rfl rfl (by assumption) ?_ | refine zw_ialn rfl (by assumption) (by omega) ?_ | refine zw_laln rfl (by assumption) (by omega) ?_ | refine zw_iastn rfl (by omega) (by assumption) (by omega) ?_ | refine zw_lastn rfl (by assumption) (by omega) ?_ | refine zw_iald0 rfl (by assumption) (by omega) ?_ | refine zw_lald0 rfl (by assumption) (by omega) ?_ | refine zw_aaln rfl (by assumption) rfl (by omega) ?_ | refine zw_getR rfl (by assumption) (by assumption) ?_ | refine zw_alen rfl (by assumption) rfl ?_ | refine zw_iald rfl (by assumption) (by omega) (by omega) ?_ | refine zw_iast rfl (by omega) (by assumption) (by omega) (by omega) ?_ | refine zw_putI rfl (by assumption) ?_ | refine zw_lald rfl (by assumption) (by omega) (by omega) ?_ | refine zw_last rfl (by assumption) (by omega) (by omega) ?_ | refine zw_iadd rfl (by omega) (by omega) ?_ | refine zw_isub rfl (by omega) (by omega) ?_ | refine zw_iinc rfl rfl rfl (by omega) (by omega) ?_)
      refine zw_icmp_ge_t rfl (by omega) ?_
      refine zw_vret rfl ?_
      rw [z_u2_self F (show F r 1 = (c : Int) by omega)] at K
      unfold z_bld at K
      rw [z_up_self] at K
      exact K
    | succ n ih =>
      intro i F I hi f1 f2 f3 hm K
      repeat (first | refine zw_t rfl rfl ?_ | refine zw_jump rfl rfl ?_ | refine zw_getI rfl rfl (by assumption) ?_ | refine zw_ialn rfl (by assumption) (by omega) ?_ | refine zw_laln rfl (by assumption) (by omega) ?_ | refine zw_iastn rfl (by omega) (by assumption) (by omega) ?_ | refine zw_lastn rfl (by assumption) (by omega) ?_ | refine zw_iald0 rfl (by assumption) (by omega) ?_ | refine zw_lald0 rfl (by assumption) (by omega) ?_ | refine zw_aaln rfl (by assumption) rfl (by omega) ?_ | refine zw_getR rfl (by assumption) (by assumption) ?_ | refine zw_alen rfl (by assumption) rfl ?_ | refine zw_iald rfl (by assumption) (by omega) (by omega) ?_ | refine zw_iast rfl (by omega) (by assumption) (by omega) (by omega) ?_ | refine zw_putI rfl (by assumption) ?_ | refine zw_lald rfl (by assumption) (by omega) (by omega) ?_ | refine zw_last rfl (by assumption) (by omega) (by omega) ?_ | refine zw_iadd rfl (by omega) (by omega) ?_ | refine zw_isub rfl (by omega) (by omega) ?_ | refine zw_iinc rfl rfl rfl (by omega) (by omega) ?_)
      refine zw_icmp_ge_f rfl (by omega) ?_
      repeat (first | refine zw_t rfl rfl ?_ | refine zw_jump rfl rfl ?_ | refine zw_getI rfl rfl (by assumption) ?_ | refine zw_ialn rfl (by assumption) (by omega) ?_ | refine zw_laln rfl (by assumption) (by omega) ?_ | refine zw_iastn rfl (by omega) (by assumption) (by omega) ?_ | refine zw_lastn rfl (by assumption) (by omega) ?_ | refine zw_iald0 rfl (by assumption) (by omega) ?_ | refine zw_lald0 rfl (by assumption) (by omega) ?_ | refine zw_aaln rfl (by assumption) rfl (by omega) ?_ | refine zw_getR rfl (by assumption) (by assumption) ?_ | refine zw_alen rfl (by assumption) rfl ?_ | refine zw_iald rfl (by assumption) (by omega) (by omega) ?_ | refine zw_iast rfl (by omega) (by assumption) (by omega) (by omega) ?_ | refine zw_putI rfl (by assumption) ?_ | refine zw_lald rfl (by assumption) (by omega) (by omega) ?_ | refine zw_last rfl (by assumption) (by omega) (by omega) ?_ | refine zw_iadd rfl (by omega) (by omega) ?_ | refine zw_isub rfl (by omega) (by omega) ?_ | refine zw_iinc rfl rfl rfl (by omega) (by omega) ?_)
      refine zw_icmp_ge_f rfl (by omega) ?_
      repeat (first | refine zw_t rfl rfl ?_ | refine zw_jump rfl rfl ?_ | refine zw_getI rfl rfl (by assumption) ?_ | refine zw_ialn rfl (by assumption) (by omega) ?_ | refine zw_laln rfl (by assumption) (by omega) ?_ | refine zw_iastn rfl (by omega) (by assumption) (by omega) ?_ | refine zw_lastn rfl (by assumption) (by omega) ?_ | refine zw_iald0 rfl (by assumption) (by omega) ?_ | refine zw_lald0 rfl (by assumption) (by omega) ?_ | refine zw_aaln rfl (by assumption) rfl (by omega) ?_ | refine zw_getR rfl (by assumption) (by assumption) ?_ | refine zw_alen rfl (by assumption) rfl ?_ | refine zw_iald rfl (by assumption) (by omega) (by omega) ?_ | refine zw_iast rfl (by omega) (by assumption) (by omega) (by omega) ?_ | refine zw_putI rfl (by assumption) ?_ | refine zw_lald rfl (by assumption) (by omega) (by omega) ?_ | refine zw_last rfl (by assumption) (by omega) (by omega) ?_ | refine zw_iadd rfl (by omega) (by omega) ?_ | refine zw_isub rfl (by omega) (by omega) ?_ | refine zw_iinc rfl rfl rfl (by omega) (by omega) ?_)
      refine zw_if_le_f rfl (by omega) ?_
      repeat (first | refine zw_t rfl rfl ?_ | refine zw_jump rfl rfl ?_ | refine zw_getI rfl rfl (by assumption) ?_ | refine zw_ialn rfl (by assumption) (by omega) ?_ | refine zw_laln rfl (by assumption) (by omega) ?_ | refine zw_iastn rfl (by omega) (by assumption) (by omega) ?_ | refine zw_lastn rfl (by assumption) (by omega) ?_ | refine zw_iald0 rfl (by assumption) (by omega) ?_ | refine zw_lald0 rfl (by assumption) (by omega) ?_ | refine zw_aaln rfl (by assumption) rfl (by omega) ?_ | refine zw_getR rfl (by assumption) (by assumption) ?_ | refine zw_alen rfl (by assumption) rfl ?_ | refine zw_iald rfl (by assumption) (by omega) (by omega) ?_ | refine zw_iast rfl (by omega) (by assumption) (by omega) (by omega) ?_ | refine zw_putI rfl (by assumption) ?_ | refine zw_lald rfl (by assumption) (by omega) (by omega) ?_ | refine zw_last rfl (by assumption) (by omega) (by omega) ?_ | refine zw_iadd rfl (by omega) (by omega) ?_ | refine zw_isub rfl (by omega) (by omega) ?_ | refine zw_iinc rfl rfl rfl (by omega) (by omega) ?_)
      have hmi := hm i (by omega)
      have b1 : 0 ≤ I (o + 1) i * kk := Int.mul_nonneg hmi.1 hk.1
      have b2 : I (o + 1) i * kk ≤ 1000 * 1000 := Int.mul_le_mul hmi.2 hk.2 hk.1 (by omega)
      refine zw_imul rfl (by omega) (by omega) ?_
      repeat (first | refine zw_t rfl rfl ?_ | refine zw_jump rfl rfl ?_ | refine zw_getI rfl rfl (by assumption) ?_ | refine zw_ialn rfl (by assumption) (by omega) ?_ | refine zw_laln rfl (by assumption) (by omega) ?_ | refine zw_iastn rfl (by omega) (by assumption) (by omega) ?_ | refine zw_lastn rfl (by assumption) (by omega) ?_ | refine zw_iald0 rfl (by assumption) (by omega) ?_ | refine zw_lald0 rfl (by assumption) (by omega) ?_ | refine zw_aaln rfl (by assumption) rfl (by omega) ?_ | refine zw_getR rfl (by assumption) (by assumption) ?_ | refine zw_alen rfl (by assumption) rfl ?_ | refine zw_iald rfl (by assumption) (by omega) (by omega) ?_ | refine zw_iast rfl (by omega) (by assumption) (by omega) (by omega) ?_ | refine zw_putI rfl (by assumption) ?_ | refine zw_lald rfl (by assumption) (by omega) (by omega) ?_ | refine zw_last rfl (by assumption) (by omega) (by omega) ?_ | refine zw_iadd rfl (by omega) (by omega) ?_ | refine zw_isub rfl (by omega) (by omega) ?_ | refine zw_iinc rfl rfl rfl (by omega) (by omega) ?_)
      refine zw_irem rfl (by omega) (by omega) ?_
      refine zw_callv rfl rfl rfl rfl rfl rfl (by assumption) ?_
      refine c_insert hr0 f1 (by omega) ?_
      repeat (first | refine zw_t rfl rfl ?_ | refine zw_jump rfl rfl ?_ | refine zw_getI rfl rfl (by assumption) ?_ | refine zw_ialn rfl (by assumption) (by omega) ?_ | refine zw_laln rfl (by assumption) (by omega) ?_ | refine zw_iastn rfl (by omega) (by assumption) (by omega) ?_ | refine zw_lastn rfl (by assumption) (by omega) ?_ | refine zw_iald0 rfl (by assumption) (by omega) ?_ | refine zw_lald0 rfl (by assumption) (by omega) ?_ | refine zw_aaln rfl (by assumption) rfl (by omega) ?_ | refine zw_getR rfl (by assumption) (by assumption) ?_ | refine zw_alen rfl (by assumption) rfl ?_ | refine zw_iald rfl (by assumption) (by omega) (by omega) ?_ | refine zw_iast rfl (by omega) (by assumption) (by omega) (by omega) ?_ | refine zw_putI rfl (by assumption) ?_ | refine zw_lald rfl (by assumption) (by omega) (by omega) ?_ | refine zw_last rfl (by assumption) (by omega) (by omega) ?_ | refine zw_iadd rfl (by omega) (by omega) ?_ | refine zw_isub rfl (by omega) (by omega) ?_ | refine zw_iinc rfl rfl rfl (by omega) (by omega) ?_)
      refine zw_goto rfl ?_
      refine ih (i + 1) _ _ (by omega) (z_u2_same _ _ _ _) (by rw [z_u2_nk _ _ _ _ (by omega)]; exact f2) (by rw [z_u2_na _ _ _ _ (Ne.symm hne)]; exact f3) (fun j hj => by rw [z_up_ne _ _ (by omega)]; exact hm j hj) ?_
      rw [z_u2_u2, z_up_up, z_up_same, z_up_ne _ _ (show o + 1 ≠ r + 1 by omega), f2]
      unfold z_bld at K
      exact K
  repeat (refine zw_ne 10 rfl ?_; first | refine zw_t rfl rfl ?_ | refine zw_jump rfl rfl ?_ | refine zw_getI rfl rfl (by assumption) ?_ | refine zw_ialn rfl (by assumption) (by omega) ?_ | refine zw_laln rfl (by assumption) (by omega) ?_ | refine zw_iastn rfl (by omega) (by assumption) (by omega) ?_ | refine zw_lastn rfl (by assumption) (by omega) ?_ | refine zw_iald0 rfl (by assumption) (by omega) ?_ | refine zw_lald0 rfl (by assumption) (by omega) ?_ | refine zw_aaln rfl (by assumption) rfl (by omega) ?_ | refine zw_getR rfl (by assumption) (by assumption) ?_ | refine zw_alen rfl (by assumption) rfl ?_ | refine zw_iald rfl (by assumption) (by omega) (by omega) ?_ | refine zw_iast rfl (by omega) (by assumption) (by omega) (by omega) ?_ | refine zw_putI rfl (by assumption) ?_ | refine zw_lald rfl (by assumption) (by omega) (by omega) ?_ | refine zw_last rfl (by assumption) (by omega) (by omega) ?_ | refine zw_iadd rfl (by omega) (by omega) ?_ | refine zw_isub rfl (by omega) (by omega) ?_ | refine zw_iinc rfl rfl rfl (by omega) (by omega) ?_)
  refine loop c 0 _ I (by omega) ?_ ?_ ?_ hm ?_
  · rw [z_u2_nk _ _ _ _ (by omega), z_u2_same]; rfl
  · exact z_u2_same _ _ _ _
  · rw [z_u2_na _ _ _ _ (Ne.symm hne), z_u2_na _ _ _ _ (Ne.symm hne)]; exact hoc
  · rw [z_u2_comm _ (by omega), z_u2_u2]
    exact K
/-- what a mark of a turned ruler becomes -/
def z_tv (f : Nat → Int) (c : Nat) (rd : Int) (j : Nat) : Int := if 0 < rd then (if f j = 0 then 0 else rd - f j) else f (c - 1) - f j
theorem c_turnFrom {rd : Int} (hr : ZRu k r) (ho : ZRu k o) (hne : r ≠ o) (hoc : F o 1 = (c : Int)) (hc2 : c ≤ 24) (hor : F o 2 = rd) (hrd : 0 ≤ rd ∧ rd ≤ 1000) (hm : ∀ j, j < c → 0 ≤ I (o + 1) j ∧ I (o + 1) j ≤ 1000)
    (K : Q none (k, z_u2 (z_u2 F r 1 c) r 2 rd, z_up I (r + 1) (z_bld (fun j => z_tv (I (o + 1)) c rd (c - 1 - j)) (I (r + 1)) 0 c), L, R)) : ZC (d + 3) 69 [.inr (.inr (some r)), .inr (.inr (some o))] (k, F, I, L, R) Q := by
  have hr0 := hr
  have ho0 := ho
  obtain ⟨h2, hT, hG, hA⟩ := hr
  obtain ⟨g2, gT, gG, gA⟩ := ho
  refine ze_Ruler_turnFrom ?_
  repeat (first | refine zw_t rfl rfl ?_ | refine zw_jump rfl rfl ?_ | refine zw_getI rfl rfl (by assumption) ?_ | refine zw_ialn rfl (by assumption) (by omega) ?_ | refine zw_laln rfl (by assumption) (by omega) ?_ | refine zw_iastn rfl (by omega) (by assumption) (by omega) ?_ | refine zw_lastn rfl (by assumption) (by omega) ?_ | refine zw_iald0 rfl (by assumption) (by omega) ?_ | refine zw_lald0 rfl (by assumption) (by omega) ?_ | refine zw_aaln rfl (by assumption) rfl (by omega) ?_ | refine zw_getR rfl (by assumption) (by assumption) ?_ | refine zw_alen rfl (by assumption) rfl ?_ | refine zw_iald rfl (by assumption) (by omega) (by omega) ?_ | refine zw_iast rfl (by omega) (by assumption) (by omega) (by omega) ?_ | refine zw_putI rfl (by assumption) ?_ | refine zw_lald rfl (by assumption) (by omega) (by omega) ?_ | refine zw_last rfl (by assumption) (by omega) (by omega) ?_ | refine zw_iadd rfl (by omega) (by omega) ?_ | refine zw_isub rfl (by omega) (by omega) ?_ | refine zw_iinc rfl rfl rfl (by omega) (by omega) ?_)
  refine zw_callv rfl rfl rfl rfl rfl rfl (by assumption) ?_
  refine c_begin hr0 ?_
  rw [hor]
  have loop : ∀ (n i : Nat) (F I : Nat → Nat → Int), n + i = c → F r 1 = (i : Int) → F r 2 = rd → F o 1 = (c : Int) → (∀ j, j < c → 0 ≤ I (o + 1) j ∧ I (o + 1) j ≤ 1000) → ∀ x3, Q none (k, z_u2 F r 1 c, z_up I (r + 1) (z_bld (fun j => z_tv (I (o + 1)) c rd (c - 1 - j)) (I (r + 1)) i n), L, R) → ZW (d + 2) 69 15 [some (.inr (.inr (some r))), some (.inr (.inr (some o))), some (.inl ((n : Int) - 1)), x3] [] (k, F, I, L, R) Q := by
    intro n
    induction n with
    | zero =>
      intro i F I hi f1 f2 f3 hm x3 K
      repeat (first | refine zw_t rfl rfl ?_ | refine zw_jump rfl rfl ?_ | refine zw_getI rfl rfl (by assumption) ?_ | refine zw_ialn rfl (by assumption) (by omega) ?_ | refine zw_laln rfl (by assumption) (by omega) ?_ | refine zw_iastn rfl (by omega) (by assumption) (by omega) ?_ | refine zw_lastn rfl (by assumption) (by omega) ?_ | refine zw_iald0 rfl (by assumption) (by omega) ?_ | refine zw_lald0 rfl (by assumption) (by omega) ?_ | refine zw_aaln rfl (by assumption) rfl (by omega) ?_ | refine zw_getR rfl (by assumption) (by assumption) ?_ | refine zw_alen rfl (by assumption) rfl ?_ | refine zw_iald rfl (by assumption) (by omega) (by omega) ?_ | refine zw_iast rfl (by omega) (by assumption) (by omega) (by omega) ?_ | refine zw_putI rfl (by assumption) ?_ | refine zw_lald rfl (by assumption) (by omega) (by omega) ?_ | refine zw_last rfl (by assumption) (by omega) (by omega) ?_ | refine zw_iadd rfl (by omega) (by omega) ?_ | refine zw_isub rfl (by omega) (by omega) ?_ | refine zw_iinc rfl rfl rfl (by omega) (by omega) ?_)
      refine zw_if_lt_t rfl (by omega) ?_
      refine zw_vret rfl ?_
      rw [z_u2_self F (show F r 1 = (c : Int) by omega)] at K
      unfold z_bld at K
      rw [z_up_self] at K
      exact K
    | succ n ih =>
      intro i F I hi f1 f2 f3 hm x3 K
      repeat (first | refine zw_t rfl rfl ?_ | refine zw_jump rfl rfl ?_ | refine zw_getI rfl rfl (by assumption) ?_ | refine zw_ialn rfl (by assumption) (by omega) ?_ | refine zw_laln rfl (by assumption) (by omega) ?_ | refine zw_iastn rfl (by omega) (by assumption) (by omega) ?_ | refine zw_lastn rfl (by assumption) (by omega) ?_ | refine zw_iald0 rfl (by assumption) (by omega) ?_ | refine zw_lald0 rfl (by assumption) (by omega) ?_ | refine zw_aaln rfl (by assumption) rfl (by omega) ?_ | refine zw_getR rfl (by assumption) (by assumption) ?_ | refine zw_alen rfl (by assumption) rfl ?_ | refine zw_iald rfl (by assumption) (by omega) (by omega) ?_ | refine zw_iast rfl (by omega) (by assumption) (by omega) (by omega) ?_ | refine zw_putI rfl (by assumption) ?_ | refine zw_lald rfl (by assumption) (by omega) (by omega) ?_ | refine zw_last rfl (by assumption) (by omega) (by omega) ?_ | refine zw_iadd rfl (by omega) (by omega) ?_ | refine zw_isub rfl (by omega) (by omega) ?_ | refine zw_iinc rfl rfl rfl (by omega) (by omega) ?_)
      refine zw_if_lt_f rfl (by omega) ?_
      repeat (first | refine zw_t rfl rfl ?_ | refine zw_jump rfl rfl ?_ | refine zw_getI rfl rfl (by assumption) ?_ | refine zw_ialn rfl (by assumption) (by omega) ?_ | refine zw_laln rfl (by assumption) (by omega) ?_ | refine zw_iastn rfl (by omega) (by assumption) (by omega) ?_ | refine zw_lastn rfl (by assumption) (by omega) ?_ | refine zw_iald0 rfl (by assumption) (by omega) ?_ | refine zw_lald0 rfl (by assumption) (by omega) ?_ | refine zw_aaln rfl (by assumption) rfl (by omega) ?_ | refine zw_getR rfl (by assumption) (by assumption) ?_ | refine zw_alen rfl (by assumption) rfl ?_ | refine zw_iald rfl (by assumption) (by omega) (by omega) ?_ | refine zw_iast rfl (by omega) (by assumption) (by omega) (by omega) ?_ | refine zw_putI rfl (by assumption) ?_ | refine zw_lald rfl (by assumption) (by omega) (by omega) ?_ | refine zw_last rfl (by assumption) (by omega) (by omega) ?_ | refine zw_iadd rfl (by omega) (by omega) ?_ | refine zw_isub rfl (by omega) (by omega) ?_ | refine zw_iinc rfl rfl rfl (by omega) (by omega) ?_)
      refine zw_callv rfl rfl rfl rfl rfl rfl (by assumption) ?_
      rw [show ((n + 1 : Nat) : Int) - 1 = (n : Int) by omega]
      refine c_atn ho0 f3 hc2 (by omega) ?_
      have hmn := hm n (by omega)
      have fin : ∀ v : Int, v = z_tv (I (o + 1)) c rd n → ∀ x3, ZW (d + 2) 69 56 [some (.inr (.inr (some r))), some (.inr (.inr (some o))), some (.inl (n : Int)), x3] [.inl v, .inr (.inr (some r))] (k, F, I, L, R) Q := by
        intro v hv x3
        refine zw_callv rfl rfl rfl rfl rfl rfl (by assumption) ?_
        refine c_insert hr0 f1 (by omega) ?_
        repeat (first | refine zw_t rfl rfl ?_ | refine zw_jump rfl rfl ?_ | refine zw_getI rfl rfl (by assumption) ?_ | refine zw_ialn rfl (by assumption) (by omega) ?_ | refine zw_laln rfl (by assumption) (by omega) ?_ | refine zw_iastn rfl (by omega) (by assumption) (by omega) ?_ | refine zw_lastn rfl (by assumption) (by omega) ?_ | refine zw_iald0 rfl (by assumption) (by omega) ?_ | refine zw_lald0 rfl (by assumption) (by omega) ?_ | refine zw_aaln rfl (by assumption) rfl (by omega) ?_ | refine zw_getR rfl (by assumption) (by assumption) ?_ | refine zw_alen rfl (by assumption) rfl ?_ | refine zw_iald rfl (by assumption) (by omega) (by omega) ?_ | refine zw_iast rfl (by omega) (by assumption) (by omega) (by omega) ?_ | refine zw_putI rfl (by assumption) ?_ | refine zw_lald rfl (by assumption) (by omega) (by omega) ?_ | refine zw_last rfl (by assumption) (by omega) (by omega) ?_ | refine zw_iadd rfl (by omega) (by omega) ?_ | refine zw_isub rfl (by omega) (by omega) ?_ | refine zw_iinc rfl rfl rfl (by omega) (by omega) ?_)
        refine zw_goto rfl ?_
        refine zw_eqv ?_ rfl rfl (ih (i + 1) _ _ (by omega) (z_u2_same _ _ _ _) (by rw [z_u2_nk _ _ _ _ (by omega)]; exact f2) (by rw [z_u2_na _ _ _ _ (Ne.symm hne)]; exact f3) (fun j hj => by rw [z_up_ne _ _ (by omega)]; exact hm j hj) x3 ?_)
        · rfl
        · rw [z_u2_u2, z_up_up, z_up_same, z_up_ne _ _ (show o + 1 ≠ r + 1 by omega), hv]
          unfold z_bld at K
          rw [show c - 1 - i = n by omega] at K
          exact K
      repeat (first | refine zw_t rfl rfl ?_ | refine zw_jump rfl rfl ?_ | refine zw_getI rfl rfl (by assumption) ?_ | refine zw_ialn rfl (by assumption) (by omega) ?_ | refine zw_laln rfl (by assumption) (by omega) ?_ | refine zw_iastn rfl (by omega) (by assumption) (by omega) ?_ | refine zw_lastn rfl (by assumption) (by omega) ?_ | refine zw_iald0 rfl (by assumption) (by omega) ?_ | refine zw_lald0 rfl (by assumption) (by omega) ?_ | refine zw_aaln rfl (by assumption) rfl (by omega) ?_ | refine zw_getR rfl (by assumption) (by assumption) ?_ | refine zw_alen rfl (by assumption) rfl ?_ | refine zw_iald rfl (by assumption) (by omega) (by omega) ?_ | refine zw_iast rfl (by omega) (by assumption) (by omega) (by omega) ?_ | refine zw_putI rfl (by assumption) ?_ | refine zw_lald rfl (by assumption) (by omega) (by omega) ?_ | refine zw_last rfl (by assumption) (by omega) (by omega) ?_ | refine zw_iadd rfl (by omega) (by omega) ?_ | refine zw_isub rfl (by omega) (by omega) ?_ | refine zw_iinc rfl rfl rfl (by omega) (by omega) ?_)
      refine zw_callv rfl rfl rfl rfl rfl rfl (by assumption) ?_
      refine c_isRing hr0 ?_
      rw [f2]
      by_cases h3 : 0 < rd
      · rw [if_pos h3]
        refine zw_if_ne_t rfl (by omega) ?_
        repeat (first | refine zw_t rfl rfl ?_ | refine zw_jump rfl rfl ?_ | refine zw_getI rfl rfl (by assumption) ?_ | refine zw_ialn rfl (by assumption) (by omega) ?_ | refine zw_laln rfl (by assumption) (by omega) ?_ | refine zw_iastn rfl (by omega) (by assumption) (by omega) ?_ | refine zw_lastn rfl (by assumption) (by omega) ?_ | refine zw_iald0 rfl (by assumption) (by omega) ?_ | refine zw_lald0 rfl (by assumption) (by omega) ?_ | refine zw_aaln rfl (by assumption) rfl (by omega) ?_ | refine zw_getR rfl (by assumption) (by assumption) ?_ | refine zw_alen rfl (by assumption) rfl ?_ | refine zw_iald rfl (by assumption) (by omega) (by omega) ?_ | refine zw_iast rfl (by omega) (by assumption) (by omega) (by omega) ?_ | refine zw_putI rfl (by assumption) ?_ | refine zw_lald rfl (by assumption) (by omega) (by omega) ?_ | refine zw_last rfl (by assumption) (by omega) (by omega) ?_ | refine zw_iadd rfl (by omega) (by omega) ?_ | refine zw_isub rfl (by omega) (by omega) ?_ | refine zw_iinc rfl rfl rfl (by omega) (by omega) ?_)
        refine zw_if_ne rfl (fun h4 => ?_) (fun h4 => ?_)
        · repeat (first | refine zw_t rfl rfl ?_ | refine zw_jump rfl rfl ?_ | refine zw_getI rfl rfl (by assumption) ?_ | refine zw_ialn rfl (by assumption) (by omega) ?_ | refine zw_laln rfl (by assumption) (by omega) ?_ | refine zw_iastn rfl (by omega) (by assumption) (by omega) ?_ | refine zw_lastn rfl (by assumption) (by omega) ?_ | refine zw_iald0 rfl (by assumption) (by omega) ?_ | refine zw_lald0 rfl (by assumption) (by omega) ?_ | refine zw_aaln rfl (by assumption) rfl (by omega) ?_ | refine zw_getR rfl (by assumption) (by assumption) ?_ | refine zw_alen rfl (by assumption) rfl ?_ | refine zw_iald rfl (by assumption) (by omega) (by omega) ?_ | refine zw_iast rfl (by omega) (by assumption) (by omega) (by omega) ?_ | refine zw_putI rfl (by assumption) ?_ | refine zw_lald rfl (by assumption) (by omega) (by omega) ?_ | refine zw_last rfl (by assumption) (by omega) (by omega) ?_ | refine zw_iadd rfl (by omega) (by omega) ?_ | refine zw_isub rfl (by omega) (by omega) ?_ | refine zw_iinc rfl rfl rfl (by omega) (by omega) ?_)
          refine fin _ ?_ _
          unfold z_tv
          rw [if_pos h3, if_neg h4, f2]
        · repeat (first | refine zw_t rfl rfl ?_ | refine zw_jump rfl rfl ?_ | refine zw_getI rfl rfl (by assumption) ?_ | refine zw_ialn rfl (by assumption) (by omega) ?_ | refine zw_laln rfl (by assumption) (by omega) ?_ | refine zw_iastn rfl (by omega) (by assumption) (by omega) ?_ | refine zw_lastn rfl (by assumption) (by omega) ?_ | refine zw_iald0 rfl (by assumption) (by omega) ?_ | refine zw_lald0 rfl (by assumption) (by omega) ?_ | refine zw_aaln rfl (by assumption) rfl (by omega) ?_ | refine zw_getR rfl (by assumption) (by assumption) ?_ | refine zw_alen rfl (by assumption) rfl ?_ | refine zw_iald rfl (by assumption) (by omega) (by omega) ?_ | refine zw_iast rfl (by omega) (by assumption) (by omega) (by omega) ?_ | refine zw_putI rfl (by assumption) ?_ | refine zw_lald rfl (by assumption) (by omega) (by omega) ?_ | refine zw_last rfl (by assumption) (by omega) (by omega) ?_ | refine zw_iadd rfl (by omega) (by omega) ?_ | refine zw_isub rfl (by omega) (by omega) ?_ | refine zw_iinc rfl rfl rfl (by omega) (by omega) ?_)
          refine fin _ ?_ _
          unfold z_tv
          rw [if_pos h3, if_pos h4]
      · rw [if_neg h3]
        refine zw_if_ne_f rfl rfl ?_
        repeat (first | refine zw_t rfl rfl ?_ | refine zw_jump rfl rfl ?_ | refine zw_getI rfl rfl (by assumption) ?_ | refine zw_ialn rfl (by assumption) (by omega) ?_ | refine zw_laln rfl (by assumption) (by omega) ?_ | refine zw_iastn rfl (by omega) (by assumption) (by omega) ?_ | refine zw_lastn rfl (by assumption) (by omega) ?_ | refine zw_iald0 rfl (by assumption) (by omega) ?_ | refine zw_lald0 rfl (by assumption) (by omega) ?_ | refine zw_aaln rfl (by assumption) rfl (by omega) ?_ | refine zw_getR rfl (by assumption) (by assumption) ?_ | refine zw_alen rfl (by assumption) rfl ?_ | refine zw_iald rfl (by assumption) (by omega) (by omega) ?_ | refine zw_iast rfl (by omega) (by assumption) (by omega) (by omega) ?_ | refine zw_putI rfl (by assumption) ?_ | refine zw_lald rfl (by assumption) (by omega) (by omega) ?_ | refine zw_last rfl (by assumption) (by omega) (by omega) ?_ | refine zw_iadd rfl (by omega) (by omega) ?_ | refine zw_isub rfl (by omega) (by omega) ?_ | refine zw_iinc rfl rfl rfl (by omega) (by omega) ?_)
        refine zw_callv rfl rfl rfl rfl rfl rfl (by assumption) ?_
        refine c_length ho0 f3 hc2 ?_
        rw [if_neg (by omega)]
        have hml := hm (c - 1) (by omega)
        repeat (first | refine zw_t rfl rfl ?_ | refine zw_jump rfl rfl ?_ | refine zw_getI rfl rfl (by assumption) ?_ | refine zw_ialn rfl (by assumption) (by omega) ?_ | refine zw_laln rfl (by assumption) (by omega) ?_ | refine zw_iastn rfl (by omega) (by assumption) (by omega) ?_ | refine zw_lastn rfl (by assumption) (by omega) ?_ | refine zw_iald0 rfl (by assumption) (by omega) ?_ | refine zw_lald0 rfl (by assumption) (by omega) ?_ | refine zw_aaln rfl (by assumption) rfl (by omega) ?_ | refine zw_getR rfl (by assumption) (by assumption) ?_ | refine zw_alen rfl (by assumption) rfl ?_ | refine zw_iald rfl (by assumption) (by omega) (by omega) ?_ | refine zw_iast rfl (by omega) (by assumption) (by omega) (by omega) ?_ | refine zw_putI rfl (by assumption) ?_ | refine zw_lald rfl (by assumption) (by omega) (by omega) ?_ | refine zw_last rfl (by assumption) (by omega) (by omega) ?_ | refine zw_iadd rfl (by omega) (by omega) ?_ | refine zw_isub rfl (by omega) (by omega) ?_ | refine zw_iinc rfl rfl rfl (by omega) (by omega) ?_)
        refine fin _ ?_ _
        unfold z_tv
        rw [if_neg h3]
  have e1 : z_u2 (z_u2 F r 1 0) r 2 rd o 1 = (c : Int) := by rw [z_u2_na _ _ _ _ (Ne.symm hne), z_u2_na _ _ _ _ (Ne.symm hne)]; exact hoc
  repeat (refine zw_ne 15 rfl ?_; first | refine zw_t rfl rfl ?_ | refine zw_jump rfl rfl ?_ | refine zw_getI rfl rfl (by assumption) ?_ | refine zw_ialn rfl (by assumption) (by omega) ?_ | refine zw_laln rfl (by assumption) (by omega) ?_ | refine zw_iastn rfl (by omega) (by assumption) (by omega) ?_ | refine zw_lastn rfl (by assumption) (by omega) ?_ | refine zw_iald0 rfl (by assumption) (by omega) ?_ | refine zw_lald0 rfl (by assumption) (by omega) ?_ | refine zw_aaln rfl (by assumption) rfl (by omega) ?_ | refine zw_getR rfl (by assumption) (by assumption) ?_ | refine zw_alen rfl (by assumption) rfl ?_ | refine zw_iald rfl (by assumption) (by omega) (by omega) ?_ | refine zw_iast rfl (by omega) (by assumption) (by omega) (by omega) ?_ | refine zw_putI rfl (by assumption) ?_ | refine zw_lald rfl (by assumption) (by omega) (by omega) ?_ | refine zw_last rfl (by assumption) (by omega) (by omega) ?_ | refine zw_iadd rfl (by omega) (by omega) ?_ | refine zw_isub rfl (by omega) (by omega) ?_ | refine zw_iinc rfl rfl rfl (by omega) (by omega) ?_)
  refine zw_eqv ?_ rfl rfl (loop c 0 _ I (by omega) ?_ ?_ ?_ hm none ?_)
  · show [some (Sum.inr (Sum.inr (some r))), some (Sum.inr (Sum.inr (some o))), some (Sum.inl (z_u2 (z_u2 F r 1 0) r 2 rd o 1 - 1)), none] = _
    rw [z_u2_na _ _ _ _ (Ne.symm hne), z_u2_na _ _ _ _ (Ne.symm hne), hoc]
  · rw [z_u2_nk _ _ _ _ (by omega), z_u2_same]; rfl
  · exact z_u2_same _ _ _ _
  · rw [z_u2_na _ _ _ _ (Ne.symm hne), z_u2_na _ _ _ _ (Ne.symm hne)]; exact hoc
  · rw [z_u2_comm _ (by omega), z_u2_u2]
    exact K
end ZRuler2
