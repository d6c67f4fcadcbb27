/-! THE REFERENCE'S SEARCHES: full rulers -/
theorem zsf_add (f : Nat → Int) (j a : Nat) : ∀ b : Nat, zsf f j (a + b) = zsf f j a + zsf f (j + a) b
  | 0 => by show zsf f j a = zsf f j a + 0; omega
  | b + 1 => by
    have h := zsf_add f j a b
    rw [show a + (b + 1) = a + b + 1 by omega, zsf_snoc, zsf_snoc, h, show j + (a + b) = j + a + b by omega]
    omega
theorem zsf_sh (f : Nat → Int) : ∀ (n j : Nat), zsf f (j + 1) n = zsf (fun i => f (i + 1)) j n
  | 0, j => rfl
  | n + 1, j => by
    have h := zsf_sh f n (j + 1)
    show f (j + 1) + zsf f (j + 1 + 1) n = f (j + 1) + zsf (fun i => f (i + 1)) (j + 1) n
    rw [h]
theorem z_pc_zsf : ∀ (fu m : Nat), (z_pc fu m : Int) = zsf (fun i => z_fb m i) 0 fu
  | 0, m => rfl
  | fu + 1, m => by
    have h := z_pc_zsf fu (m / 2)
    have e : z_pc (fu + 1) m = m % 2 + z_pc fu (m / 2) := by
      show m % 2 + z_fc (m / 2) (fun q => z_pc fu q) = _
      rw [z_fc_eq]
    rw [e, Int.natCast_add, h]
    show _ = z_fb m 0 + zsf (fun i => z_fb m i) (0 + 1) fu
    rw [zsf_sh]
    have e0 : ((m % 2 : Nat) : Int) = z_fb m 0 := by
      unfold z_fb
      rw [Nat.testBit_zero]
      by_cases q : m % 2 = 1
      · rw [if_pos (decide_eq_true q), q]; rfl
      · rw [if_neg (by rw [decide_eq_true_iff]; exact q)]; omega
    rw [e0]
    congr 1
    refine zsf_cong _ _ (fun i _ _ => ?_)
    unfold z_fb
    rw [Nat.testBit_succ]
theorem zsf_one : ∀ (n j : Nat), zsf (fun _ => 1) j n = (n : Int)
  | 0, j => rfl
  | n + 1, j => by
    have := zsf_one n (j + 1)
    show 1 + zsf (fun _ => 1) (j + 1) n = _
    rw [this]; omega
theorem z_ones {f : Nat → Int} {m n : Nat} (hn : n ≤ 63) (hf : ∀ x, 1 ≤ x → x ≤ n → (f x = 0 ↔ m.testBit x = false)) (h0 : m.testBit 0 = false) (h1 : ∀ x, n < x → m.testBit x = false) : zsf (fun x => if f x = 0 then 1 else 0) 1 n + (z_pc 64 m : Int) = (n : Int) := by
  have fz : ∀ {x : Nat}, m.testBit x = false → z_fb m x = 0 := fun q => by unfold z_fb; rw [if_neg (by rw [q]; decide)]
  rw [z_pc_zsf, show (64 : Nat) = 1 + (n + (63 - n)) by omega, zsf_add, zsf_add]
  rw [show zsf (fun i => z_fb m i) 0 1 = 0 by show z_fb m 0 + 0 = 0; rw [fz h0]; rfl]
  rw [show zsf (fun i => z_fb m i) (0 + 1 + n) (63 - n) = 0 by
    rw [zsf_cong (g := fun _ => 0) _ _ (fun i hi _ => fz (h1 i (by omega))), zsf_0]]
  rw [Int.zero_add, Int.add_zero, Nat.zero_add, ← zsf_plus]
  rw [zsf_cong (g := fun _ => 1) _ _ (fun i h2 h3 => by
    have q := hf i (by omega) (by omega)
    by_cases e : f i = 0
    · rw [if_pos e, fz (q.1 e)]; rfl
    · rw [if_neg e]
      unfold z_fb
      rw [if_pos (by cases r : m.testBit i with | true => rfl | false => exact absurd (q.2 r) e)]
      rfl)]
  exact zsf_one n 1
/-- full rulers of a length, the end's mark the last -/
def z_cw (n : Nat) (left mask last back meas : Nat) : List Nat := match left with
  | 0 => bif Nat.ble n (z_pc 64 meas) && z_own mask n then [mask] else []
  | l + 1 => z_cv n l (mask ||| 1 <<< n) last back (meas ||| back <<< (n - last))
theorem z_cw_1 {n mask last back meas : Nat} : z_cw n 1 mask last back meas = z_fl (fun y => z_cw n 0 (mask ||| 1 <<< y) y ((back <<< (y - last)) ||| 1) (meas ||| (back <<< (y - last)))) 1 n := by
  rw [z_fl_succ]
  show _ = _ ++ []
  rw [List.append_nil]
  rfl
theorem z_cw_2 {n l mask last back meas : Nat} : z_cw n (l + 2) mask last back meas = z_fl (fun y => z_cw n (l + 1) (mask ||| 1 <<< y) y ((back <<< (y - last)) ||| 1) (meas ||| (back <<< (y - last)))) (n - (l + 1) - last) (last + 1) := by
  show z_cv n (l + 1) _ _ _ _ = _
  rw [z_cv_succ]
  refine z_fl_cong _ _ (fun y h1 h2 => ?_)
  show _ = z_cv n l _ _ _ _
  have e1 : mask ||| 1 <<< n ||| 1 <<< y = mask ||| 1 <<< y ||| 1 <<< n := by rw [Nat.or_assoc, Nat.or_comm (1 <<< n), ← Nat.or_assoc]
  have e2 : meas ||| back <<< (n - last) ||| back <<< (y - last) ||| 1 <<< (n - y) = meas ||| back <<< (y - last) ||| (back <<< (y - last) ||| 1) <<< (n - y) := by
    refine Nat.eq_of_testBit_eq (fun x => ?_)
    rw [Nat.testBit_or, Nat.testBit_or, Nat.testBit_or, Nat.testBit_or, Nat.testBit_or, Nat.testBit_shiftLeft (i := n - y) (x := back <<< (y - last) ||| 1), Nat.testBit_or, Nat.testBit_shiftLeft (i := n - last), Nat.testBit_shiftLeft (i := n - y)]
    by_cases q : x ≥ n - y
    · rw [decide_eq_true q, Bool.true_and, Bool.true_and, Nat.testBit_shiftLeft (i := y - last) (j := x - (n - y))]
      by_cases q2 : x ≥ n - last
      · rw [decide_eq_true q2, Bool.true_and, decide_eq_true (show x - (n - y) ≥ y - last by omega), Bool.true_and, show x - (n - y) - (y - last) = x - (n - last) by omega]
        cases meas.testBit x <;> cases back.testBit (x - (n - last)) <;> cases (back <<< (y - last)).testBit x <;> cases Nat.testBit 1 (x - (n - y)) <;> rfl
      · rw [decide_eq_false q2, Bool.false_and, decide_eq_false (show ¬ x - (n - y) ≥ y - last by omega), Bool.false_and]
        cases meas.testBit x <;> cases (back <<< (y - last)).testBit x <;> cases Nat.testBit 1 (x - (n - y)) <;> rfl
    · rw [decide_eq_false q, Bool.false_and, Bool.false_and, decide_eq_false (show ¬ x ≥ n - last by omega), Bool.false_and]
      cases meas.testBit x <;> cases (back <<< (y - last)).testBit x <;> rfl
  rw [e1, e2]
theorem z_cw_nil {n l mask last back meas c : Nat} (hb : z_pc 64 back ≤ c) (h : z_pc 64 meas + ((l + 1) * c + (l + 1) * l / 2) < n) : z_cw n (l + 1) mask last back meas = [] := by
  have a1 := z_pc_or 64 meas (back <<< (n - last))
  have a2 := z_pc_shl 64 back (n - last)
  have a3 := z_tri_mul (l + 1)
  rw [show l + 1 - 1 = l by omega, z_tri_succ] at a3
  refine z_cv_nil l _ last back _ (c + 1) (by omega) ?_
  rw [Nat.add_mul, Nat.one_mul] at h
  rw [Nat.mul_add, Nat.mul_one]
  omega
def ZNxV (k : ZK) (L : Nat → Nat → Int64) (R : Nat → Nat → Option Nat) (n : Nat) (ask : Int) (left D : Nat) : Prop := ∀ (a1 a2 a3 a4 a5 a6 : Int) (mask last back meas c : Nat) (w f : Nat → Int) (F I : Nat → Nat → Int) (l : List Nat) (Q : Option ZV → ZH → Prop),
  F 79 14 = ((c + left : Nat) : Int) → F 79 15 = (n : Int) → F 79 17 = ask → F 79 19 = 1 → F 79 8 = (c : Int) → ZLn mask last back → z_pc 64 back ≤ c → ZMR mask w c → ZAgr (I 86) w c → I 87 = f → (∀ x, x ≤ 1000 → 0 ≤ f x ∧ f x ≤ c ∧ (f x = 0 ↔ meas.testBit x = false)) → meas.testBit 0 = false → (∀ x, n < x → meas.testBit x = false) → (left = 0 → last = n) → (0 < left → last < n) → c + left ≤ 9 → ZAc F I ask l → l.length + (z_cw n left mask last back meas).length ≤ 1000 →
  (∀ F' I', ZSf F I F' I' → F' 79 8 = (c : Int) → ZAgr (I' 86) w c → I' 87 = f → ZAc F' I' ask (l ++ z_cw n left mask last back meas) → ZW D 202 151 [some (.inr (.inr (some 79))), some (.inl a1), some (.inl a2), some (.inl a3), some (.inl a4), some (.inl a5), some (.inl a6)] [] (k, F', I', L, R) Q) →
  ZW D 202 122 [some (.inr (.inr (some 79))), some (.inl a1), some (.inl a2), some (.inl a3), some (.inl a4), some (.inl a5), some (.inl a6)] [] (k, F, I, L, R) Q
def ZGoV (k : ZK) (L : Nat → Nat → Int64) (R : Nat → Nat → Option Nat) (n : Nat) (ask : Int) (left D : Nat) : Prop := ∀ (mask last back meas c : Nat) (w f : Nat → Int) (F I : Nat → Nat → Int) (l : List Nat) (Q : Option ZV → ZH → Prop),
  F 79 14 = ((c + (left + 1) : Nat) : Int) → F 79 15 = (n : Int) → F 79 17 = ask → F 79 19 = 1 → F 79 8 = (c : Int) → ZLn mask last back → z_pc 64 back ≤ c → ZMR mask w c → ZAgr (I 86) w c → I 87 = f → (∀ x, x ≤ 1000 → 0 ≤ f x ∧ f x ≤ c ∧ (f x = 0 ↔ meas.testBit x = false)) → meas.testBit 0 = false → (∀ x, n < x → meas.testBit x = false) → last < n → c + (left + 1) ≤ 9 → ZAc F I ask l → l.length + (z_cw n (left + 1) mask last back meas).length ≤ 1000 →
  (∀ F' I', ZSf F I F' I' → F' 79 8 = (c : Int) → ZAgr (I' 86) w c → I' 87 = f → ZAc F' I' ask (l ++ z_cw n (left + 1) mask last back meas) → Q none (k, F', I', L, R)) → ZC (D + 1) 202 [.inr (.inr (some 79))] (k, F, I, L, R) Q
section ZRef17
variable {d c n left D : Nat} {A : ZA} {k : ZK} {F I F1 I1 F2 I2 : Nat → Nat → Int} {L : Nat → Nat → Int64} {R : Nat → Nat → Option Nat} {Q : Option ZV → ZH → Prop} {x rd ask : Int} {w : Nat → Int}
theorem c_isCovered {f : Nat → Int} (hk : ZMk k) (hn : n ≤ 60) (h15 : F 79 15 = (n : Int)) (hf : I 87 = f) (K0 : (∀ x, 1 ≤ x → x ≤ n → f x ≠ 0) → Q (some (.inl 1)) (k, F, I, L, R)) (K1 : (¬ ∀ x, 1 ≤ x → x ≤ n → f x ≠ 0) → Q (some (.inl 0)) (k, F, I, L, R)) : ZC (d + 1) 200 [.inr (.inr (some 79))] (k, F, I, L, R) Q := by
  obtain ⟨⟨hT, _⟩, ⟨g10, _⟩, _, ⟨t87, _⟩⟩ := hk
  have loop : ∀ (m i : Nat), m + i = n + 1 → 1 ≤ i → (∀ x, 1 ≤ x → x < i → f x ≠ 0) → ZW d 200 2 [some (.inr (.inr (some 79))), some (.inl (i : Int))] [] (k, F, I, L, R) Q := by
    intro m
    induction m with
    | zero =>
      intro i hi h1 hall
      repeat (first | refine zw_t rfl rfl ?_ | refine zw_jump rfl rfl ?_ | refine zw_getI rfl rfl (by assumption) ?_ | refine zw_ialn rfl (by assumption) (by omega) ?_ | refine zw_laln rfl (by assumption) (by omega) ?_ | refine zw_iastn rfl (by omega) (by assumption) (by omega) ?_ | refine zw_lastn rfl (by assumption) (by omega) ?_ | refine zw_iald0 rfl (by assumption) (by omega) ?_ | refine zw_lald0 rfl (by assumption) (by omega) ?_ | refine zw_aaln rfl (by assumption) rfl (by omega) ?_ | refine zw_getR rfl (by assumption) (by assumption) ?_ | refine zw_alen rfl (by assumption) rfl ?_ | refine zw_iald rfl (by assumption) (by omega) (by omega) ?_ | refine zw_iast rfl (by omega) (by assumption) (by omega) (by omega) ?_ | refine zw_putI rfl (by assumption) ?_ | refine zw_lald rfl (by assumption) (by omega) (by omega) ?_ | refine zw_last rfl (by assumption) (by omega) (by omega) ?_ | refine zw_iadd rfl (by omega) (by omega) ?_ | refine zw_isub rfl (by omega) (by omega) ?_ | refine zw_iinc rfl rfl rfl (by omega) (by omega) ?_ | refine zw_imul rfl (by omega) (by omega) ?_)
      refine zw_icmp_gt_t rfl (by omega) ?_
      repeat (first | refine zw_t rfl rfl ?_ | refine zw_jump rfl rfl ?_ | refine zw_getI rfl rfl (by assumption) ?_ | refine zw_ialn rfl (by assumption) (by omega) ?_ | refine zw_laln rfl (by assumption) (by omega) ?_ | refine zw_iastn rfl (by omega) (by assumption) (by omega) ?_ | refine zw_lastn rfl (by assumption) (by omega) ?_ | refine zw_iald0 rfl (by assumption) (by omega) ?_ | refine zw_lald0 rfl (by assumption) (by omega) ?_ | refine zw_aaln rfl (by assumption) rfl (by omega) ?_ | refine zw_getR rfl (by assumption) (by assumption) ?_ | refine zw_alen rfl (by assumption) rfl ?_ | refine zw_iald rfl (by assumption) (by omega) (by omega) ?_ | refine zw_iast rfl (by omega) (by assumption) (by omega) (by omega) ?_ | refine zw_putI rfl (by assumption) ?_ | refine zw_lald rfl (by assumption) (by omega) (by omega) ?_ | refine zw_last rfl (by assumption) (by omega) (by omega) ?_ | refine zw_iadd rfl (by omega) (by omega) ?_ | refine zw_isub rfl (by omega) (by omega) ?_ | refine zw_iinc rfl rfl rfl (by omega) (by omega) ?_ | refine zw_imul rfl (by omega) (by omega) ?_)
      exact zw_zret rfl (Or.inr rfl) (K0 (fun x a b => hall x a (by omega)))
    | succ m ih =>
      intro i hi h1 hall
      repeat (first | refine zw_t rfl rfl ?_ | refine zw_jump rfl rfl ?_ | refine zw_getI rfl rfl (by assumption) ?_ | refine zw_ialn rfl (by assumption) (by omega) ?_ | refine zw_laln rfl (by assumption) (by omega) ?_ | refine zw_iastn rfl (by omega) (by assumption) (by omega) ?_ | refine zw_lastn rfl (by assumption) (by omega) ?_ | refine zw_iald0 rfl (by assumption) (by omega) ?_ | refine zw_lald0 rfl (by assumption) (by omega) ?_ | refine zw_aaln rfl (by assumption) rfl (by omega) ?_ | refine zw_getR rfl (by assumption) (by assumption) ?_ | refine zw_alen rfl (by assumption) rfl ?_ | refine zw_iald rfl (by assumption) (by omega) (by omega) ?_ | refine zw_iast rfl (by omega) (by assumption) (by omega) (by omega) ?_ | refine zw_putI rfl (by assumption) ?_ | refine zw_lald rfl (by assumption) (by omega) (by omega) ?_ | refine zw_last rfl (by assumption) (by omega) (by omega) ?_ | refine zw_iadd rfl (by omega) (by omega) ?_ | refine zw_isub rfl (by omega) (by omega) ?_ | refine zw_iinc rfl rfl rfl (by omega) (by omega) ?_ | refine zw_imul rfl (by omega) (by omega) ?_)
      refine zw_icmp_gt_f rfl (by omega) ?_
      repeat (first | refine zw_t rfl rfl ?_ | refine zw_jump rfl rfl ?_ | refine zw_getI rfl rfl (by assumption) ?_ | refine zw_ialn rfl (by assumption) (by omega) ?_ | refine zw_laln rfl (by assumption) (by omega) ?_ | refine zw_iastn rfl (by omega) (by assumption) (by omega) ?_ | refine zw_lastn rfl (by assumption) (by omega) ?_ | refine zw_iald0 rfl (by assumption) (by omega) ?_ | refine zw_lald0 rfl (by assumption) (by omega) ?_ | refine zw_aaln rfl (by assumption) rfl (by omega) ?_ | refine zw_getR rfl (by assumption) (by assumption) ?_ | refine zw_alen rfl (by assumption) rfl ?_ | refine zw_iald rfl (by assumption) (by omega) (by omega) ?_ | refine zw_iast rfl (by omega) (by assumption) (by omega) (by omega) ?_ | refine zw_putI rfl (by assumption) ?_ | refine zw_lald rfl (by assumption) (by omega) (by omega) ?_ | refine zw_last rfl (by assumption) (by omega) (by omega) ?_ | refine zw_iadd rfl (by omega) (by omega) ?_ | refine zw_isub rfl (by omega) (by omega) ?_ | refine zw_iinc rfl rfl rfl (by omega) (by omega) ?_ | refine zw_imul rfl (by omega) (by omega) ?_)
      rw [hf]
      refine zw_if_ne rfl (fun h => ?_) (fun h => ?_)
      · repeat (first | refine zw_t rfl rfl ?_ | refine zw_jump rfl rfl ?_ | refine zw_getI rfl rfl (by assumption) ?_ | refine zw_ialn rfl (by assumption) (by omega) ?_ | refine zw_laln rfl (by assumption) (by omega) ?_ | refine zw_iastn rfl (by omega) (by assumption) (by omega) ?_ | refine zw_lastn rfl (by assumption) (by omega) ?_ | refine zw_iald0 rfl (by assumption) (by omega) ?_ | refine zw_lald0 rfl (by assumption) (by omega) ?_ | refine zw_aaln rfl (by assumption) rfl (by omega) ?_ | refine zw_getR rfl (by assumption) (by assumption) ?_ | refine zw_alen rfl (by assumption) rfl ?_ | refine zw_iald rfl (by assumption) (by omega) (by omega) ?_ | refine zw_iast rfl (by omega) (by assumption) (by omega) (by omega) ?_ | refine zw_putI rfl (by assumption) ?_ | refine zw_lald rfl (by assumption) (by omega) (by omega) ?_ | refine zw_last rfl (by assumption) (by omega) (by omega) ?_ | refine zw_iadd rfl (by omega) (by omega) ?_ | refine zw_isub rfl (by omega) (by omega) ?_ | refine zw_iinc rfl rfl rfl (by omega) (by omega) ?_ | refine zw_imul rfl (by omega) (by omega) ?_)
        refine zw_goto rfl ?_
        refine ih (i + 1) (by omega) (by omega) (fun x a b => ?_)
        by_cases hx : x = i
        · rw [hx]; exact h
        · exact hall x a (by omega)
      · repeat (first | refine zw_t rfl rfl ?_ | refine zw_jump rfl rfl ?_ | refine zw_getI rfl rfl (by assumption) ?_ | refine zw_ialn rfl (by assumption) (by omega) ?_ | refine zw_laln rfl (by assumption) (by omega) ?_ | refine zw_iastn rfl (by omega) (by assumption) (by omega) ?_ | refine zw_lastn rfl (by assumption) (by omega) ?_ | refine zw_iald0 rfl (by assumption) (by omega) ?_ | refine zw_lald0 rfl (by assumption) (by omega) ?_ | refine zw_aaln rfl (by assumption) rfl (by omega) ?_ | refine zw_getR rfl (by assumption) (by assumption) ?_ | refine zw_alen rfl (by assumption) rfl ?_ | refine zw_iald rfl (by assumption) (by omega) (by omega) ?_ | refine zw_iast rfl (by omega) (by assumption) (by omega) (by omega) ?_ | refine zw_putI rfl (by assumption) ?_ | refine zw_lald rfl (by assumption) (by omega) (by omega) ?_ | refine zw_last rfl (by assumption) (by omega) (by omega) ?_ | refine zw_iadd rfl (by omega) (by omega) ?_ | refine zw_isub rfl (by omega) (by omega) ?_ | refine zw_iinc rfl rfl rfl (by omega) (by omega) ?_ | refine zw_imul rfl (by omega) (by omega) ?_)
        exact zw_zret rfl (Or.inl rfl) (K1 (fun q => q i h1 (by omega) h))
  refine ze_M_isCovered ?_
  repeat (refine zw_ne 2 rfl ?_; first | refine zw_t rfl rfl ?_ | refine zw_jump rfl rfl ?_ | refine zw_getI rfl rfl (by assumption) ?_ | refine zw_ialn rfl (by assumption) (by omega) ?_ | refine zw_laln rfl (by assumption) (by omega) ?_ | refine zw_iastn rfl (by omega) (by assumption) (by omega) ?_ | refine zw_lastn rfl (by assumption) (by omega) ?_ | refine zw_iald0 rfl (by assumption) (by omega) ?_ | refine zw_lald0 rfl (by assumption) (by omega) ?_ | refine zw_aaln rfl (by assumption) rfl (by omega) ?_ | refine zw_getR rfl (by assumption) (by assumption) ?_ | refine zw_alen rfl (by assumption) rfl ?_ | refine zw_iald rfl (by assumption) (by omega) (by omega) ?_ | refine zw_iast rfl (by omega) (by assumption) (by omega) (by omega) ?_ | refine zw_putI rfl (by assumption) ?_ | refine zw_lald rfl (by assumption) (by omega) (by omega) ?_ | refine zw_last rfl (by assumption) (by omega) (by omega) ?_ | refine zw_iadd rfl (by omega) (by omega) ?_ | refine zw_isub rfl (by omega) (by omega) ?_ | refine zw_iinc rfl rfl rfl (by omega) (by omega) ?_ | refine zw_imul rfl (by omega) (by omega) ?_)
  exact loop n 1 (by omega) (by omega) (fun x a b => by omega)
theorem c_openOnes {f : Nat → Int} (hk : ZMk k) (hn : n ≤ 60) (h15 : F 79 15 = (n : Int)) (hf : I 87 = f) (K : Q (some (.inl (zsf (fun x => if f x = 0 then 1 else 0) 1 n))) (k, F, I, L, R)) : ZC (d + 1) 201 [.inr (.inr (some 79))] (k, F, I, L, R) Q := by
  obtain ⟨⟨hT, _⟩, ⟨g10, _⟩, _, ⟨t87, _⟩⟩ := hk
  have loop : ∀ (m i : Nat) (s : Int), m + i = n + 1 → 1 ≤ i → 0 ≤ s → s ≤ i → Q (some (.inl (s + zsf (fun x => if f x = 0 then 1 else 0) i m))) (k, F, I, L, R) → ZW d 201 4 [some (.inr (.inr (some 79))), some (.inl s), some (.inl (i : Int))] [] (k, F, I, L, R) Q := by
    intro m
    induction m with
    | zero =>
      intro i s hi h1 h2 h3 K
      rw [show zsf (fun x => if f x = 0 then 1 else 0) i 0 = 0 from rfl, Int.add_zero] at K
      repeat (first | refine zw_t rfl rfl ?_ | refine zw_jump rfl rfl ?_ | refine zw_getI rfl rfl (by assumption) ?_ | refine zw_ialn rfl (by assumption) (by omega) ?_ | refine zw_laln rfl (by assumption) (by omega) ?_ | refine zw_iastn rfl (by omega) (by assumption) (by omega) ?_ | refine zw_lastn rfl (by assumption) (by omega) ?_ | refine zw_iald0 rfl (by assumption) (by omega) ?_ | refine zw_lald0 rfl (by assumption) (by omega) ?_ | refine zw_aaln rfl (by assumption) rfl (by omega) ?_ | refine zw_getR rfl (by assumption) (by assumption) ?_ | refine zw_alen rfl (by assumption) rfl ?_ | refine zw_iald rfl (by assumption) (by omega) (by omega) ?_ | refine zw_iast rfl (by omega) (by assumption) (by omega) (by omega) ?_ | refine zw_putI rfl (by assumption) ?_ | refine zw_lald rfl (by assumption) (by omega) (by omega) ?_ | refine zw_last rfl (by assumption) (by omega) (by omega) ?_ | refine zw_iadd rfl (by omega) (by omega) ?_ | refine zw_isub rfl (by omega) (by omega) ?_ | refine zw_iinc rfl rfl rfl (by omega) (by omega) ?_ | refine zw_imul rfl (by omega) (by omega) ?_)
      refine zw_icmp_gt_t rfl (by omega) ?_
      repeat (first | refine zw_t rfl rfl ?_ | refine zw_jump rfl rfl ?_ | refine zw_getI rfl rfl (by assumption) ?_ | refine zw_ialn rfl (by assumption) (by omega) ?_ | refine zw_laln rfl (by assumption) (by omega) ?_ | refine zw_iastn rfl (by omega) (by assumption) (by omega) ?_ | refine zw_lastn rfl (by assumption) (by omega) ?_ | refine zw_iald0 rfl (by assumption) (by omega) ?_ | refine zw_lald0 rfl (by assumption) (by omega) ?_ | refine zw_aaln rfl (by assumption) rfl (by omega) ?_ | refine zw_getR rfl (by assumption) (by assumption) ?_ | refine zw_alen rfl (by assumption) rfl ?_ | refine zw_iald rfl (by assumption) (by omega) (by omega) ?_ | refine zw_iast rfl (by omega) (by assumption) (by omega) (by omega) ?_ | refine zw_putI rfl (by assumption) ?_ | refine zw_lald rfl (by assumption) (by omega) (by omega) ?_ | refine zw_last rfl (by assumption) (by omega) (by omega) ?_ | refine zw_iadd rfl (by omega) (by omega) ?_ | refine zw_isub rfl (by omega) (by omega) ?_ | refine zw_iinc rfl rfl rfl (by omega) (by omega) ?_ | refine zw_imul rfl (by omega) (by omega) ?_)
      exact zw_iret rfl K
    | succ m ih =>
      intro i s hi h1 h2 h3 K
      rw [show zsf (fun x => if f x = 0 then 1 else 0) i (m + 1) = (if f i = 0 then 1 else 0) + zsf (fun x => if f x = 0 then 1 else 0) (i + 1) m from rfl, ← Int.add_assoc] at K
      have nx : ∀ e : Int, e = (if f i = 0 then 1 else 0) → ZW d 201 27 [some (.inr (.inr (some 79))), some (.inl s), some (.inl (i : Int))] [.inl e, .inl s] (k, F, I, L, R) Q := by
        intro e he
        have eb : 0 ≤ e ∧ e ≤ 1 := by rw [he]; split <;> omega
        rw [← he] at K
        repeat (first | refine zw_t rfl rfl ?_ | refine zw_jump rfl rfl ?_ | refine zw_getI rfl rfl (by assumption) ?_ | refine zw_ialn rfl (by assumption) (by omega) ?_ | refine zw_laln rfl (by assumption) (by omega) ?_ | refine zw_iastn rfl (by omega) (by assumption) (by omega) ?_ | refine zw_lastn rfl (by assumption) (by omega) ?_ | refine zw_iald0 rfl (by assumption) (by omega) ?_ | refine zw_lald0 rfl (by assumption) (by omega) ?_ | refine zw_aaln rfl (by assumption) rfl (by omega) ?_ | refine zw_getR rfl (by assumption) (by assumption) ?_ | refine zw_alen rfl (by assumption) rfl ?_ | refine zw_iald rfl (by assumption) (by omega) (by omega) ?_ | refine zw_iast rfl (by omega) (by assumption) (by omega) (by omega) ?_ | refine zw_putI rfl (by assumption) ?_ | refine zw_lald rfl (by assumption) (by omega) (by omega) ?_ | refine zw_last rfl (by assumption) (by omega) (by omega) ?_ | refine zw_iadd rfl (by omega) (by omega) ?_ | refine zw_isub rfl (by omega) (by omega) ?_ | refine zw_iinc rfl rfl rfl (by omega) (by omega) ?_ | refine zw_imul rfl (by omega) (by omega) ?_)
        refine zw_goto rfl ?_
        exact ih (i + 1) (s + e) (by omega) (by omega) (by omega) (by omega) K
      repeat (first | refine zw_t rfl rfl ?_ | refine zw_jump rfl rfl ?_ | refine zw_getI rfl rfl (by assumption) ?_ | refine zw_ialn rfl (by assumption) (by omega) ?_ | refine zw_laln rfl (by assumption) (by omega) ?_ | refine zw_iastn rfl (by omega) (by assumption) (by omega) ?_ | refine zw_lastn rfl (by assumption) (by omega) ?_ | refine zw_iald0 rfl (by assumption) (by omega) ?_ | refine zw_lald0 rfl (by assumption) (by omega) ?_ | refine zw_aaln rfl (by assumption) rfl (by omega) ?_ | refine zw_getR rfl (by assumption) (by assumption) ?_ | refine zw_alen rfl (by assumption) rfl ?_ | refine zw_iald rfl (by assumption) (by omega) (by omega) ?_ | refine zw_iast rfl (by omega) (by assumption) (by omega) (by omega) ?_ | refine zw_putI rfl (by assumption) ?_ | refine zw_lald rfl (by assumption) (by omega) (by omega) ?_ | refine zw_last rfl (by assumption) (by omega) (by omega) ?_ | refine zw_iadd rfl (by omega) (by omega) ?_ | refine zw_isub rfl (by omega) (by omega) ?_ | refine zw_iinc rfl rfl rfl (by omega) (by omega) ?_ | refine zw_imul rfl (by omega) (by omega) ?_)
      refine zw_icmp_gt_f rfl (by omega) ?_
      repeat (first | refine zw_t rfl rfl ?_ | refine zw_jump rfl rfl ?_ | refine zw_getI rfl rfl (by assumption) ?_ | refine zw_ialn rfl (by assumption) (by omega) ?_ | refine zw_laln rfl (by assumption) (by omega) ?_ | refine zw_iastn rfl (by omega) (by assumption) (by omega) ?_ | refine zw_lastn rfl (by assumption) (by omega) ?_ | refine zw_iald0 rfl (by assumption) (by omega) ?_ | refine zw_lald0 rfl (by assumption) (by omega) ?_ | refine zw_aaln rfl (by assumption) rfl (by omega) ?_ | refine zw_getR rfl (by assumption) (by assumption) ?_ | refine zw_alen rfl (by assumption) rfl ?_ | refine zw_iald rfl (by assumption) (by omega) (by omega) ?_ | refine zw_iast rfl (by omega) (by assumption) (by omega) (by omega) ?_ | refine zw_putI rfl (by assumption) ?_ | refine zw_lald rfl (by assumption) (by omega) (by omega) ?_ | refine zw_last rfl (by assumption) (by omega) (by omega) ?_ | refine zw_iadd rfl (by omega) (by omega) ?_ | refine zw_isub rfl (by omega) (by omega) ?_ | refine zw_iinc rfl rfl rfl (by omega) (by omega) ?_ | refine zw_imul rfl (by omega) (by omega) ?_)
      rw [hf]
      refine zw_if_ne rfl (fun h => ?_) (fun h => ?_)
      · repeat (refine zw_ne 27 rfl ?_; first | refine zw_t rfl rfl ?_ | refine zw_jump rfl rfl ?_ | refine zw_getI rfl rfl (by assumption) ?_ | refine zw_ialn rfl (by assumption) (by omega) ?_ | refine zw_laln rfl (by assumption) (by omega) ?_ | refine zw_iastn rfl (by omega) (by assumption) (by omega) ?_ | refine zw_lastn rfl (by assumption) (by omega) ?_ | refine zw_iald0 rfl (by assumption) (by omega) ?_ | refine zw_lald0 rfl (by assumption) (by omega) ?_ | refine zw_aaln rfl (by assumption) rfl (by omega) ?_ | refine zw_getR rfl (by assumption) (by assumption) ?_ | refine zw_alen rfl (by assumption) rfl ?_ | refine zw_iald rfl (by assumption) (by omega) (by omega) ?_ | refine zw_iast rfl (by omega) (by assumption) (by omega) (by omega) ?_ | refine zw_putI rfl (by assumption) ?_ | refine zw_lald rfl (by assumption) (by omega) (by omega) ?_ | refine zw_last rfl (by assumption) (by omega) (by omega) ?_ | refine zw_iadd rfl (by omega) (by omega) ?_ | refine zw_isub rfl (by omega) (by omega) ?_ | refine zw_iinc rfl rfl rfl (by omega) (by omega) ?_ | refine zw_imul rfl (by omega) (by omega) ?_)
        exact nx 0 (by rw [if_neg h])
      · repeat (refine zw_ne 27 rfl ?_; first | refine zw_t rfl rfl ?_ | refine zw_jump rfl rfl ?_ | refine zw_getI rfl rfl (by assumption) ?_ | refine zw_ialn rfl (by assumption) (by omega) ?_ | refine zw_laln rfl (by assumption) (by omega) ?_ | refine zw_iastn rfl (by omega) (by assumption) (by omega) ?_ | refine zw_lastn rfl (by assumption) (by omega) ?_ | refine zw_iald0 rfl (by assumption) (by omega) ?_ | refine zw_lald0 rfl (by assumption) (by omega) ?_ | refine zw_aaln rfl (by assumption) rfl (by omega) ?_ | refine zw_getR rfl (by assumption) (by assumption) ?_ | refine zw_alen rfl (by assumption) rfl ?_ | refine zw_iald rfl (by assumption) (by omega) (by omega) ?_ | refine zw_iast rfl (by omega) (by assumption) (by omega) (by omega) ?_ | refine zw_putI rfl (by assumption) ?_ | refine zw_lald rfl (by assumption) (by omega) (by omega) ?_ | refine zw_last rfl (by assumption) (by omega) (by omega) ?_ | refine zw_iadd rfl (by omega) (by omega) ?_ | refine zw_isub rfl (by omega) (by omega) ?_ | refine zw_iinc rfl rfl rfl (by omega) (by omega) ?_ | refine zw_imul rfl (by omega) (by omega) ?_)
        exact nx 1 (by rw [if_pos h])
  refine ze_M_openOnes ?_
  repeat (refine zw_ne 4 rfl ?_; first | refine zw_t rfl rfl ?_ | refine zw_jump rfl rfl ?_ | refine zw_getI rfl rfl (by assumption) ?_ | refine zw_ialn rfl (by assumption) (by omega) ?_ | refine zw_laln rfl (by assumption) (by omega) ?_ | refine zw_iastn rfl (by omega) (by assumption) (by omega) ?_ | refine zw_lastn rfl (by assumption) (by omega) ?_ | refine zw_iald0 rfl (by assumption) (by omega) ?_ | refine zw_lald0 rfl (by assumption) (by omega) ?_ | refine zw_aaln rfl (by assumption) rfl (by omega) ?_ | refine zw_getR rfl (by assumption) (by assumption) ?_ | refine zw_alen rfl (by assumption) rfl ?_ | refine zw_iald rfl (by assumption) (by omega) (by omega) ?_ | refine zw_iast rfl (by omega) (by assumption) (by omega) (by omega) ?_ | refine zw_putI rfl (by assumption) ?_ | refine zw_lald rfl (by assumption) (by omega) (by omega) ?_ | refine zw_last rfl (by assumption) (by omega) (by omega) ?_ | refine zw_iadd rfl (by omega) (by omega) ?_ | refine zw_isub rfl (by omega) (by omega) ?_ | refine zw_iinc rfl rfl rfl (by omega) (by omega) ?_ | refine zw_imul rfl (by omega) (by omega) ?_)
  exact loop n 1 0 (by omega) (by omega) (by omega) (by omega) (by rw [Int.zero_add]; exact K)
theorem z_nxv_0 (hk : ZMk k) (hn : n ≤ 24) (hD : 4 ≤ D) : ZNxV k L R n ask 0 D := by
  intro a1 a2 a3 a4 a5 a6 mask last back meas c w f F I l Q h14 h15 h17 h19 h8 hln _ hmr hag hf hfm h0 hme hla _ hc9 hac hlen K
  have hT := hk.1.1
  have hla := hla rfl
  subst hla
  obtain ⟨hc0, _⟩ := hmr.top hln.1 hln.2.1
  have hgd : ZGd (last + 1) c mask := ⟨hln.1, hln.2.2.1, w, hmr⟩
  have hrow : ZRow w c 0 := hgd.zrow hmr (by omega) (by omega) (Or.inl rfl)
  have hml : meas < 2 ^ (last + 1) := Nat.lt_pow_two_of_testBit _ (fun i hi => hme i (by omega))
  have hfull := z_full hml h0 (by omega)
  repeat (first | refine zw_t rfl rfl ?_ | refine zw_jump rfl rfl ?_ | refine zw_getI rfl rfl (by assumption) ?_ | refine zw_ialn rfl (by assumption) (by omega) ?_ | refine zw_laln rfl (by assumption) (by omega) ?_ | refine zw_iastn rfl (by omega) (by assumption) (by omega) ?_ | refine zw_lastn rfl (by assumption) (by omega) ?_ | refine zw_iald0 rfl (by assumption) (by omega) ?_ | refine zw_lald0 rfl (by assumption) (by omega) ?_ | refine zw_aaln rfl (by assumption) rfl (by omega) ?_ | refine zw_getR rfl (by assumption) (by assumption) ?_ | refine zw_alen rfl (by assumption) rfl ?_ | refine zw_iald rfl (by assumption) (by omega) (by omega) ?_ | refine zw_iast rfl (by omega) (by assumption) (by omega) (by omega) ?_ | refine zw_putI rfl (by assumption) ?_ | refine zw_lald rfl (by assumption) (by omega) (by omega) ?_ | refine zw_last rfl (by assumption) (by omega) (by omega) ?_ | refine zw_iadd rfl (by omega) (by omega) ?_ | refine zw_isub rfl (by omega) (by omega) ?_ | refine zw_iinc rfl rfl rfl (by omega) (by omega) ?_ | refine zw_imul rfl (by omega) (by omega) ?_)
  rw [h8, h14]
  refine zw_icmp_ge_t rfl (by omega) ?_
  repeat (first | refine zw_t rfl rfl ?_ | refine zw_jump rfl rfl ?_ | refine zw_getI rfl rfl (by assumption) ?_ | refine zw_ialn rfl (by assumption) (by omega) ?_ | refine zw_laln rfl (by assumption) (by omega) ?_ | refine zw_iastn rfl (by omega) (by assumption) (by omega) ?_ | refine zw_lastn rfl (by assumption) (by omega) ?_ | refine zw_iald0 rfl (by assumption) (by omega) ?_ | refine zw_lald0 rfl (by assumption) (by omega) ?_ | refine zw_aaln rfl (by assumption) rfl (by omega) ?_ | refine zw_getR rfl (by assumption) (by assumption) ?_ | refine zw_alen rfl (by assumption) rfl ?_ | refine zw_iald rfl (by assumption) (by omega) (by omega) ?_ | refine zw_iast rfl (by omega) (by assumption) (by omega) (by omega) ?_ | refine zw_putI rfl (by assumption) ?_ | refine zw_lald rfl (by assumption) (by omega) (by omega) ?_ | refine zw_last rfl (by assumption) (by omega) (by omega) ?_ | refine zw_iadd rfl (by omega) (by omega) ?_ | refine zw_isub rfl (by omega) (by omega) ?_ | refine zw_iinc rfl rfl rfl (by omega) (by omega) ?_ | refine zw_imul rfl (by omega) (by omega) ?_)
  refine zw_callv rfl rfl rfl rfl rfl rfl (by assumption) ?_
  refine ZC.le (show 0 + 1 ≤ _ by omega) ?_
  refine c_isCovered hk (by omega) h15 hf (fun hc => ?_) (fun hc => ?_)
  · have e : z_cw last 0 mask last back meas = bif z_own mask last then [mask] else [] := by
      show (bif Nat.ble last (z_pc 64 meas) && z_own mask last then [mask] else []) = _
      rw [Nat.ble_eq_true_of_le (hfull.2 (fun x a b => by
        have q := (hfm x (by omega)).2.2
        cases r : meas.testBit x with
        | true => rfl
        | false => exact absurd (q.2 r) (hc x a b))), Bool.true_and]
    rw [e] at K
    refine zw_if_eq_f rfl (by decide) ?_
    repeat (first | refine zw_t rfl rfl ?_ | refine zw_jump rfl rfl ?_ | refine zw_getI rfl rfl (by assumption) ?_ | refine zw_ialn rfl (by assumption) (by omega) ?_ | refine zw_laln rfl (by assumption) (by omega) ?_ | refine zw_iastn rfl (by omega) (by assumption) (by omega) ?_ | refine zw_lastn rfl (by assumption) (by omega) ?_ | refine zw_iald0 rfl (by assumption) (by omega) ?_ | refine zw_lald0 rfl (by assumption) (by omega) ?_ | refine zw_aaln rfl (by assumption) rfl (by omega) ?_ | refine zw_getR rfl (by assumption) (by assumption) ?_ | refine zw_alen rfl (by assumption) rfl ?_ | refine zw_iald rfl (by assumption) (by omega) (by omega) ?_ | refine zw_iast rfl (by omega) (by assumption) (by omega) (by omega) ?_ | refine zw_putI rfl (by assumption) ?_ | refine zw_lald rfl (by assumption) (by omega) (by omega) ?_ | refine zw_last rfl (by assumption) (by omega) (by omega) ?_ | refine zw_iadd rfl (by omega) (by omega) ?_ | refine zw_isub rfl (by omega) (by omega) ?_ | refine zw_iinc rfl rfl rfl (by omega) (by omega) ?_ | refine zw_imul rfl (by omega) (by omega) ?_)
    refine zw_callv rfl rfl rfl rfl rfl rfl (by assumption) ?_
    refine ZC.le (show 0 + 4 ≤ _ by omega) ?_
    refine c_mtells (own := z_own mask last) hk h8 hc0 hag hmr hrow (Or.inr ⟨by omega, rfl⟩) h17 hac (by omega) (z_own_form hmr hln.1 hln.2.1) (fun F' I' s1 e8 e86 e87 hac' => ?_)
    exact K F' I' s1 e8 e86 (e87.trans hf) hac'
  · have e : z_cw last 0 mask last back meas = [] := by
      show (bif Nat.ble last (z_pc 64 meas) && z_own mask last then [mask] else []) = _
      cases q : Nat.ble last (z_pc 64 meas) with
      | false => rfl
      | true =>
        exfalso
        have r := hfull.1 (Nat.le_of_ble_eq_true q)
        exact hc (fun x a b e => by
          have := ((hfm x (by omega)).2.2).1 e
          rw [r x a b] at this
          cases this)
    rw [e, List.append_nil] at K
    refine zw_if_eq_t rfl rfl ?_
    exact K F I (ZSf.refl _ _) h8 hag hf hac
theorem z_nxv_s (hk : ZMk k) (hG : ZGoV k L R n ask left D) (hD : D + 1 ≤ d) : ZNxV k L R n ask (left + 1) d := by
  intro a1 a2 a3 a4 a5 a6 mask last back meas c w f F I l Q h14 h15 h17 h19 h8 hln hbk hmr hag hf hfm h0 hme hla hlt hc9 hac hlen K
  have hT := hk.1.1
  repeat (first | refine zw_t rfl rfl ?_ | refine zw_jump rfl rfl ?_ | refine zw_getI rfl rfl (by assumption) ?_ | refine zw_ialn rfl (by assumption) (by omega) ?_ | refine zw_laln rfl (by assumption) (by omega) ?_ | refine zw_iastn rfl (by omega) (by assumption) (by omega) ?_ | refine zw_lastn rfl (by assumption) (by omega) ?_ | refine zw_iald0 rfl (by assumption) (by omega) ?_ | refine zw_lald0 rfl (by assumption) (by omega) ?_ | refine zw_aaln rfl (by assumption) rfl (by omega) ?_ | refine zw_getR rfl (by assumption) (by assumption) ?_ | refine zw_alen rfl (by assumption) rfl ?_ | refine zw_iald rfl (by assumption) (by omega) (by omega) ?_ | refine zw_iast rfl (by omega) (by assumption) (by omega) (by omega) ?_ | refine zw_putI rfl (by assumption) ?_ | refine zw_lald rfl (by assumption) (by omega) (by omega) ?_ | refine zw_last rfl (by assumption) (by omega) (by omega) ?_ | refine zw_iadd rfl (by omega) (by omega) ?_ | refine zw_isub rfl (by omega) (by omega) ?_ | refine zw_iinc rfl rfl rfl (by omega) (by omega) ?_ | refine zw_imul rfl (by omega) (by omega) ?_)
  rw [h8, h14]
  refine zw_icmp_ge_f rfl (by omega) ?_
  repeat (first | refine zw_t rfl rfl ?_ | refine zw_jump rfl rfl ?_ | refine zw_getI rfl rfl (by assumption) ?_ | refine zw_ialn rfl (by assumption) (by omega) ?_ | refine zw_laln rfl (by assumption) (by omega) ?_ | refine zw_iastn rfl (by omega) (by assumption) (by omega) ?_ | refine zw_lastn rfl (by assumption) (by omega) ?_ | refine zw_iald0 rfl (by assumption) (by omega) ?_ | refine zw_lald0 rfl (by assumption) (by omega) ?_ | refine zw_aaln rfl (by assumption) rfl (by omega) ?_ | refine zw_getR rfl (by assumption) (by assumption) ?_ | refine zw_alen rfl (by assumption) rfl ?_ | refine zw_iald rfl (by assumption) (by omega) (by omega) ?_ | refine zw_iast rfl (by omega) (by assumption) (by omega) (by omega) ?_ | refine zw_putI rfl (by assumption) ?_ | refine zw_lald rfl (by assumption) (by omega) (by omega) ?_ | refine zw_last rfl (by assumption) (by omega) (by omega) ?_ | refine zw_iadd rfl (by omega) (by omega) ?_ | refine zw_isub rfl (by omega) (by omega) ?_ | refine zw_iinc rfl rfl rfl (by omega) (by omega) ?_ | refine zw_imul rfl (by omega) (by omega) ?_)
  refine zw_callv rfl rfl rfl rfl rfl rfl (by assumption) ?_
  refine ZC.le hD ?_
  refine hG mask last back meas c w f F I l _ h14 h15 h17 h19 h8 hln hbk hmr hag hf hfm h0 hme (hlt (by omega)) hc9 hac hlen (fun F' I' s1 e8 e86 e87 hac' => ?_)
  repeat (refine zw_ne 151 rfl ?_; first | refine zw_t rfl rfl ?_ | refine zw_jump rfl rfl ?_ | refine zw_getI rfl rfl (by assumption) ?_ | refine zw_ialn rfl (by assumption) (by omega) ?_ | refine zw_laln rfl (by assumption) (by omega) ?_ | refine zw_iastn rfl (by omega) (by assumption) (by omega) ?_ | refine zw_lastn rfl (by assumption) (by omega) ?_ | refine zw_iald0 rfl (by assumption) (by omega) ?_ | refine zw_lald0 rfl (by assumption) (by omega) ?_ | refine zw_aaln rfl (by assumption) rfl (by omega) ?_ | refine zw_getR rfl (by assumption) (by assumption) ?_ | refine zw_alen rfl (by assumption) rfl ?_ | refine zw_iald rfl (by assumption) (by omega) (by omega) ?_ | refine zw_iast rfl (by omega) (by assumption) (by omega) (by omega) ?_ | refine zw_putI rfl (by assumption) ?_ | refine zw_lald rfl (by assumption) (by omega) (by omega) ?_ | refine zw_last rfl (by assumption) (by omega) (by omega) ?_ | refine zw_iadd rfl (by omega) (by omega) ?_ | refine zw_isub rfl (by omega) (by omega) ?_ | refine zw_iinc rfl rfl rfl (by omega) (by omega) ?_ | refine zw_imul rfl (by omega) (by omega) ?_)
  exact K F' I' s1 e8 e86 e87 hac'
theorem z_gov (hk : ZMk k) (hn : n ≤ 24) (hD : 4 ≤ D) (hN : ZNxV k L R n ask left D) : ZGoV k L R n ask left D := by
  intro mask last back meas c w f F I l Q h14 h15 h17 h19 h8 hln hbk hmr hag hf hfm h0 hme hla hc9 hac hlen K
  have hk0 := hk
  obtain ⟨⟨hT, g1, g2, g3, g4, g5, g6, g7⟩, _, ⟨t80, t81, t82, t83, t84, t85, t86⟩, _⟩ := hk
  obtain ⟨hc0, htop⟩ := hmr.top hln.1 hln.2.1
  have hwb : ∀ j, j < c → 0 ≤ w j ∧ w j ≤ (last : Int) := fun j hj => by have := hmr.lt hln.1 hj; omega
  obtain ⟨fn, hfn⟩ : ∃ fn : Nat → List Nat, fn = (fun y => z_cw n left (mask ||| 1 <<< y) y ((back <<< (y - last)) ||| 1) (meas ||| (back <<< (y - last)))) := ⟨_, rfl⟩
  have loop : ∀ (m y : Nat) (a1 a2 a3 to : Int) (x6 : Option ZV) (F I : Nat → Nat → Int) (l : List Nat), F 79 14 = ((c + (left + 1) : Nat) : Int) → F 79 15 = (n : Int) → F 79 17 = ask → F 79 19 = 1 → F 79 8 = (c : Int) → ZAgr (I 86) w c → I 87 = f → last < y → ((m : Int) + y = to + 1 ∨ (m = 0 ∧ to < y)) → to ≤ (n : Int) → (0 < left → to < (n : Int)) → (left = 0 → 0 < m → y = n) → ZAc F I ask l → l.length + (z_fl fn m y).length ≤ 1000 →
      (∀ F' I', ZSf F I F' I' → F' 79 8 = (c : Int) → ZAgr (I' 86) w c → I' 87 = f → ZAc F' I' ask (l ++ z_fl fn m y) → Q none (k, F', I', L, R)) →
      ZW D 202 85 [some (.inr (.inr (some 79))), some (.inl a1), some (.inl a2), some (.inl a3), some (.inl to), some (.inl (y : Int)), x6] [] (k, F, I, L, R) Q := by
    intro m
    induction m with
    | zero =>
      intro y a1 a2 a3 to x6 F I l h14 h15 h17 h19 h8 hag hf hy hm hto hto2 hto3 hac hlen K
      repeat (first | refine zw_t rfl rfl ?_ | refine zw_jump rfl rfl ?_ | refine zw_getI rfl rfl (by assumption) ?_ | refine zw_ialn rfl (by assumption) (by omega) ?_ | refine zw_laln rfl (by assumption) (by omega) ?_ | refine zw_iastn rfl (by omega) (by assumption) (by omega) ?_ | refine zw_lastn rfl (by assumption) (by omega) ?_ | refine zw_iald0 rfl (by assumption) (by omega) ?_ | refine zw_lald0 rfl (by assumption) (by omega) ?_ | refine zw_aaln rfl (by assumption) rfl (by omega) ?_ | refine zw_getR rfl (by assumption) (by assumption) ?_ | refine zw_alen rfl (by assumption) rfl ?_ | refine zw_iald rfl (by assumption) (by omega) (by omega) ?_ | refine zw_iast rfl (by omega) (by assumption) (by omega) (by omega) ?_ | refine zw_putI rfl (by assumption) ?_ | refine zw_lald rfl (by assumption) (by omega) (by omega) ?_ | refine zw_last rfl (by assumption) (by omega) (by omega) ?_ | refine zw_iadd rfl (by omega) (by omega) ?_ | refine zw_isub rfl (by omega) (by omega) ?_ | refine zw_iinc rfl rfl rfl (by omega) (by omega) ?_ | refine zw_imul rfl (by omega) (by omega) ?_)
      refine zw_icmp_gt_t rfl (by omega) ?_
      refine zw_vret rfl (K F I (ZSf.refl _ _) h8 hag hf ?_)
      rw [show z_fl fn 0 y = [] from rfl, List.append_nil]
      exact hac
    | succ m ih =>
      intro y a1 a2 a3 to x6 F I l h14 h15 h17 h19 h8 hag hf hy hm hto hto2 hto3 hac hlen K
      rw [z_fl_succ] at K hlen
      rw [List.length_append] at hlen
      have hyn : y ≤ n := by omega
      have hcb : ∀ j, j < c → 0 ≤ (y : Int) - w j ∧ (y : Int) - w j ≤ 1000 ∧ 0 ≤ w j ∧ w j ≤ 1000 := fun j hj => by have := hwb j hj; omega
      obtain ⟨more, hmo⟩ : ∃ more, more = back <<< (y - last) := ⟨_, rfl⟩
      have ecn : ∀ x, z_cn w c 0 (y : Int) x = z_fb more x := fun x => by rw [hmo]; exact z_cn_bits hln hmr hy x
      have efn : fn y = z_cw n left (mask ||| 1 <<< y) y (more ||| 1) (meas ||| more) := by rw [hfn, hmo]
      have hmb : ∀ x, n < x → more.testBit x = false := fun x hx => by rw [hmo, hln.more hy x, decide_eq_false (by omega), Bool.false_and]
      have hm0 : more.testBit 0 = false := by rw [hmo, hln.more hy 0, Nat.sub_zero, z_tb_new hln.1 hy, Bool.and_false]
      repeat (first | refine zw_t rfl rfl ?_ | refine zw_jump rfl rfl ?_ | refine zw_getI rfl rfl (by assumption) ?_ | refine zw_ialn rfl (by assumption) (by omega) ?_ | refine zw_laln rfl (by assumption) (by omega) ?_ | refine zw_iastn rfl (by omega) (by assumption) (by omega) ?_ | refine zw_lastn rfl (by assumption) (by omega) ?_ | refine zw_iald0 rfl (by assumption) (by omega) ?_ | refine zw_lald0 rfl (by assumption) (by omega) ?_ | refine zw_aaln rfl (by assumption) rfl (by omega) ?_ | refine zw_getR rfl (by assumption) (by assumption) ?_ | refine zw_alen rfl (by assumption) rfl ?_ | refine zw_iald rfl (by assumption) (by omega) (by omega) ?_ | refine zw_iast rfl (by omega) (by assumption) (by omega) (by omega) ?_ | refine zw_putI rfl (by assumption) ?_ | refine zw_lald rfl (by assumption) (by omega) (by omega) ?_ | refine zw_last rfl (by assumption) (by omega) (by omega) ?_ | refine zw_iadd rfl (by omega) (by omega) ?_ | refine zw_isub rfl (by omega) (by omega) ?_ | refine zw_iinc rfl rfl rfl (by omega) (by omega) ?_ | refine zw_imul rfl (by omega) (by omega) ?_)
      refine zw_icmp_gt_f rfl (by omega) ?_
      repeat (first | refine zw_t rfl rfl ?_ | refine zw_jump rfl rfl ?_ | refine zw_getI rfl rfl (by assumption) ?_ | refine zw_ialn rfl (by assumption) (by omega) ?_ | refine zw_laln rfl (by assumption) (by omega) ?_ | refine zw_iastn rfl (by omega) (by assumption) (by omega) ?_ | refine zw_lastn rfl (by assumption) (by omega) ?_ | refine zw_iald0 rfl (by assumption) (by omega) ?_ | refine zw_lald0 rfl (by assumption) (by omega) ?_ | refine zw_aaln rfl (by assumption) rfl (by omega) ?_ | refine zw_getR rfl (by assumption) (by assumption) ?_ | refine zw_alen rfl (by assumption) rfl ?_ | refine zw_iald rfl (by assumption) (by omega) (by omega) ?_ | refine zw_iast rfl (by omega) (by assumption) (by omega) (by omega) ?_ | refine zw_putI rfl (by assumption) ?_ | refine zw_lald rfl (by assumption) (by omega) (by omega) ?_ | refine zw_last rfl (by assumption) (by omega) (by omega) ?_ | refine zw_iadd rfl (by omega) (by omega) ?_ | refine zw_isub rfl (by omega) (by omega) ?_ | refine zw_iinc rfl rfl rfl (by omega) (by omega) ?_ | refine zw_imul rfl (by omega) (by omega) ?_)
      refine zw_callv rfl rfl rfl rfl rfl rfl (by assumption) ?_
      refine ZC.le (show 0 + 1 ≤ _ by omega) ?_
      refine c_mcounts (n := 1) (rd := 0) hk0 h8 (by omega) hag hf hcb (Or.inl rfl) (fun x hx => by have := hfm x hx; omega) (Or.inl ⟨by omega, rfl⟩) (fun t f1 ht hf1 _ => ?_)
      have ef1 : ∀ x, f1 x = f x + z_fb more x := fun x => by
        rw [hf1]
        dsimp only
        rw [ecn x]
        omega
      have s1 : ZSf F I F (z_up I 87 f1) := (ZSf.refl F I).row 87 f1 (by omega)
      repeat (refine zw_ne 122 rfl ?_; first | refine zw_t rfl rfl ?_ | refine zw_jump rfl rfl ?_ | refine zw_getI rfl rfl (by assumption) ?_ | refine zw_ialn rfl (by assumption) (by omega) ?_ | refine zw_laln rfl (by assumption) (by omega) ?_ | refine zw_iastn rfl (by omega) (by assumption) (by omega) ?_ | refine zw_lastn rfl (by assumption) (by omega) ?_ | refine zw_iald0 rfl (by assumption) (by omega) ?_ | refine zw_lald0 rfl (by assumption) (by omega) ?_ | refine zw_aaln rfl (by assumption) rfl (by omega) ?_ | refine zw_getR rfl (by assumption) (by assumption) ?_ | refine zw_alen rfl (by assumption) rfl ?_ | refine zw_iald rfl (by assumption) (by omega) (by omega) ?_ | refine zw_iast rfl (by omega) (by assumption) (by omega) (by omega) ?_ | refine zw_putI rfl (by assumption) ?_ | refine zw_lald rfl (by assumption) (by omega) (by omega) ?_ | refine zw_last rfl (by assumption) (by omega) (by omega) ?_ | refine zw_iadd rfl (by omega) (by omega) ?_ | refine zw_isub rfl (by omega) (by omega) ?_ | refine zw_iinc rfl rfl rfl (by omega) (by omega) ?_ | refine zw_imul rfl (by omega) (by omega) ?_)
      rw [h8, Int.toNat_natCast]
      obtain ⟨F2, hF2⟩ : ∃ F2, F2 = z_u2 F 79 8 ((c : Int) + 1) := ⟨_, rfl⟩
      obtain ⟨I2, hI2⟩ : ∃ I2, I2 = z_u2 (z_up I 87 f1) 86 c (y : Int) := ⟨_, rfl⟩
      rw [← hF2, ← hI2]
      have s2 : ZSf F I F2 I2 := by rw [hF2, hI2]; exact (s1.cell c _).fld 8 _ (by omega)
      have r86 : ZAgr (I2 86) (z_up w c (y : Int)) (c + 1) := fun j hj => by
        rw [hI2]
        by_cases hjc : j = c
        · rw [hjc, z_u2_same, z_up_same]
        · rw [z_u2_nk _ _ _ _ hjc, z_up_ne _ _ hjc, z_up_ne _ _ (by omega)]
          exact hag j (by omega)
      have hln2 : ZLn (mask ||| 1 <<< y) y (more ||| 1) := by rw [hmo]; exact hln.add hy
      have hbk2 : z_pc 64 (more ||| 1) ≤ c + 1 := by
        have a1 := z_pc_shl 64 back (y - last)
        have a2 := z_pc_or 64 (back <<< (y - last)) 1
        have a3 := z_pc_one 64 0
        rw [show (1 <<< 0 : Nat) = 1 from rfl] at a3
        rw [hmo]
        omega
      refine hN a1 a2 a3 to (y : Int) t (mask ||| 1 <<< y) y (more ||| 1) (meas ||| more) (c + 1) (z_up w c (y : Int)) f1 F2 I2 l Q (by rw [s2.1 79 14 (by omega), h14]; omega) (by rw [s2.1 79 15 (by omega)]; exact h15) (by rw [s2.1 79 17 (by omega)]; exact h17) (by rw [s2.1 79 19 (by omega)]; exact h19) (by rw [hF2, z_u2_same]; omega) hln2 hbk2 (hmr.snoc hln.1 hy) r86 (by rw [hI2, z_u2_ad _ _ _ (by omega), z_up_same]) (fun x hx => ?_) (by rw [Nat.testBit_or, h0, hm0]; rfl) (fun x hx => by rw [Nat.testBit_or, hme x hx, hmb x hx]; rfl) (fun q => hto3 q (by omega)) (fun q => by have := hto2 q; omega) (by omega) (hac.fr (by rw [hF2, z_u2_nk _ _ _ _ (by omega)]) (by rw [hF2, z_u2_nk _ _ _ _ (by omega)]) (by rw [hI2, z_u2_ad _ _ _ (by omega), z_up_ne _ _ (by omega)])) (by rw [← efn]; omega) (fun F' I' s3 b1 b2 b3 b4 => ?_)
      · obtain ⟨q1, q2, q3⟩ := hfm x hx
        have q4 := z_fb_le more x
        rw [ef1 x, Nat.testBit_or]
        refine ⟨by omega, by omega, ?_⟩
        unfold z_fb at q4 ⊢
        cases r : more.testBit x with
        | true =>
          rw [if_pos rfl, Bool.or_true]
          exact ⟨fun q => by omega, fun q => by cases q⟩
        | false =>
          rw [if_neg (by decide), Bool.or_false, Int.add_zero]
          exact q3
      rw [← efn] at b4
      repeat (first | refine zw_t rfl rfl ?_ | refine zw_jump rfl rfl ?_ | refine zw_getI rfl rfl (by assumption) ?_ | refine zw_ialn rfl (by assumption) (by omega) ?_ | refine zw_laln rfl (by assumption) (by omega) ?_ | refine zw_iastn rfl (by omega) (by assumption) (by omega) ?_ | refine zw_lastn rfl (by assumption) (by omega) ?_ | refine zw_iald0 rfl (by assumption) (by omega) ?_ | refine zw_lald0 rfl (by assumption) (by omega) ?_ | refine zw_aaln rfl (by assumption) rfl (by omega) ?_ | refine zw_getR rfl (by assumption) (by assumption) ?_ | refine zw_alen rfl (by assumption) rfl ?_ | refine zw_iald rfl (by assumption) (by omega) (by omega) ?_ | refine zw_iast rfl (by omega) (by assumption) (by omega) (by omega) ?_ | refine zw_putI rfl (by assumption) ?_ | refine zw_lald rfl (by assumption) (by omega) (by omega) ?_ | refine zw_last rfl (by assumption) (by omega) (by omega) ?_ | refine zw_iadd rfl (by omega) (by omega) ?_ | refine zw_isub rfl (by omega) (by omega) ?_ | refine zw_iinc rfl rfl rfl (by omega) (by omega) ?_ | refine zw_imul rfl (by omega) (by omega) ?_)
      rw [b1, show ((c + 1 : Nat) : Int) - 1 = (c : Int) by omega]
      obtain ⟨F5, hF5⟩ : ∃ F5, F5 = z_u2 F' 79 8 (c : Int) := ⟨_, rfl⟩
      rw [← hF5]
      have s5 : ZSf F I F5 I' := by rw [hF5]; exact (s2.trans s3).fld 8 _ (by omega)
      have b86 : ZAgr (I' 86) w c := fun j hj => by rw [b2 j (by omega), z_up_ne _ _ (by omega)]
      refine zw_callv rfl rfl rfl rfl rfl rfl (by assumption) ?_
      refine ZC.le (show 0 + 1 ≤ _ by omega) ?_
      refine c_mcounts (n := -1) (rd := 0) hk0 (by rw [hF5, z_u2_same]) (by omega) b86 b3 hcb (Or.inr rfl) (fun x hx => by rw [ef1 x]; have := hfm x hx; have := z_fb_le more x; omega) (Or.inl ⟨by rw [s5.1 79 19 (by omega)]; omega, rfl⟩) (fun t2 f2 _ hf2 _ => ?_)
      have ef : f2 = f := by
        rw [hf2, hf1]
        funext x
        dsimp only
        omega
      rw [ef]
      repeat (first | refine zw_t rfl rfl ?_ | refine zw_jump rfl rfl ?_ | refine zw_getI rfl rfl (by assumption) ?_ | refine zw_ialn rfl (by assumption) (by omega) ?_ | refine zw_laln rfl (by assumption) (by omega) ?_ | refine zw_iastn rfl (by omega) (by assumption) (by omega) ?_ | refine zw_lastn rfl (by assumption) (by omega) ?_ | refine zw_iald0 rfl (by assumption) (by omega) ?_ | refine zw_lald0 rfl (by assumption) (by omega) ?_ | refine zw_aaln rfl (by assumption) rfl (by omega) ?_ | refine zw_getR rfl (by assumption) (by assumption) ?_ | refine zw_alen rfl (by assumption) rfl ?_ | refine zw_iald rfl (by assumption) (by omega) (by omega) ?_ | refine zw_iast rfl (by omega) (by assumption) (by omega) (by omega) ?_ | refine zw_putI rfl (by assumption) ?_ | refine zw_lald rfl (by assumption) (by omega) (by omega) ?_ | refine zw_last rfl (by assumption) (by omega) (by omega) ?_ | refine zw_iadd rfl (by omega) (by omega) ?_ | refine zw_isub rfl (by omega) (by omega) ?_ | refine zw_iinc rfl rfl rfl (by omega) (by omega) ?_ | refine zw_imul rfl (by omega) (by omega) ?_)
      refine zw_goto rfl ?_
      have s6 : ZSf F I F5 (z_up I' 87 f) := s5.row 87 f (by omega)
      refine ih (y + 1) a1 a2 a3 to _ F5 (z_up I' 87 f) (l ++ fn y) (by rw [s5.1 79 14 (by omega)]; exact h14) (by rw [s5.1 79 15 (by omega)]; exact h15) (by rw [s5.1 79 17 (by omega)]; exact h17) (by rw [s5.1 79 19 (by omega)]; exact h19) (by rw [hF5, z_u2_same]) (by rw [z_up_ne _ _ (by omega)]; exact b86) (z_up_same _ _ _) (by omega) (by omega) hto hto2 (fun q1 q2 => by have := hto3 q1 (by omega); omega) (b4.fr (by rw [hF5, z_u2_nk _ _ _ _ (by omega)]) (by rw [hF5, z_u2_nk _ _ _ _ (by omega)]) (z_up_ne _ _ (by omega))) (by rw [List.length_append]; omega) (fun F'' I'' s7 d1 d2 d3 d4 => ?_)
      refine K F'' I'' (s6.trans s7) d1 d2 d3 ?_
      rw [List.append_assoc] at d4
      exact d4
  have hml : ∀ x, 1 ≤ x → x ≤ n → (f x = 0 ↔ meas.testBit x = false) := fun x _ hx => (hfm x (by omega)).2.2
  have hop := z_ones (f := f) (m := meas) (n := n) (by omega) hml h0 hme
  obtain ⟨p, hp⟩ : ∃ p, p = (left + 1) * c := ⟨_, rfl⟩
  obtain ⟨t, ht⟩ : ∃ t, t = (left + 1) * left := ⟨_, rfl⟩
  have hp2 : p ≤ 9 * 9 := by rw [hp]; exact z_mul_le (by omega) (by omega)
  have ht2 : t ≤ 9 * 9 := by rw [ht]; exact z_mul_le (by omega) (by omega)
  have ep : ((left + 1 : Nat) : Int) * (c : Int) = (p : Int) := by rw [hp, Int.natCast_mul]
  have et : ((left + 1 : Nat) : Int) * (((left + 1 : Nat) : Int) - 1) = (t : Int) := by rw [z_mul2, ht]
  have e1 : F 79 14 - F 79 8 = ((left + 1 : Nat) : Int) := by omega
  refine ze_M_goCover ?_
  repeat (first | refine zw_t rfl rfl ?_ | refine zw_jump rfl rfl ?_ | refine zw_getI rfl rfl (by assumption) ?_ | refine zw_ialn rfl (by assumption) (by omega) ?_ | refine zw_laln rfl (by assumption) (by omega) ?_ | refine zw_iastn rfl (by omega) (by assumption) (by omega) ?_ | refine zw_lastn rfl (by assumption) (by omega) ?_ | refine zw_iald0 rfl (by assumption) (by omega) ?_ | refine zw_lald0 rfl (by assumption) (by omega) ?_ | refine zw_aaln rfl (by assumption) rfl (by omega) ?_ | refine zw_getR rfl (by assumption) (by assumption) ?_ | refine zw_alen rfl (by assumption) rfl ?_ | refine zw_iald rfl (by assumption) (by omega) (by omega) ?_ | refine zw_iast rfl (by omega) (by assumption) (by omega) (by omega) ?_ | refine zw_putI rfl (by assumption) ?_ | refine zw_lald rfl (by assumption) (by omega) (by omega) ?_ | refine zw_last rfl (by assumption) (by omega) (by omega) ?_ | refine zw_iadd rfl (by omega) (by omega) ?_ | refine zw_isub rfl (by omega) (by omega) ?_ | refine zw_iinc rfl rfl rfl (by omega) (by omega) ?_ | refine zw_imul rfl (by omega) (by omega) ?_)
  rw [e1, h8]
  refine zw_imul rfl (by rw [ep]; omega) (by rw [ep]; omega) ?_
  rw [ep]
  repeat (first | refine zw_t rfl rfl ?_ | refine zw_jump rfl rfl ?_ | refine zw_getI rfl rfl (by assumption) ?_ | refine zw_ialn rfl (by assumption) (by omega) ?_ | refine zw_laln rfl (by assumption) (by omega) ?_ | refine zw_iastn rfl (by omega) (by assumption) (by omega) ?_ | refine zw_lastn rfl (by assumption) (by omega) ?_ | refine zw_iald0 rfl (by assumption) (by omega) ?_ | refine zw_lald0 rfl (by assumption) (by omega) ?_ | refine zw_aaln rfl (by assumption) rfl (by omega) ?_ | refine zw_getR rfl (by assumption) (by assumption) ?_ | refine zw_alen rfl (by assumption) rfl ?_ | refine zw_iald rfl (by assumption) (by omega) (by omega) ?_ | refine zw_iast rfl (by omega) (by assumption) (by omega) (by omega) ?_ | refine zw_putI rfl (by assumption) ?_ | refine zw_lald rfl (by assumption) (by omega) (by omega) ?_ | refine zw_last rfl (by assumption) (by omega) (by omega) ?_ | refine zw_iadd rfl (by omega) (by omega) ?_ | refine zw_isub rfl (by omega) (by omega) ?_ | refine zw_iinc rfl rfl rfl (by omega) (by omega) ?_ | refine zw_imul rfl (by omega) (by omega) ?_)
  rw [et]
  refine zw_idiv rfl (by omega) (by omega) ?_
  repeat (first | refine zw_t rfl rfl ?_ | refine zw_jump rfl rfl ?_ | refine zw_getI rfl rfl (by assumption) ?_ | refine zw_ialn rfl (by assumption) (by omega) ?_ | refine zw_laln rfl (by assumption) (by omega) ?_ | refine zw_iastn rfl (by omega) (by assumption) (by omega) ?_ | refine zw_lastn rfl (by assumption) (by omega) ?_ | refine zw_iald0 rfl (by assumption) (by omega) ?_ | refine zw_lald0 rfl (by assumption) (by omega) ?_ | refine zw_aaln rfl (by assumption) rfl (by omega) ?_ | refine zw_getR rfl (by assumption) (by assumption) ?_ | refine zw_alen rfl (by assumption) rfl ?_ | refine zw_iald rfl (by assumption) (by omega) (by omega) ?_ | refine zw_iast rfl (by omega) (by assumption) (by omega) (by omega) ?_ | refine zw_putI rfl (by assumption) ?_ | refine zw_lald rfl (by assumption) (by omega) (by omega) ?_ | refine zw_last rfl (by assumption) (by omega) (by omega) ?_ | refine zw_iadd rfl (by omega) (by omega) ?_ | refine zw_isub rfl (by omega) (by omega) ?_ | refine zw_iinc rfl rfl rfl (by omega) (by omega) ?_ | refine zw_imul rfl (by omega) (by omega) ?_)
  refine zw_callv rfl rfl rfl rfl rfl rfl (by assumption) ?_
  refine ZC.le (show 0 + 1 ≤ _ by omega) ?_
  refine c_openOnes hk0 (by omega) h15 hf ?_
  repeat (first | refine zw_t rfl rfl ?_ | refine zw_jump rfl rfl ?_ | refine zw_getI rfl rfl (by assumption) ?_ | refine zw_ialn rfl (by assumption) (by omega) ?_ | refine zw_laln rfl (by assumption) (by omega) ?_ | refine zw_iastn rfl (by omega) (by assumption) (by omega) ?_ | refine zw_lastn rfl (by assumption) (by omega) ?_ | refine zw_iald0 rfl (by assumption) (by omega) ?_ | refine zw_lald0 rfl (by assumption) (by omega) ?_ | refine zw_aaln rfl (by assumption) rfl (by omega) ?_ | refine zw_getR rfl (by assumption) (by assumption) ?_ | refine zw_alen rfl (by assumption) rfl ?_ | refine zw_iald rfl (by assumption) (by omega) (by omega) ?_ | refine zw_iast rfl (by omega) (by assumption) (by omega) (by omega) ?_ | refine zw_putI rfl (by assumption) ?_ | refine zw_lald rfl (by assumption) (by omega) (by omega) ?_ | refine zw_last rfl (by assumption) (by omega) (by omega) ?_ | refine zw_iadd rfl (by omega) (by omega) ?_ | refine zw_isub rfl (by omega) (by omega) ?_ | refine zw_iinc rfl rfl rfl (by omega) (by omega) ?_ | refine zw_imul rfl (by omega) (by omega) ?_)
  refine zw_icmp_le rfl (fun h5 => ?_) (fun h5 => ?_)
  · by_cases hl0 : left = 0
    · subst hl0
      rw [z_cw_1] at K hlen
      rw [← hfn] at K hlen
      repeat (first | refine zw_t rfl rfl ?_ | refine zw_jump rfl rfl ?_ | refine zw_getI rfl rfl (by assumption) ?_ | refine zw_ialn rfl (by assumption) (by omega) ?_ | refine zw_laln rfl (by assumption) (by omega) ?_ | refine zw_iastn rfl (by omega) (by assumption) (by omega) ?_ | refine zw_lastn rfl (by assumption) (by omega) ?_ | refine zw_iald0 rfl (by assumption) (by omega) ?_ | refine zw_lald0 rfl (by assumption) (by omega) ?_ | refine zw_aaln rfl (by assumption) rfl (by omega) ?_ | refine zw_getR rfl (by assumption) (by assumption) ?_ | refine zw_alen rfl (by assumption) rfl ?_ | refine zw_iald rfl (by assumption) (by omega) (by omega) ?_ | refine zw_iast rfl (by omega) (by assumption) (by omega) (by omega) ?_ | refine zw_putI rfl (by assumption) ?_ | refine zw_lald rfl (by assumption) (by omega) (by omega) ?_ | refine zw_last rfl (by assumption) (by omega) (by omega) ?_ | refine zw_iadd rfl (by omega) (by omega) ?_ | refine zw_isub rfl (by omega) (by omega) ?_ | refine zw_iinc rfl rfl rfl (by omega) (by omega) ?_ | refine zw_imul rfl (by omega) (by omega) ?_)
      refine zw_icmp_ne_f rfl rfl ?_
      repeat (first | refine zw_t rfl rfl ?_ | refine zw_jump rfl rfl ?_ | refine zw_getI rfl rfl (by assumption) ?_ | refine zw_ialn rfl (by assumption) (by omega) ?_ | refine zw_laln rfl (by assumption) (by omega) ?_ | refine zw_iastn rfl (by omega) (by assumption) (by omega) ?_ | refine zw_lastn rfl (by assumption) (by omega) ?_ | refine zw_iald0 rfl (by assumption) (by omega) ?_ | refine zw_lald0 rfl (by assumption) (by omega) ?_ | refine zw_aaln rfl (by assumption) rfl (by omega) ?_ | refine zw_getR rfl (by assumption) (by assumption) ?_ | refine zw_alen rfl (by assumption) rfl ?_ | refine zw_iald rfl (by assumption) (by omega) (by omega) ?_ | refine zw_iast rfl (by omega) (by assumption) (by omega) (by omega) ?_ | refine zw_putI rfl (by assumption) ?_ | refine zw_lald rfl (by assumption) (by omega) (by omega) ?_ | refine zw_last rfl (by assumption) (by omega) (by omega) ?_ | refine zw_iadd rfl (by omega) (by omega) ?_ | refine zw_isub rfl (by omega) (by omega) ?_ | refine zw_iinc rfl rfl rfl (by omega) (by omega) ?_ | refine zw_imul rfl (by omega) (by omega) ?_)
      refine zw_icmp_ne_f rfl rfl ?_
      repeat (refine zw_ne 85 rfl ?_; first | refine zw_t rfl rfl ?_ | refine zw_jump rfl rfl ?_ | refine zw_getI rfl rfl (by assumption) ?_ | refine zw_ialn rfl (by assumption) (by omega) ?_ | refine zw_laln rfl (by assumption) (by omega) ?_ | refine zw_iastn rfl (by omega) (by assumption) (by omega) ?_ | refine zw_lastn rfl (by assumption) (by omega) ?_ | refine zw_iald0 rfl (by assumption) (by omega) ?_ | refine zw_lald0 rfl (by assumption) (by omega) ?_ | refine zw_aaln rfl (by assumption) rfl (by omega) ?_ | refine zw_getR rfl (by assumption) (by assumption) ?_ | refine zw_alen rfl (by assumption) rfl ?_ | refine zw_iald rfl (by assumption) (by omega) (by omega) ?_ | refine zw_iast rfl (by omega) (by assumption) (by omega) (by omega) ?_ | refine zw_putI rfl (by assumption) ?_ | refine zw_lald rfl (by assumption) (by omega) (by omega) ?_ | refine zw_last rfl (by assumption) (by omega) (by omega) ?_ | refine zw_iadd rfl (by omega) (by omega) ?_ | refine zw_isub rfl (by omega) (by omega) ?_ | refine zw_iinc rfl rfl rfl (by omega) (by omega) ?_ | refine zw_imul rfl (by omega) (by omega) ?_)
      rw [h15]
      exact loop 1 n _ _ _ _ _ F I l h14 h15 h17 h19 h8 hag hf (by omega) (Or.inl (by omega)) (Int.le_refl _) (fun q => by omega) (fun _ _ => rfl) hac hlen K
    · obtain ⟨l', rfl⟩ : ∃ l', left = l' + 1 := ⟨left - 1, by omega⟩
      rw [z_cw_2] at K hlen
      rw [← hfn] at K hlen
      repeat (first | refine zw_t rfl rfl ?_ | refine zw_jump rfl rfl ?_ | refine zw_getI rfl rfl (by assumption) ?_ | refine zw_ialn rfl (by assumption) (by omega) ?_ | refine zw_laln rfl (by assumption) (by omega) ?_ | refine zw_iastn rfl (by omega) (by assumption) (by omega) ?_ | refine zw_lastn rfl (by assumption) (by omega) ?_ | refine zw_iald0 rfl (by assumption) (by omega) ?_ | refine zw_lald0 rfl (by assumption) (by omega) ?_ | refine zw_aaln rfl (by assumption) rfl (by omega) ?_ | refine zw_getR rfl (by assumption) (by assumption) ?_ | refine zw_alen rfl (by assumption) rfl ?_ | refine zw_iald rfl (by assumption) (by omega) (by omega) ?_ | refine zw_iast rfl (by omega) (by assumption) (by omega) (by omega) ?_ | refine zw_putI rfl (by assumption) ?_ | refine zw_lald rfl (by assumption) (by omega) (by omega) ?_ | refine zw_last rfl (by assumption) (by omega) (by omega) ?_ | refine zw_iadd rfl (by omega) (by omega) ?_ | refine zw_isub rfl (by omega) (by omega) ?_ | refine zw_iinc rfl rfl rfl (by omega) (by omega) ?_ | refine zw_imul rfl (by omega) (by omega) ?_)
      refine zw_icmp_ne_t rfl (by omega) ?_
      repeat (first | refine zw_t rfl rfl ?_ | refine zw_jump rfl rfl ?_ | refine zw_getI rfl rfl (by assumption) ?_ | refine zw_ialn rfl (by assumption) (by omega) ?_ | refine zw_laln rfl (by assumption) (by omega) ?_ | refine zw_iastn rfl (by omega) (by assumption) (by omega) ?_ | refine zw_lastn rfl (by assumption) (by omega) ?_ | refine zw_iald0 rfl (by assumption) (by omega) ?_ | refine zw_lald0 rfl (by assumption) (by omega) ?_ | refine zw_aaln rfl (by assumption) rfl (by omega) ?_ | refine zw_getR rfl (by assumption) (by assumption) ?_ | refine zw_alen rfl (by assumption) rfl ?_ | refine zw_iald rfl (by assumption) (by omega) (by omega) ?_ | refine zw_iast rfl (by omega) (by assumption) (by omega) (by omega) ?_ | refine zw_putI rfl (by assumption) ?_ | refine zw_lald rfl (by assumption) (by omega) (by omega) ?_ | refine zw_last rfl (by assumption) (by omega) (by omega) ?_ | refine zw_iadd rfl (by omega) (by omega) ?_ | refine zw_isub rfl (by omega) (by omega) ?_ | refine zw_iinc rfl rfl rfl (by omega) (by omega) ?_ | refine zw_imul rfl (by omega) (by omega) ?_)
      rw [show (F 79 8 - 1).toNat = c - 1 by omega, hag (c - 1) (by omega), htop]
      repeat (first | refine zw_t rfl rfl ?_ | refine zw_jump rfl rfl ?_ | refine zw_getI rfl rfl (by assumption) ?_ | refine zw_ialn rfl (by assumption) (by omega) ?_ | refine zw_laln rfl (by assumption) (by omega) ?_ | refine zw_iastn rfl (by omega) (by assumption) (by omega) ?_ | refine zw_lastn rfl (by assumption) (by omega) ?_ | refine zw_iald0 rfl (by assumption) (by omega) ?_ | refine zw_lald0 rfl (by assumption) (by omega) ?_ | refine zw_aaln rfl (by assumption) rfl (by omega) ?_ | refine zw_getR rfl (by assumption) (by assumption) ?_ | refine zw_alen rfl (by assumption) rfl ?_ | refine zw_iald rfl (by assumption) (by omega) (by omega) ?_ | refine zw_iast rfl (by omega) (by assumption) (by omega) (by omega) ?_ | refine zw_putI rfl (by assumption) ?_ | refine zw_lald rfl (by assumption) (by omega) (by omega) ?_ | refine zw_last rfl (by assumption) (by omega) (by omega) ?_ | refine zw_iadd rfl (by omega) (by omega) ?_ | refine zw_isub rfl (by omega) (by omega) ?_ | refine zw_iinc rfl rfl rfl (by omega) (by omega) ?_ | refine zw_imul rfl (by omega) (by omega) ?_)
      refine zw_icmp_ne_t rfl (by omega) ?_
      repeat (refine zw_ne 85 rfl ?_; first | refine zw_t rfl rfl ?_ | refine zw_jump rfl rfl ?_ | refine zw_getI rfl rfl (by assumption) ?_ | refine zw_ialn rfl (by assumption) (by omega) ?_ | refine zw_laln rfl (by assumption) (by omega) ?_ | refine zw_iastn rfl (by omega) (by assumption) (by omega) ?_ | refine zw_lastn rfl (by assumption) (by omega) ?_ | refine zw_iald0 rfl (by assumption) (by omega) ?_ | refine zw_lald0 rfl (by assumption) (by omega) ?_ | refine zw_aaln rfl (by assumption) rfl (by omega) ?_ | refine zw_getR rfl (by assumption) (by assumption) ?_ | refine zw_alen rfl (by assumption) rfl ?_ | refine zw_iald rfl (by assumption) (by omega) (by omega) ?_ | refine zw_iast rfl (by omega) (by assumption) (by omega) (by omega) ?_ | refine zw_putI rfl (by assumption) ?_ | refine zw_lald rfl (by assumption) (by omega) (by omega) ?_ | refine zw_last rfl (by assumption) (by omega) (by omega) ?_ | refine zw_iadd rfl (by omega) (by omega) ?_ | refine zw_isub rfl (by omega) (by omega) ?_ | refine zw_iinc rfl rfl rfl (by omega) (by omega) ?_ | refine zw_imul rfl (by omega) (by omega) ?_)
      rw [h15]
      have lp := loop (n - (l' + 1) - last) (last + 1) ((l' + 1 + 1 : Nat) : Int) ((p : Int) + (t : Int) / 2) ((last : Int) + 1) ((n : Int) - ((l' + 1 + 1 : Nat) : Int) + 1) none F I l h14 h15 h17 h19 h8 hag hf (by omega) (by omega) (by omega) (fun _ => by omega) (fun q => by omega) hac hlen K
      exact lp
  · have e : z_cw n (left + 1) mask last back meas = [] := by
      refine z_cw_nil hbk ?_
      rw [← hp, ← ht]
      omega
    rw [e, List.append_nil] at K
    repeat (first | refine zw_t rfl rfl ?_ | refine zw_jump rfl rfl ?_ | refine zw_getI rfl rfl (by assumption) ?_ | refine zw_ialn rfl (by assumption) (by omega) ?_ | refine zw_laln rfl (by assumption) (by omega) ?_ | refine zw_iastn rfl (by omega) (by assumption) (by omega) ?_ | refine zw_lastn rfl (by assumption) (by omega) ?_ | refine zw_iald0 rfl (by assumption) (by omega) ?_ | refine zw_lald0 rfl (by assumption) (by omega) ?_ | refine zw_aaln rfl (by assumption) rfl (by omega) ?_ | refine zw_getR rfl (by assumption) (by assumption) ?_ | refine zw_alen rfl (by assumption) rfl ?_ | refine zw_iald rfl (by assumption) (by omega) (by omega) ?_ | refine zw_iast rfl (by omega) (by assumption) (by omega) (by omega) ?_ | refine zw_putI rfl (by assumption) ?_ | refine zw_lald rfl (by assumption) (by omega) (by omega) ?_ | refine zw_last rfl (by assumption) (by omega) (by omega) ?_ | refine zw_iadd rfl (by omega) (by omega) ?_ | refine zw_isub rfl (by omega) (by omega) ?_ | refine zw_iinc rfl rfl rfl (by omega) (by omega) ?_ | refine zw_imul rfl (by omega) (by omega) ?_)
    exact zw_vret rfl (K F I (ZSf.refl _ _) h8 hag hf hac)
theorem z_govs (hk : ZMk k) (hn : n ≤ 24) : ∀ left : Nat, ZGoV k L R n ask left (d + left + 4)
  | 0 => z_gov hk hn (by omega) (z_nxv_0 hk hn (by omega))
  | left + 1 => z_gov hk hn (by omega) (z_nxv_s hk (z_govs hk hn left) (by omega))
end ZRef17
