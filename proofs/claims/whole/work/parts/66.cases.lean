/-! CASES: the class's count -/
def sp_cases (A : ZA) (m n what : Int) : Int × ZA := if 2 ≤ m ∧ m ≤ 6 ∧ 1 ≤ n ∧ n ≤ 20 ∧ 0 ≤ what ∧ what ≤ 1 then ((if what = 0 then ((z_cs n.toNat (m.toNat - 1) 0 1 0).1 : Int) else ((z_cs n.toNat (m.toNat - 1) 0 1 0).2 : Int)), A.1, A.2.1, 0) else (-1, A.1, A.2.1, 5)
theorem z_lsm_cong {b b' : Nat → Bool} : ∀ (n l : Nat) (s : Int) (x : Nat), (∀ y, x ≤ y → y < x + n → b y = b' y) → z_lsm b l s x n = z_lsm b' l s x n
  | 0, l, s, x, _ => by cases l <;> rfl
  | n + 1, 0, s, x, _ => rfl
  | n + 1, l + 1, s, x, h => by
    unfold z_lsm
    rw [h x (by omega) (by omega), z_lsm_cong n (l + 1) s (x + 1) (fun y a c => h y (by omega) (by omega)), z_lsm_cong n l (s + x) (x + 1) (fun y a c => h y (by omega) (by omega))]
theorem z_lsm_bd {b : Nat → Bool} : ∀ (n l : Nat) (s : Int) (x : Nat), 0 ≤ s → x + n ≤ 64 → 0 ≤ z_lsm b l s x n ∧ z_lsm b l s x n ≤ s + 64 * n
  | 0, l, s, x, h, _ => by
    have : z_lsm b l s x 0 = s := by cases l <;> rfl
    rw [this]; omega
  | n + 1, 0, s, x, h, _ => by
    show 0 ≤ s ∧ s ≤ s + 64 * ((n + 1 : Nat) : Int)
    omega
  | n + 1, l + 1, s, x, h, hx => by
    unfold z_lsm
    have a1 := z_lsm_bd (b := b) n (l + 1) s (x + 1) h (by omega)
    have a2 := z_lsm_bd (b := b) n l (s + x) (x + 1) (by omega) (by omega)
    split <;> omega
/-- so many cases at most -/
def z_cb : Nat → Nat
  | 0 => 1
  | l + 1 => 1 + 20 * z_cb l
theorem z_fs_le {f : Nat → Nat × Nat} {b : Nat} : ∀ (n y : Nat), (∀ j, (f j).1 ≤ b ∧ (f j).2 ≤ b) → (z_fs f n y).1 ≤ n * b ∧ (z_fs f n y).2 ≤ n * b
  | 0, y, _ => ⟨Nat.zero_le _, Nat.zero_le _⟩
  | n + 1, y, h => by
    have a := z_fs_le n (y + 1) h
    have c := h y
    unfold z_fs
    rw [Nat.add_mul, Nat.one_mul]
    exact ⟨by dsimp only; omega, by dsimp only; omega⟩
theorem z_cb_pos : ∀ l, 1 ≤ z_cb l
  | 0 => Nat.le_refl _
  | l + 1 => by unfold z_cb; omega
theorem z_cs_le {lim : Nat} (hl : lim ≤ 20) : ∀ (left last back meas : Nat), (z_cs lim left last back meas).1 ≤ z_cb left ∧ (z_cs lim left last back meas).2 ≤ z_cb left
  | 0, _, _, _ => ⟨Nat.le_refl _, Nat.le_refl _⟩
  | left + 1, last, back, meas => by
    have hp := z_cb_pos left
    unfold z_cs
    split
    · unfold z_cb; exact ⟨by dsimp only; omega, by dsimp only; omega⟩
    · have a := z_fs_le (b := z_cb left) (f := fun y => if (back <<< (y - last)) &&& meas = 0 then z_cs lim left y ((back <<< (y - last)) ||| 1) (meas ||| (back <<< (y - last))) else (1, 0)) (lim - last) (last + 1) (fun j => by
        show (if _ then _ else _ : Nat × Nat).1 ≤ _ ∧ (if _ then _ else _ : Nat × Nat).2 ≤ _
        split
        · exact z_cs_le hl left _ _ _
        · exact ⟨hp, Nat.zero_le _⟩)
      have b : (lim - last) * z_cb left ≤ 20 * z_cb left := Nat.mul_le_mul_right _ (by omega)
      unfold z_cb
      exact ⟨by dsimp only; omega, by dsimp only; omega⟩
theorem z_cb_5 : z_cb 5 = 3368421 := by decide
theorem z_cb_mono : ∀ {a b : Nat}, a ≤ b → z_cb a ≤ z_cb b := by
  intro a b h
  induction b with
  | zero => rw [show a = 0 by omega]; exact Nat.le_refl _
  | succ b ih =>
    by_cases hab : a = b + 1
    · rw [hab]; exact Nat.le_refl _
    · have := ih (by omega)
      have hp := z_cb_pos b
      show _ ≤ 1 + 20 * z_cb b
      omega
section ZCase
variable {k : ZK} {I : Nat → Nat → Int} {L : Nat → Nat → Int64} {R : Nat → Nat → Option Nat} {m lim : Nat}
theorem c_visit (T15 : k.1 15 = (1, 0)) (hm : m ≤ 6) (hlim : lim ≤ 20) :
    ∀ (left d last back meas a b : Nat) (F : Nat → Nat → Int) (Q : Option ZV → ZH → Prop), F 15 2 = (m : Int) → F 15 3 = (lim : Int) → F 15 4 = (a : Int) → F 15 5 = (b : Int) → left + 1 ≤ m → last ≤ lim → back < 2 ^ (last + 1) → meas < 2 ^ (last + 1) → a + (z_cs lim left last back meas).1 ≤ 1000000000 → b + (z_cs lim left last back meas).2 ≤ 1000000000 →
      (∀ F', (∀ q j, ¬ (q = 15 ∧ (j = 4 ∨ j = 5)) → F' q j = F q j) → F' 15 4 = ((a + (z_cs lim left last back meas).1 : Nat) : Int) → F' 15 5 = ((b + (z_cs lim left last back meas).2 : Nat) : Int) → Q none (k, F', I, L, R)) → ZC (d + left + 2) 5 [.inr (.inr (some 15)), .inl (last : Int), .inl ((m - left : Nat) : Int), .inr (.inl (Int64.ofNat back)), .inr (.inl (Int64.ofNat meas))] (k, F, I, L, R) Q := by
  intro left
  induction left with
  | zero =>
    intro d last back meas a b F Q f2 f3 f4 f5 hl hlast hb hme ha hbb K
    have e : z_cs lim 0 last back meas = (1, 1) := rfl
    rw [e] at K ha hbb
    dsimp only at K ha hbb
    refine ze_CaseCount_visit ?_
    repeat (first | refine zw_t rfl rfl ?_ | refine zw_jump rfl rfl ?_ | refine zw_getI rfl rfl (by assumption) ?_ | refine zw_ialn rfl (by assumption) (by omega) ?_ | refine zw_laln rfl (by assumption) (by omega) ?_ | refine zw_iastn rfl (by omega) (by assumption) (by omega) ?_ | refine zw_lastn rfl (by assumption) (by omega) ?_ | refine zw_iald0 rfl (by assumption) (by omega) ?_ | refine zw_lald0 rfl (by assumption) (by omega) ?_ | refine zw_aaln rfl (by assumption) rfl (by omega) ?_ | refine zw_getR rfl (by assumption) (by assumption) ?_ | refine zw_alen rfl (by assumption) rfl ?_ | refine zw_iald rfl (by assumption) (by omega) (by omega) ?_ | refine zw_iast rfl (by omega) (by assumption) (by omega) (by omega) ?_ | refine zw_putI rfl (by assumption) ?_ | refine zw_lald rfl (by assumption) (by omega) (by omega) ?_ | refine zw_last rfl (by assumption) (by omega) (by omega) ?_ | refine zw_iadd rfl (by omega) (by omega) ?_ | refine zw_isub rfl (by omega) (by omega) ?_ | refine zw_iinc rfl rfl rfl (by omega) (by omega) ?_)
    rw [show z_u2 F 15 4 (F 15 4 + 1) 15 2 = (m : Int) by rw [z_u2_nk _ _ _ _ (by omega)]; exact f2]
    refine zw_icmp_lt_f rfl (by omega) ?_
    have f5' : z_u2 F 15 4 (F 15 4 + 1) 15 5 = (b : Int) := by rw [z_u2_nk _ _ _ _ (by omega)]; exact f5
    repeat (first | refine zw_t rfl rfl ?_ | refine zw_jump rfl rfl ?_ | refine zw_getI rfl rfl (by assumption) ?_ | refine zw_ialn rfl (by assumption) (by omega) ?_ | refine zw_laln rfl (by assumption) (by omega) ?_ | refine zw_iastn rfl (by omega) (by assumption) (by omega) ?_ | refine zw_lastn rfl (by assumption) (by omega) ?_ | refine zw_iald0 rfl (by assumption) (by omega) ?_ | refine zw_lald0 rfl (by assumption) (by omega) ?_ | refine zw_aaln rfl (by assumption) rfl (by omega) ?_ | refine zw_getR rfl (by assumption) (by assumption) ?_ | refine zw_alen rfl (by assumption) rfl ?_ | refine zw_iald rfl (by assumption) (by omega) (by omega) ?_ | refine zw_iast rfl (by omega) (by assumption) (by omega) (by omega) ?_ | refine zw_putI rfl (by assumption) ?_ | refine zw_lald rfl (by assumption) (by omega) (by omega) ?_ | refine zw_last rfl (by assumption) (by omega) (by omega) ?_ | refine zw_iadd rfl (by omega) (by omega) ?_ | refine zw_isub rfl (by omega) (by omega) ?_ | refine zw_iinc rfl rfl rfl (by omega) (by omega) ?_)
    refine zw_vret rfl (K _ (fun q j hq => ?_) ?_ ?_)
    · unfold z_u2
      rw [if_neg (by omega), if_neg (by omega)]
    · rw [z_u2_nk _ _ _ _ (by omega), z_u2_same]; omega
    · rw [z_u2_same, f5']; omega
  | succ left ih =>
    intro d last back meas a b F Q f2 f3 f4 f5 hl hlast hb hme ha hbb K
    have lsm : z_lsm (zbit (Int64.ofNat meas)) (left + 1) 0 1 63 = z_lsm meas.testBit (left + 1) 0 1 63 := z_lsm_cong _ _ _ _ (fun y h1 h2 => zbit_ofNat _ _ (by omega))
    have lbd := z_lsm_bd (b := meas.testBit) 63 (left + 1) 0 1 (by omega) (by omega)
    unfold z_cs at K ha hbb
    refine ze_CaseCount_visit ?_
    repeat (first | refine zw_t rfl rfl ?_ | refine zw_jump rfl rfl ?_ | refine zw_getI rfl rfl (by assumption) ?_ | refine zw_ialn rfl (by assumption) (by omega) ?_ | refine zw_laln rfl (by assumption) (by omega) ?_ | refine zw_iastn rfl (by omega) (by assumption) (by omega) ?_ | refine zw_lastn rfl (by assumption) (by omega) ?_ | refine zw_iald0 rfl (by assumption) (by omega) ?_ | refine zw_lald0 rfl (by assumption) (by omega) ?_ | refine zw_aaln rfl (by assumption) rfl (by omega) ?_ | refine zw_getR rfl (by assumption) (by assumption) ?_ | refine zw_alen rfl (by assumption) rfl ?_ | refine zw_iald rfl (by assumption) (by omega) (by omega) ?_ | refine zw_iast rfl (by omega) (by assumption) (by omega) (by omega) ?_ | refine zw_putI rfl (by assumption) ?_ | refine zw_lald rfl (by assumption) (by omega) (by omega) ?_ | refine zw_last rfl (by assumption) (by omega) (by omega) ?_ | refine zw_iadd rfl (by omega) (by omega) ?_ | refine zw_isub rfl (by omega) (by omega) ?_ | refine zw_iinc rfl rfl rfl (by omega) (by omega) ?_)
    obtain ⟨F1, hF1⟩ : ∃ F1, F1 = z_u2 F 15 4 (F 15 4 + 1) := ⟨_, rfl⟩
    rw [← hF1]
    have g2 : F1 15 2 = (m : Int) := by rw [hF1, z_u2_nk _ _ _ _ (by omega)]; exact f2
    have g3 : F1 15 3 = (lim : Int) := by rw [hF1, z_u2_nk _ _ _ _ (by omega)]; exact f3
    have g4 : F1 15 4 = ((a + 1 : Nat) : Int) := by rw [hF1, z_u2_same]; omega
    have g5 : F1 15 5 = (b : Int) := by rw [hF1, z_u2_nk _ _ _ _ (by omega)]; exact f5
    have gf : ∀ q j, ¬ (q = 15 ∧ (j = 4 ∨ j = 5)) → F1 q j = F q j := fun q j hq => by
      rw [hF1]
      unfold z_u2
      rw [if_neg (by omega)]
    rw [g2]
    refine zw_icmp_lt_t rfl (by omega) ?_
    repeat (first | refine zw_t rfl rfl ?_ | refine zw_jump rfl rfl ?_ | refine zw_getI rfl rfl (by assumption) ?_ | refine zw_ialn rfl (by assumption) (by omega) ?_ | refine zw_laln rfl (by assumption) (by omega) ?_ | refine zw_iastn rfl (by omega) (by assumption) (by omega) ?_ | refine zw_lastn rfl (by assumption) (by omega) ?_ | refine zw_iald0 rfl (by assumption) (by omega) ?_ | refine zw_lald0 rfl (by assumption) (by omega) ?_ | refine zw_aaln rfl (by assumption) rfl (by omega) ?_ | refine zw_getR rfl (by assumption) (by assumption) ?_ | refine zw_alen rfl (by assumption) rfl ?_ | refine zw_iald rfl (by assumption) (by omega) (by omega) ?_ | refine zw_iast rfl (by omega) (by assumption) (by omega) (by omega) ?_ | refine zw_putI rfl (by assumption) ?_ | refine zw_lald rfl (by assumption) (by omega) (by omega) ?_ | refine zw_last rfl (by assumption) (by omega) (by omega) ?_ | refine zw_iadd rfl (by omega) (by omega) ?_ | refine zw_isub rfl (by omega) (by omega) ?_ | refine zw_iinc rfl rfl rfl (by omega) (by omega) ?_)
    rw [g2, show (m : Int) - ((m - (left + 1) : Nat) : Int) = ((left + 1 : Nat) : Int) by omega]
    refine zw_calls rfl rfl rfl rfl rfl rfl ?_
    refine c_leastSum (by omega) ?_
    rw [lsm]
    repeat (first | refine zw_t rfl rfl ?_ | refine zw_jump rfl rfl ?_ | refine zw_getI rfl rfl (by assumption) ?_ | refine zw_ialn rfl (by assumption) (by omega) ?_ | refine zw_laln rfl (by assumption) (by omega) ?_ | refine zw_iastn rfl (by omega) (by assumption) (by omega) ?_ | refine zw_lastn rfl (by assumption) (by omega) ?_ | refine zw_iald0 rfl (by assumption) (by omega) ?_ | refine zw_lald0 rfl (by assumption) (by omega) ?_ | refine zw_aaln rfl (by assumption) rfl (by omega) ?_ | refine zw_getR rfl (by assumption) (by assumption) ?_ | refine zw_alen rfl (by assumption) rfl ?_ | refine zw_iald rfl (by assumption) (by omega) (by omega) ?_ | refine zw_iast rfl (by omega) (by assumption) (by omega) (by omega) ?_ | refine zw_putI rfl (by assumption) ?_ | refine zw_lald rfl (by assumption) (by omega) (by omega) ?_ | refine zw_last rfl (by assumption) (by omega) (by omega) ?_ | refine zw_iadd rfl (by omega) (by omega) ?_ | refine zw_isub rfl (by omega) (by omega) ?_ | refine zw_iinc rfl rfl rfl (by omega) (by omega) ?_)
    rw [g3]
    refine zw_icmp_le rfl (fun h1 => ?_) (fun h1 => ?_)
    · rw [if_neg (by omega)] at K ha hbb
      dsimp only at K ha hbb
      obtain ⟨g, hg⟩ : ∃ g : Nat → Nat × Nat, g = (fun y => if (back <<< (y - last)) &&& meas = 0 then z_cs lim left y ((back <<< (y - last)) ||| 1) (meas ||| (back <<< (y - last))) else (1, 0)) := ⟨_, rfl⟩
      rw [← hg] at K ha hbb
      have loop : ∀ (n y a b : Nat) (x8 x9 : Option ZV) (F1 : Nat → Nat → Int), last < y → n + y = lim + 1 → F1 15 2 = (m : Int) → F1 15 3 = (lim : Int) → F1 15 4 = (a : Int) → F1 15 5 = (b : Int) → (∀ q j, ¬ (q = 15 ∧ (j = 4 ∨ j = 5)) → F1 q j = F q j) → a + (z_fs g n y).1 ≤ 1000000000 → b + (z_fs g n y).2 ≤ 1000000000 →
          (∀ F', (∀ q j, ¬ (q = 15 ∧ (j = 4 ∨ j = 5)) → F' q j = F q j) → F' 15 4 = ((a + (z_fs g n y).1 : Nat) : Int) → F' 15 5 = ((b + (z_fs g n y).2 : Nat) : Int) → Q none (k, F', I, L, R)) →
          ZW (d + (left + 1) + 1) 5 55 [some (.inr (.inr (some 15))), some (.inl (last : Int)), some (.inl ((m - (left + 1) : Nat) : Int)), some (.inr (.inl (Int64.ofNat back))), none, some (.inr (.inl (Int64.ofNat meas))), none, some (.inl (y : Int)), x8, x9] [] (k, F1, I, L, R) Q := by
        intro n
        induction n with
        | zero =>
          intro y a b x8 x9 F1 hy hn g2 g3 g4 g5 gf ha hbb K
          repeat (first | refine zw_t rfl rfl ?_ | refine zw_jump rfl rfl ?_ | refine zw_getI rfl rfl (by assumption) ?_ | refine zw_ialn rfl (by assumption) (by omega) ?_ | refine zw_laln rfl (by assumption) (by omega) ?_ | refine zw_iastn rfl (by omega) (by assumption) (by omega) ?_ | refine zw_lastn rfl (by assumption) (by omega) ?_ | refine zw_iald0 rfl (by assumption) (by omega) ?_ | refine zw_lald0 rfl (by assumption) (by omega) ?_ | refine zw_aaln rfl (by assumption) rfl (by omega) ?_ | refine zw_getR rfl (by assumption) (by assumption) ?_ | refine zw_alen rfl (by assumption) rfl ?_ | refine zw_iald rfl (by assumption) (by omega) (by omega) ?_ | refine zw_iast rfl (by omega) (by assumption) (by omega) (by omega) ?_ | refine zw_putI rfl (by assumption) ?_ | refine zw_lald rfl (by assumption) (by omega) (by omega) ?_ | refine zw_last rfl (by assumption) (by omega) (by omega) ?_ | refine zw_iadd rfl (by omega) (by omega) ?_ | refine zw_isub rfl (by omega) (by omega) ?_ | refine zw_iinc rfl rfl rfl (by omega) (by omega) ?_)
          rw [g3]
          refine zw_icmp_gt_t rfl (by omega) ?_
          exact zw_vret rfl (K F1 gf (by rw [g4]; rfl) (by rw [g5]; rfl))
        | succ n ihn =>
          intro y a b x8 x9 F1 hy hn g2 g3 g4 g5 gf ha hbb K
          have e : z_fs g (n + 1) y = ((g y).1 + (z_fs g n (y + 1)).1, (g y).2 + (z_fs g n (y + 1)).2) := rfl
          rw [e] at K ha hbb
          dsimp only at K ha hbb
          have hbs : back <<< (y - last) < 2 ^ (y + 1) := z_shl_lt hb (by omega)
          have em1 := z_more (back := back) (show last ≤ y by omega) (show y < 64 by omega)
          have key := z_more0 (back := back) (show last ≤ y by omega) (show y < 64 by omega) (z_up_lt hme (show last + 1 ≤ 64 by omega))
          repeat (first | refine zw_t rfl rfl ?_ | refine zw_jump rfl rfl ?_ | refine zw_getI rfl rfl (by assumption) ?_ | refine zw_ialn rfl (by assumption) (by omega) ?_ | refine zw_laln rfl (by assumption) (by omega) ?_ | refine zw_iastn rfl (by omega) (by assumption) (by omega) ?_ | refine zw_lastn rfl (by assumption) (by omega) ?_ | refine zw_iald0 rfl (by assumption) (by omega) ?_ | refine zw_lald0 rfl (by assumption) (by omega) ?_ | refine zw_aaln rfl (by assumption) rfl (by omega) ?_ | refine zw_getR rfl (by assumption) (by assumption) ?_ | refine zw_alen rfl (by assumption) rfl ?_ | refine zw_iald rfl (by assumption) (by omega) (by omega) ?_ | refine zw_iast rfl (by omega) (by assumption) (by omega) (by omega) ?_ | refine zw_putI rfl (by assumption) ?_ | refine zw_lald rfl (by assumption) (by omega) (by omega) ?_ | refine zw_last rfl (by assumption) (by omega) (by omega) ?_ | refine zw_iadd rfl (by omega) (by omega) ?_ | refine zw_isub rfl (by omega) (by omega) ?_ | refine zw_iinc rfl rfl rfl (by omega) (by omega) ?_)
          rw [g3]
          refine zw_icmp_gt_f rfl (by omega) ?_
          repeat (first | refine zw_t rfl rfl ?_ | refine zw_jump rfl rfl ?_ | refine zw_getI rfl rfl (by assumption) ?_ | refine zw_ialn rfl (by assumption) (by omega) ?_ | refine zw_laln rfl (by assumption) (by omega) ?_ | refine zw_iastn rfl (by omega) (by assumption) (by omega) ?_ | refine zw_lastn rfl (by assumption) (by omega) ?_ | refine zw_iald0 rfl (by assumption) (by omega) ?_ | refine zw_lald0 rfl (by assumption) (by omega) ?_ | refine zw_aaln rfl (by assumption) rfl (by omega) ?_ | refine zw_getR rfl (by assumption) (by assumption) ?_ | refine zw_alen rfl (by assumption) rfl ?_ | refine zw_iald rfl (by assumption) (by omega) (by omega) ?_ | refine zw_iast rfl (by omega) (by assumption) (by omega) (by omega) ?_ | refine zw_putI rfl (by assumption) ?_ | refine zw_lald rfl (by assumption) (by omega) (by omega) ?_ | refine zw_last rfl (by assumption) (by omega) (by omega) ?_ | refine zw_iadd rfl (by omega) (by omega) ?_ | refine zw_isub rfl (by omega) (by omega) ?_ | refine zw_iinc rfl rfl rfl (by omega) (by omega) ?_)
          refine zw_if_ne rfl (fun h => ?_) (fun h => ?_)
          · have eg : g y = (1, 0) := by rw [hg]; exact if_neg (fun q => h (key.2 q))
            rw [eg] at K ha hbb
            dsimp only at K ha hbb
            repeat (first | refine zw_t rfl rfl ?_ | refine zw_jump rfl rfl ?_ | refine zw_getI rfl rfl (by assumption) ?_ | refine zw_ialn rfl (by assumption) (by omega) ?_ | refine zw_laln rfl (by assumption) (by omega) ?_ | refine zw_iastn rfl (by omega) (by assumption) (by omega) ?_ | refine zw_lastn rfl (by assumption) (by omega) ?_ | refine zw_iald0 rfl (by assumption) (by omega) ?_ | refine zw_lald0 rfl (by assumption) (by omega) ?_ | refine zw_aaln rfl (by assumption) rfl (by omega) ?_ | refine zw_getR rfl (by assumption) (by assumption) ?_ | refine zw_alen rfl (by assumption) rfl ?_ | refine zw_iald rfl (by assumption) (by omega) (by omega) ?_ | refine zw_iast rfl (by omega) (by assumption) (by omega) (by omega) ?_ | refine zw_putI rfl (by assumption) ?_ | refine zw_lald rfl (by assumption) (by omega) (by omega) ?_ | refine zw_last rfl (by assumption) (by omega) (by omega) ?_ | refine zw_iadd rfl (by omega) (by omega) ?_ | refine zw_isub rfl (by omega) (by omega) ?_ | refine zw_iinc rfl rfl rfl (by omega) (by omega) ?_)
            refine zw_goto rfl ?_
            refine ihn (y + 1) (a + 1) b _ _ _ (by omega) (by omega) ?_ ?_ ?_ ?_ (fun q j hq => ?_) (by omega) (by omega) (fun F' q1 q2 q3 => K F' q1 (by rw [q2]; omega) (by rw [q3]; omega))
            · rw [z_u2_nk _ _ _ _ (by omega)]; exact g2
            · rw [z_u2_nk _ _ _ _ (by omega)]; exact g3
            · rw [z_u2_same]; omega
            · rw [z_u2_nk _ _ _ _ (by omega)]; exact g5
            · rw [← gf q j hq]
              unfold z_u2
              rw [if_neg (by omega)]
          · have eg : g y = z_cs lim left y ((back <<< (y - last)) ||| 1) (meas ||| (back <<< (y - last))) := by rw [hg]; exact if_pos (key.1 h)
            rw [eg] at K ha hbb
            repeat (first | refine zw_t rfl rfl ?_ | refine zw_jump rfl rfl ?_ | refine zw_getI rfl rfl (by assumption) ?_ | refine zw_ialn rfl (by assumption) (by omega) ?_ | refine zw_laln rfl (by assumption) (by omega) ?_ | refine zw_iastn rfl (by omega) (by assumption) (by omega) ?_ | refine zw_lastn rfl (by assumption) (by omega) ?_ | refine zw_iald0 rfl (by assumption) (by omega) ?_ | refine zw_lald0 rfl (by assumption) (by omega) ?_ | refine zw_aaln rfl (by assumption) rfl (by omega) ?_ | refine zw_getR rfl (by assumption) (by assumption) ?_ | refine zw_alen rfl (by assumption) rfl ?_ | refine zw_iald rfl (by assumption) (by omega) (by omega) ?_ | refine zw_iast rfl (by omega) (by assumption) (by omega) (by omega) ?_ | refine zw_putI rfl (by assumption) ?_ | refine zw_lald rfl (by assumption) (by omega) (by omega) ?_ | refine zw_last rfl (by assumption) (by omega) (by omega) ?_ | refine zw_iadd rfl (by omega) (by omega) ?_ | refine zw_isub rfl (by omega) (by omega) ?_ | refine zw_iinc rfl rfl rfl (by omega) (by omega) ?_)
            refine zw_callv rfl rfl rfl rfl rfl rfl (by assumption) ?_
            refine ZC.le (show d + left + 2 ≤ _ by omega) ?_
            refine zc_eqv (args' := [.inr (.inr (some 15)), .inl (y : Int), .inl ((m - left : Nat) : Int), .inr (.inl (Int64.ofNat (back <<< (y - last) ||| 1))), .inr (.inl (Int64.ofNat (meas ||| back <<< (y - last))))]) ?_ ?_
            · rw [← z_on_or, ← z_on_or, ← em1, show ((m - left : Nat) : Int) = ((m - (left + 1) : Nat) : Int) + 1 by omega]
              rfl
            refine ih d y _ _ a b F1 _ g2 g3 g4 g5 (by omega) (by omega) (z_or_lt hbs (z_up_lt (n := 1) (by decide) (by omega))) (z_or_lt (z_up_lt hme (by omega)) hbs) (by omega) (by omega) (fun F' q1 q2 q3 => ?_)
            repeat (first | refine zw_t rfl rfl ?_ | refine zw_jump rfl rfl ?_ | refine zw_getI rfl rfl (by assumption) ?_ | refine zw_ialn rfl (by assumption) (by omega) ?_ | refine zw_laln rfl (by assumption) (by omega) ?_ | refine zw_iastn rfl (by omega) (by assumption) (by omega) ?_ | refine zw_lastn rfl (by assumption) (by omega) ?_ | refine zw_iald0 rfl (by assumption) (by omega) ?_ | refine zw_lald0 rfl (by assumption) (by omega) ?_ | refine zw_aaln rfl (by assumption) rfl (by omega) ?_ | refine zw_getR rfl (by assumption) (by assumption) ?_ | refine zw_alen rfl (by assumption) rfl ?_ | refine zw_iald rfl (by assumption) (by omega) (by omega) ?_ | refine zw_iast rfl (by omega) (by assumption) (by omega) (by omega) ?_ | refine zw_putI rfl (by assumption) ?_ | refine zw_lald rfl (by assumption) (by omega) (by omega) ?_ | refine zw_last rfl (by assumption) (by omega) (by omega) ?_ | refine zw_iadd rfl (by omega) (by omega) ?_ | refine zw_isub rfl (by omega) (by omega) ?_ | refine zw_iinc rfl rfl rfl (by omega) (by omega) ?_)
            refine zw_goto rfl ?_
            refine ihn (y + 1) _ _ _ _ F' (by omega) (by omega) (by rw [q1 _ _ (by omega)]; exact g2) (by rw [q1 _ _ (by omega)]; exact g3) q2 q3 (fun q j hq => (q1 q j hq).trans (gf q j hq)) (by omega) (by omega) (fun F2 p1 p2 p3 => K F2 p1 (by rw [p2]; omega) (by rw [p3]; omega))
      repeat (refine zw_ne 55 rfl ?_; first | refine zw_t rfl rfl ?_ | refine zw_jump rfl rfl ?_ | refine zw_getI rfl rfl (by assumption) ?_ | refine zw_ialn rfl (by assumption) (by omega) ?_ | refine zw_laln rfl (by assumption) (by omega) ?_ | refine zw_iastn rfl (by omega) (by assumption) (by omega) ?_ | refine zw_lastn rfl (by assumption) (by omega) ?_ | refine zw_iald0 rfl (by assumption) (by omega) ?_ | refine zw_lald0 rfl (by assumption) (by omega) ?_ | refine zw_aaln rfl (by assumption) rfl (by omega) ?_ | refine zw_getR rfl (by assumption) (by assumption) ?_ | refine zw_alen rfl (by assumption) rfl ?_ | refine zw_iald rfl (by assumption) (by omega) (by omega) ?_ | refine zw_iast rfl (by omega) (by assumption) (by omega) (by omega) ?_ | refine zw_putI rfl (by assumption) ?_ | refine zw_lald rfl (by assumption) (by omega) (by omega) ?_ | refine zw_last rfl (by assumption) (by omega) (by omega) ?_ | refine zw_iadd rfl (by omega) (by omega) ?_ | refine zw_isub rfl (by omega) (by omega) ?_ | refine zw_iinc rfl rfl rfl (by omega) (by omega) ?_)
      exact loop (lim - last) (last + 1) (a + 1) b none none F1 (by omega) (by omega) g2 g3 g4 g5 gf (by omega) hbb (fun F' q1 q2 q3 => K F' q1 (by rw [q2]; omega) q3)
    · rw [if_pos (by omega)] at K ha hbb
      dsimp only at K ha hbb
      exact zw_vret rfl (K F1 gf g4 (by rw [g5]; rfl))
end ZCase
section ZCase2
variable {A : ZA} {d : Nat} {k : ZK} {F I : Nat → Nat → Int} {L : Nat → Nat → Int64} {R : Nat → Nat → Option Nat} {Q : Option ZV → ZH → Prop} {n m : Nat}
theorem c_counted (h : ZB A k F I L R) (hm : 2 ≤ m ∧ m ≤ 6) (hn : 1 ≤ n ∧ n ≤ 20)
    (K : ∀ F' I', ZKp F I L F' I' L → ZB A k F' I' L R → I' 16 (m * 21 + n) = ((z_cs n (m - 1) 0 1 0).1 : Int) → I' 17 (m * 21 + n) = ((z_cs n (m - 1) 0 1 0).2 : Int) → Q (some (.inl ((m * 21 + n : Nat) : Int))) (k, F', I', L, R)) : ZC (d + 10) 4 [.inr (.inr (some 15)), .inl (m : Int), .inl (n : Int)] (k, F, I, L, R) Q := by
  obtain ⟨_, _, ⟨s1, s2, s3, s4, s5⟩, _⟩ := h.2.1
  have ez : z_cas (m * 21 + n) = (((z_cs n (m - 1) 0 1 0).1 : Int), ((z_cs n (m - 1) 0 1 0).2 : Int)) := by
    unfold z_cas
    rw [show (m * 21 + n) / 21 = m by omega, show (m * 21 + n) % 21 = n by omega]
  have bd := z_cs_le hn.2 (m - 1) 0 1 0
  have bd2 : z_cb (m - 1) ≤ z_cb 5 := z_cb_mono (by omega)
  rw [z_cb_5] at bd2
  refine ze_CaseCount_counted ?_
  repeat (first | refine zw_t rfl rfl ?_ | refine zw_jump rfl rfl ?_ | refine zw_getI rfl rfl (by assumption) ?_ | refine zw_ialn rfl (by assumption) (by omega) ?_ | refine zw_laln rfl (by assumption) (by omega) ?_ | refine zw_iastn rfl (by omega) (by assumption) (by omega) ?_ | refine zw_lastn rfl (by assumption) (by omega) ?_ | refine zw_iald0 rfl (by assumption) (by omega) ?_ | refine zw_lald0 rfl (by assumption) (by omega) ?_ | refine zw_aaln rfl (by assumption) rfl (by omega) ?_ | refine zw_getR rfl (by assumption) (by assumption) ?_ | refine zw_alen rfl (by assumption) rfl ?_ | refine zw_iald rfl (by assumption) (by omega) (by omega) ?_ | refine zw_iast rfl (by omega) (by assumption) (by omega) (by omega) ?_ | refine zw_putI rfl (by assumption) ?_ | refine zw_lald rfl (by assumption) (by omega) (by omega) ?_ | refine zw_last rfl (by assumption) (by omega) (by omega) ?_ | refine zw_iadd rfl (by omega) (by omega) ?_ | refine zw_isub rfl (by omega) (by omega) ?_ | refine zw_iinc rfl rfl rfl (by omega) (by omega) ?_)
  refine zw_imul rfl (by omega) (by omega) ?_
  repeat (first | refine zw_t rfl rfl ?_ | refine zw_jump rfl rfl ?_ | refine zw_getI rfl rfl (by assumption) ?_ | refine zw_ialn rfl (by assumption) (by omega) ?_ | refine zw_laln rfl (by assumption) (by omega) ?_ | refine zw_iastn rfl (by omega) (by assumption) (by omega) ?_ | refine zw_lastn rfl (by assumption) (by omega) ?_ | refine zw_iald0 rfl (by assumption) (by omega) ?_ | refine zw_lald0 rfl (by assumption) (by omega) ?_ | refine zw_aaln rfl (by assumption) rfl (by omega) ?_ | refine zw_getR rfl (by assumption) (by assumption) ?_ | refine zw_alen rfl (by assumption) rfl ?_ | refine zw_iald rfl (by assumption) (by omega) (by omega) ?_ | refine zw_iast rfl (by omega) (by assumption) (by omega) (by omega) ?_ | refine zw_putI rfl (by assumption) ?_ | refine zw_lald rfl (by assumption) (by omega) (by omega) ?_ | refine zw_last rfl (by assumption) (by omega) (by omega) ?_ | refine zw_iadd rfl (by omega) (by omega) ?_ | refine zw_isub rfl (by omega) (by omega) ?_ | refine zw_iinc rfl rfl rfl (by omega) (by omega) ?_)
  rw [show (m : Int) * 21 + (n : Int) = ((m * 21 + n : Nat) : Int) by omega]
  repeat (first | refine zw_t rfl rfl ?_ | refine zw_jump rfl rfl ?_ | refine zw_getI rfl rfl (by assumption) ?_ | refine zw_ialn rfl (by assumption) (by omega) ?_ | refine zw_laln rfl (by assumption) (by omega) ?_ | refine zw_iastn rfl (by omega) (by assumption) (by omega) ?_ | refine zw_lastn rfl (by assumption) (by omega) ?_ | refine zw_iald0 rfl (by assumption) (by omega) ?_ | refine zw_lald0 rfl (by assumption) (by omega) ?_ | refine zw_aaln rfl (by assumption) rfl (by omega) ?_ | refine zw_getR rfl (by assumption) (by assumption) ?_ | refine zw_alen rfl (by assumption) rfl ?_ | refine zw_iald rfl (by assumption) (by omega) (by omega) ?_ | refine zw_iast rfl (by omega) (by assumption) (by omega) (by omega) ?_ | refine zw_putI rfl (by assumption) ?_ | refine zw_lald rfl (by assumption) (by omega) (by omega) ?_ | refine zw_last rfl (by assumption) (by omega) (by omega) ?_ | refine zw_iadd rfl (by omega) (by omega) ?_ | refine zw_isub rfl (by omega) (by omega) ?_ | refine zw_iinc rfl rfl rfl (by omega) (by omega) ?_)
  obtain ⟨c1, crest⟩ := h.2.2.2.2.2.1
  refine zw_if_ne rfl (fun h1 => ?_) (fun h1 => ?_)
  · rcases c1 (m * 21 + n) (by omega) with q | q
    · exact absurd q h1
    · rw [ez] at q
      repeat (first | refine zw_t rfl rfl ?_ | refine zw_jump rfl rfl ?_ | refine zw_getI rfl rfl (by assumption) ?_ | refine zw_ialn rfl (by assumption) (by omega) ?_ | refine zw_laln rfl (by assumption) (by omega) ?_ | refine zw_iastn rfl (by omega) (by assumption) (by omega) ?_ | refine zw_lastn rfl (by assumption) (by omega) ?_ | refine zw_iald0 rfl (by assumption) (by omega) ?_ | refine zw_lald0 rfl (by assumption) (by omega) ?_ | refine zw_aaln rfl (by assumption) rfl (by omega) ?_ | refine zw_getR rfl (by assumption) (by assumption) ?_ | refine zw_alen rfl (by assumption) rfl ?_ | refine zw_iald rfl (by assumption) (by omega) (by omega) ?_ | refine zw_iast rfl (by omega) (by assumption) (by omega) (by omega) ?_ | refine zw_putI rfl (by assumption) ?_ | refine zw_lald rfl (by assumption) (by omega) (by omega) ?_ | refine zw_last rfl (by assumption) (by omega) (by omega) ?_ | refine zw_iadd rfl (by omega) (by omega) ?_ | refine zw_isub rfl (by omega) (by omega) ?_ | refine zw_iinc rfl rfl rfl (by omega) (by omega) ?_)
      exact zw_iret rfl (K F I (ZKp.refl _ _ _) h q.1 q.2)
  · repeat (first | refine zw_t rfl rfl ?_ | refine zw_jump rfl rfl ?_ | refine zw_getI rfl rfl (by assumption) ?_ | refine zw_ialn rfl (by assumption) (by omega) ?_ | refine zw_laln rfl (by assumption) (by omega) ?_ | refine zw_iastn rfl (by omega) (by assumption) (by omega) ?_ | refine zw_lastn rfl (by assumption) (by omega) ?_ | refine zw_iald0 rfl (by assumption) (by omega) ?_ | refine zw_lald0 rfl (by assumption) (by omega) ?_ | refine zw_aaln rfl (by assumption) rfl (by omega) ?_ | refine zw_getR rfl (by assumption) (by assumption) ?_ | refine zw_alen rfl (by assumption) rfl ?_ | refine zw_iald rfl (by assumption) (by omega) (by omega) ?_ | refine zw_iast rfl (by omega) (by assumption) (by omega) (by omega) ?_ | refine zw_putI rfl (by assumption) ?_ | refine zw_lald rfl (by assumption) (by omega) (by omega) ?_ | refine zw_last rfl (by assumption) (by omega) (by omega) ?_ | refine zw_iadd rfl (by omega) (by omega) ?_ | refine zw_isub rfl (by omega) (by omega) ?_ | refine zw_iinc rfl rfl rfl (by omega) (by omega) ?_)
    refine zw_callv rfl rfl rfl rfl rfl rfl (by assumption) ?_
    obtain ⟨F1, hF1⟩ : ∃ F1, F1 = z_u2 (z_u2 (z_u2 (z_u2 F 15 2 (m : Int)) 15 3 (n : Int)) 15 4 0) 15 5 0 := ⟨_, rfl⟩
    rw [← hF1]
    refine zc_eqv (args' := [.inr (.inr (some 15)), .inl ((0 : Nat) : Int), .inl ((m - (m - 1) : Nat) : Int), .inr (.inl (Int64.ofNat 1)), .inr (.inl (Int64.ofNat 0))]) ?_ ?_
    · rw [show ((m - (m - 1) : Nat) : Int) = 1 by omega]
      rfl
    refine ZC.le (show d + (m - 1) + 2 ≤ _ by omega) ?_
    refine c_visit (m := m) (lim := n) s1 (by omega) hn.2 (m - 1) d 0 1 0 0 0 F1 _ ?_ ?_ ?_ ?_ (by omega) (by omega) (by decide) (by decide) (by omega) (by omega) (fun F' q1 q2 q3 => ?_)
    · rw [hF1, z_u2_nk _ _ _ _ (by omega), z_u2_nk _ _ _ _ (by omega), z_u2_nk _ _ _ _ (by omega), z_u2_same]
    · rw [hF1, z_u2_nk _ _ _ _ (by omega), z_u2_nk _ _ _ _ (by omega), z_u2_same]
    · rw [hF1, z_u2_nk _ _ _ _ (by omega), z_u2_same]; rfl
    · rw [hF1, z_u2_same]; rfl
    rw [Nat.zero_add] at q2 q3
    have fr : ∀ x, x ≠ 15 → F' x = F x := fun x hx => by
      funext j
      rw [q1 x j (by omega), hF1, z_u2_na _ _ _ _ hx, z_u2_na _ _ _ _ hx, z_u2_na _ _ _ _ hx, z_u2_na _ _ _ _ hx]
    repeat (first | refine zw_t rfl rfl ?_ | refine zw_jump rfl rfl ?_ | refine zw_getI rfl rfl (by assumption) ?_ | refine zw_ialn rfl (by assumption) (by omega) ?_ | refine zw_laln rfl (by assumption) (by omega) ?_ | refine zw_iastn rfl (by omega) (by assumption) (by omega) ?_ | refine zw_lastn rfl (by assumption) (by omega) ?_ | refine zw_iald0 rfl (by assumption) (by omega) ?_ | refine zw_lald0 rfl (by assumption) (by omega) ?_ | refine zw_aaln rfl (by assumption) rfl (by omega) ?_ | refine zw_getR rfl (by assumption) (by assumption) ?_ | refine zw_alen rfl (by assumption) rfl ?_ | refine zw_iald rfl (by assumption) (by omega) (by omega) ?_ | refine zw_iast rfl (by omega) (by assumption) (by omega) (by omega) ?_ | refine zw_putI rfl (by assumption) ?_ | refine zw_lald rfl (by assumption) (by omega) (by omega) ?_ | refine zw_last rfl (by assumption) (by omega) (by omega) ?_ | refine zw_iadd rfl (by omega) (by omega) ?_ | refine zw_isub rfl (by omega) (by omega) ?_ | refine zw_iinc rfl rfl rfl (by omega) (by omega) ?_)
    rw [q2, q3]
    obtain ⟨I1, hI1⟩ : ∃ I1, I1 = z_u2 (z_u2 I 16 (m * 21 + n) ((z_cs n (m - 1) 0 1 0).1 : Int)) 17 (m * 21 + n) ((z_cs n (m - 1) 0 1 0).2 : Int) := ⟨_, rfl⟩
    rw [← hI1]
    have ir : ∀ x, x ≠ 16 → x ≠ 17 → I1 x = I x := fun x p1 p2 => by rw [hI1, z_u2_ad _ _ _ p2, z_u2_ad _ _ _ p1]
    have i16 : I1 16 = z_up (I 16) (m * 21 + n) ((z_cs n (m - 1) 0 1 0).1 : Int) := by rw [hI1, z_u2_ad _ _ _ (by omega)]; funext j; by_cases hj : j = m * 21 + n <;> simp [z_u2, z_up, hj]
    have i17 : I1 17 = z_up (I 17) (m * 21 + n) ((z_cs n (m - 1) 0 1 0).2 : Int) := by rw [hI1]; funext j; by_cases hj : j = m * 21 + n <;> simp [z_u2, z_up, hj]
    refine zw_iret rfl (K F' I1 (fun a h1 h2 => ⟨fr a (by omega), ir a (by omega) (by omega), rfl⟩) ⟨h.1.scr (fun a ha => fr a (by omega)) (fun a h1 h2 => ir a (by omega) (by omega)), h.2.1, h.2.2.1, ?_, ?_, ⟨fun j hj => ?_, ?_⟩, ?_⟩ (by rw [i16, z_up_same]) (by rw [i17, z_up_same]))
    · rw [ir 8 (by omega) (by omega)]; exact h.2.2.2.1
    · obtain ⟨u, p1, p2, p3⟩ := h.2.2.2.2.1
      unfold ZFoI
      rw [fr 9 (by omega), ir (9 + 5) (by omega) (by omega)]
      exact ⟨u, p1, p2, p3⟩
    · rw [i16, i17]
      by_cases hjk : j = m * 21 + n
      · rw [hjk, z_up_same, z_up_same, ez]
        exact Or.inr ⟨rfl, rfl⟩
      · rw [z_up_ne _ _ hjk, z_up_ne _ _ hjk]
        exact c1 j hj
    · rw [ir 21 (by omega) (by omega)]; exact crest
    · rw [ir 1 (by omega) (by omega)]; exact h.2.2.2.2.2.2
theorem b_cases {m n what : Int} (h : ZB A k F I L R) (K : ∀ F' I', ZKp F I L F' I' L → ZB (sp_cases A m n what).2 k F' I' L R → Q (some (.inl (sp_cases A m n what).1)) (k, F', I', L, R)) : ZC (d + 15) 116 [.inr (.inr (some 2)), .inl m, .inl n, .inl what] (k, F, I, L, R) Q := by
  obtain ⟨⟨a1, a2, a3, a4, a5, a6, a7, a8, a9, a10, a11, a12, a13, a14⟩, _, ⟨s1, s2, s3, s4, s5⟩, _⟩ := h.2.1
  unfold sp_cases at K
  have go : ∀ (b : Int), b = (if 2 ≤ m ∧ m ≤ 6 ∧ 1 ≤ n ∧ n ≤ 20 ∧ 0 ≤ what ∧ what ≤ 1 then 1 else 0) → ZW (d + 14) 116 22 [some (.inr (.inr (some 2))), some (.inl m), some (.inl n), some (.inl what), none] [.inl b] (k, F, I, L, R) Q := by
    intro b hb
    by_cases hc : 2 ≤ m ∧ m ≤ 6 ∧ 1 ≤ n ∧ n ≤ 20 ∧ 0 ≤ what ∧ what ≤ 1
    · rw [if_pos hc] at K hb
      subst hb
      obtain ⟨p, rfl⟩ : ∃ p : Nat, m = (p : Int) := ⟨m.toNat, by omega⟩
      obtain ⟨r, rfl⟩ : ∃ r : Nat, n = (r : Int) := ⟨n.toNat, by omega⟩
      rw [Int.toNat_natCast, Int.toNat_natCast] at K
      repeat (first | refine zw_t rfl rfl ?_ | refine zw_jump rfl rfl ?_ | refine zw_getI rfl rfl (by assumption) ?_ | refine zw_ialn rfl (by assumption) (by omega) ?_ | refine zw_laln rfl (by assumption) (by omega) ?_ | refine zw_iastn rfl (by omega) (by assumption) (by omega) ?_ | refine zw_lastn rfl (by assumption) (by omega) ?_ | refine zw_iald0 rfl (by assumption) (by omega) ?_ | refine zw_lald0 rfl (by assumption) (by omega) ?_ | refine zw_aaln rfl (by assumption) rfl (by omega) ?_ | refine zw_getR rfl (by assumption) (by assumption) ?_ | refine zw_alen rfl (by assumption) rfl ?_ | refine zw_iald rfl (by assumption) (by omega) (by omega) ?_ | refine zw_iast rfl (by omega) (by assumption) (by omega) (by omega) ?_ | refine zw_putI rfl (by assumption) ?_ | refine zw_lald rfl (by assumption) (by omega) (by omega) ?_ | refine zw_last rfl (by assumption) (by omega) (by omega) ?_ | refine zw_iadd rfl (by omega) (by omega) ?_ | refine zw_isub rfl (by omega) (by omega) ?_ | refine zw_iinc rfl rfl rfl (by omega) (by omega) ?_)
      refine zw_if_eq_f rfl (by decide) ?_
      repeat (first | refine zw_t rfl rfl ?_ | refine zw_jump rfl rfl ?_ | refine zw_getI rfl rfl (by assumption) ?_ | refine zw_ialn rfl (by assumption) (by omega) ?_ | refine zw_laln rfl (by assumption) (by omega) ?_ | refine zw_iastn rfl (by omega) (by assumption) (by omega) ?_ | refine zw_lastn rfl (by assumption) (by omega) ?_ | refine zw_iald0 rfl (by assumption) (by omega) ?_ | refine zw_lald0 rfl (by assumption) (by omega) ?_ | refine zw_aaln rfl (by assumption) rfl (by omega) ?_ | refine zw_getR rfl (by assumption) (by assumption) ?_ | refine zw_alen rfl (by assumption) rfl ?_ | refine zw_iald rfl (by assumption) (by omega) (by omega) ?_ | refine zw_iast rfl (by omega) (by assumption) (by omega) (by omega) ?_ | refine zw_putI rfl (by assumption) ?_ | refine zw_lald rfl (by assumption) (by omega) (by omega) ?_ | refine zw_last rfl (by assumption) (by omega) (by omega) ?_ | refine zw_iadd rfl (by omega) (by omega) ?_ | refine zw_isub rfl (by omega) (by omega) ?_ | refine zw_iinc rfl rfl rfl (by omega) (by omega) ?_)
      refine zw_callv rfl rfl rfl rfl rfl rfl (by assumption) ?_
      refine c_passes a1 ?_
      rw [if_pos rfl]
      refine zw_if_ne_t rfl (by decide) ?_
      repeat (first | refine zw_t rfl rfl ?_ | refine zw_jump rfl rfl ?_ | refine zw_getI rfl rfl (by assumption) ?_ | refine zw_ialn rfl (by assumption) (by omega) ?_ | refine zw_laln rfl (by assumption) (by omega) ?_ | refine zw_iastn rfl (by omega) (by assumption) (by omega) ?_ | refine zw_lastn rfl (by assumption) (by omega) ?_ | refine zw_iald0 rfl (by assumption) (by omega) ?_ | refine zw_lald0 rfl (by assumption) (by omega) ?_ | refine zw_aaln rfl (by assumption) rfl (by omega) ?_ | refine zw_getR rfl (by assumption) (by assumption) ?_ | refine zw_alen rfl (by assumption) rfl ?_ | refine zw_iald rfl (by assumption) (by omega) (by omega) ?_ | refine zw_iast rfl (by omega) (by assumption) (by omega) (by omega) ?_ | refine zw_putI rfl (by assumption) ?_ | refine zw_lald rfl (by assumption) (by omega) (by omega) ?_ | refine zw_last rfl (by assumption) (by omega) (by omega) ?_ | refine zw_iadd rfl (by omega) (by omega) ?_ | refine zw_isub rfl (by omega) (by omega) ?_ | refine zw_iinc rfl rfl rfl (by omega) (by omega) ?_)
      refine zw_if_ne rfl (fun h1 => ?_) (fun h1 => ?_)
      · rw [if_neg h1] at K
        repeat (first | refine zw_t rfl rfl ?_ | refine zw_jump rfl rfl ?_ | refine zw_getI rfl rfl (by assumption) ?_ | refine zw_ialn rfl (by assumption) (by omega) ?_ | refine zw_laln rfl (by assumption) (by omega) ?_ | refine zw_iastn rfl (by omega) (by assumption) (by omega) ?_ | refine zw_lastn rfl (by assumption) (by omega) ?_ | refine zw_iald0 rfl (by assumption) (by omega) ?_ | refine zw_lald0 rfl (by assumption) (by omega) ?_ | refine zw_aaln rfl (by assumption) rfl (by omega) ?_ | refine zw_getR rfl (by assumption) (by assumption) ?_ | refine zw_alen rfl (by assumption) rfl ?_ | refine zw_iald rfl (by assumption) (by omega) (by omega) ?_ | refine zw_iast rfl (by omega) (by assumption) (by omega) (by omega) ?_ | refine zw_putI rfl (by assumption) ?_ | refine zw_lald rfl (by assumption) (by omega) (by omega) ?_ | refine zw_last rfl (by assumption) (by omega) (by omega) ?_ | refine zw_iadd rfl (by omega) (by omega) ?_ | refine zw_isub rfl (by omega) (by omega) ?_ | refine zw_iinc rfl rfl rfl (by omega) (by omega) ?_)
        refine zw_callv rfl rfl rfl rfl rfl rfl (by assumption) ?_
        refine ze_CaseCount_whole ?_
        repeat (first | refine zw_t rfl rfl ?_ | refine zw_jump rfl rfl ?_ | refine zw_getI rfl rfl (by assumption) ?_ | refine zw_ialn rfl (by assumption) (by omega) ?_ | refine zw_laln rfl (by assumption) (by omega) ?_ | refine zw_iastn rfl (by omega) (by assumption) (by omega) ?_ | refine zw_lastn rfl (by assumption) (by omega) ?_ | refine zw_iald0 rfl (by assumption) (by omega) ?_ | refine zw_lald0 rfl (by assumption) (by omega) ?_ | refine zw_aaln rfl (by assumption) rfl (by omega) ?_ | refine zw_getR rfl (by assumption) (by assumption) ?_ | refine zw_alen rfl (by assumption) rfl ?_ | refine zw_iald rfl (by assumption) (by omega) (by omega) ?_ | refine zw_iast rfl (by omega) (by assumption) (by omega) (by omega) ?_ | refine zw_putI rfl (by assumption) ?_ | refine zw_lald rfl (by assumption) (by omega) (by omega) ?_ | refine zw_last rfl (by assumption) (by omega) (by omega) ?_ | refine zw_iadd rfl (by omega) (by omega) ?_ | refine zw_isub rfl (by omega) (by omega) ?_ | refine zw_iinc rfl rfl rfl (by omega) (by omega) ?_)
        refine zw_calls rfl rfl rfl rfl rfl rfl ?_
        refine c_kn_CaseCount ?_
        rw [if_pos (by omega)]
        refine zw_if_eq_f rfl (by decide) ?_
        repeat (first | refine zw_t rfl rfl ?_ | refine zw_jump rfl rfl ?_ | refine zw_getI rfl rfl (by assumption) ?_ | refine zw_ialn rfl (by assumption) (by omega) ?_ | refine zw_laln rfl (by assumption) (by omega) ?_ | refine zw_iastn rfl (by omega) (by assumption) (by omega) ?_ | refine zw_lastn rfl (by assumption) (by omega) ?_ | refine zw_iald0 rfl (by assumption) (by omega) ?_ | refine zw_lald0 rfl (by assumption) (by omega) ?_ | refine zw_aaln rfl (by assumption) rfl (by omega) ?_ | refine zw_getR rfl (by assumption) (by assumption) ?_ | refine zw_alen rfl (by assumption) rfl ?_ | refine zw_iald rfl (by assumption) (by omega) (by omega) ?_ | refine zw_iast rfl (by omega) (by assumption) (by omega) (by omega) ?_ | refine zw_putI rfl (by assumption) ?_ | refine zw_lald rfl (by assumption) (by omega) (by omega) ?_ | refine zw_last rfl (by assumption) (by omega) (by omega) ?_ | refine zw_iadd rfl (by omega) (by omega) ?_ | refine zw_isub rfl (by omega) (by omega) ?_ | refine zw_iinc rfl rfl rfl (by omega) (by omega) ?_)
        refine zw_callv rfl rfl rfl rfl rfl rfl (by assumption) ?_
        refine ZC.le (show d + 10 ≤ _ by omega) ?_
        refine c_counted (z_refused h 0).2 (by omega) (by omega) (fun F' I' kp hB q1 q2 => ?_)
        repeat (first | refine zw_t rfl rfl ?_ | refine zw_jump rfl rfl ?_ | refine zw_getI rfl rfl (by assumption) ?_ | refine zw_ialn rfl (by assumption) (by omega) ?_ | refine zw_laln rfl (by assumption) (by omega) ?_ | refine zw_iastn rfl (by omega) (by assumption) (by omega) ?_ | refine zw_lastn rfl (by assumption) (by omega) ?_ | refine zw_iald0 rfl (by assumption) (by omega) ?_ | refine zw_lald0 rfl (by assumption) (by omega) ?_ | refine zw_aaln rfl (by assumption) rfl (by omega) ?_ | refine zw_getR rfl (by assumption) (by assumption) ?_ | refine zw_alen rfl (by assumption) rfl ?_ | refine zw_iald rfl (by assumption) (by omega) (by omega) ?_ | refine zw_iast rfl (by omega) (by assumption) (by omega) (by omega) ?_ | refine zw_putI rfl (by assumption) ?_ | refine zw_lald rfl (by assumption) (by omega) (by omega) ?_ | refine zw_last rfl (by assumption) (by omega) (by omega) ?_ | refine zw_iadd rfl (by omega) (by omega) ?_ | refine zw_isub rfl (by omega) (by omega) ?_ | refine zw_iinc rfl rfl rfl (by omega) (by omega) ?_)
        rw [q2]
        refine zw_iret rfl ?_
        exact zw_iret rfl (K _ _ (ZKp.trans (z_refused h 0).1 kp) hB)
      · rw [if_pos h1] at K
        repeat (first | refine zw_t rfl rfl ?_ | refine zw_jump rfl rfl ?_ | refine zw_getI rfl rfl (by assumption) ?_ | refine zw_ialn rfl (by assumption) (by omega) ?_ | refine zw_laln rfl (by assumption) (by omega) ?_ | refine zw_iastn rfl (by omega) (by assumption) (by omega) ?_ | refine zw_lastn rfl (by assumption) (by omega) ?_ | refine zw_iald0 rfl (by assumption) (by omega) ?_ | refine zw_lald0 rfl (by assumption) (by omega) ?_ | refine zw_aaln rfl (by assumption) rfl (by omega) ?_ | refine zw_getR rfl (by assumption) (by assumption) ?_ | refine zw_alen rfl (by assumption) rfl ?_ | refine zw_iald rfl (by assumption) (by omega) (by omega) ?_ | refine zw_iast rfl (by omega) (by assumption) (by omega) (by omega) ?_ | refine zw_putI rfl (by assumption) ?_ | refine zw_lald rfl (by assumption) (by omega) (by omega) ?_ | refine zw_last rfl (by assumption) (by omega) (by omega) ?_ | refine zw_iadd rfl (by omega) (by omega) ?_ | refine zw_isub rfl (by omega) (by omega) ?_ | refine zw_iinc rfl rfl rfl (by omega) (by omega) ?_)
        refine zw_callv rfl rfl rfl rfl rfl rfl (by assumption) ?_
        refine ze_CaseCount_inAll ?_
        repeat (first | refine zw_t rfl rfl ?_ | refine zw_jump rfl rfl ?_ | refine zw_getI rfl rfl (by assumption) ?_ | refine zw_ialn rfl (by assumption) (by omega) ?_ | refine zw_laln rfl (by assumption) (by omega) ?_ | refine zw_iastn rfl (by omega) (by assumption) (by omega) ?_ | refine zw_lastn rfl (by assumption) (by omega) ?_ | refine zw_iald0 rfl (by assumption) (by omega) ?_ | refine zw_lald0 rfl (by assumption) (by omega) ?_ | refine zw_aaln rfl (by assumption) rfl (by omega) ?_ | refine zw_getR rfl (by assumption) (by assumption) ?_ | refine zw_alen rfl (by assumption) rfl ?_ | refine zw_iald rfl (by assumption) (by omega) (by omega) ?_ | refine zw_iast rfl (by omega) (by assumption) (by omega) (by omega) ?_ | refine zw_putI rfl (by assumption) ?_ | refine zw_lald rfl (by assumption) (by omega) (by omega) ?_ | refine zw_last rfl (by assumption) (by omega) (by omega) ?_ | refine zw_iadd rfl (by omega) (by omega) ?_ | refine zw_isub rfl (by omega) (by omega) ?_ | refine zw_iinc rfl rfl rfl (by omega) (by omega) ?_)
        refine zw_calls rfl rfl rfl rfl rfl rfl ?_
        refine c_kn_CaseCount ?_
        rw [if_pos (by omega)]
        refine zw_if_eq_f rfl (by decide) ?_
        repeat (first | refine zw_t rfl rfl ?_ | refine zw_jump rfl rfl ?_ | refine zw_getI rfl rfl (by assumption) ?_ | refine zw_ialn rfl (by assumption) (by omega) ?_ | refine zw_laln rfl (by assumption) (by omega) ?_ | refine zw_iastn rfl (by omega) (by assumption) (by omega) ?_ | refine zw_lastn rfl (by assumption) (by omega) ?_ | refine zw_iald0 rfl (by assumption) (by omega) ?_ | refine zw_lald0 rfl (by assumption) (by omega) ?_ | refine zw_aaln rfl (by assumption) rfl (by omega) ?_ | refine zw_getR rfl (by assumption) (by assumption) ?_ | refine zw_alen rfl (by assumption) rfl ?_ | refine zw_iald rfl (by assumption) (by omega) (by omega) ?_ | refine zw_iast rfl (by omega) (by assumption) (by omega) (by omega) ?_ | refine zw_putI rfl (by assumption) ?_ | refine zw_lald rfl (by assumption) (by omega) (by omega) ?_ | refine zw_last rfl (by assumption) (by omega) (by omega) ?_ | refine zw_iadd rfl (by omega) (by omega) ?_ | refine zw_isub rfl (by omega) (by omega) ?_ | refine zw_iinc rfl rfl rfl (by omega) (by omega) ?_)
        refine zw_callv rfl rfl rfl rfl rfl rfl (by assumption) ?_
        refine ZC.le (show d + 10 ≤ _ by omega) ?_
        refine c_counted (z_refused h 0).2 (by omega) (by omega) (fun F' I' kp hB q1 q2 => ?_)
        repeat (first | refine zw_t rfl rfl ?_ | refine zw_jump rfl rfl ?_ | refine zw_getI rfl rfl (by assumption) ?_ | refine zw_ialn rfl (by assumption) (by omega) ?_ | refine zw_laln rfl (by assumption) (by omega) ?_ | refine zw_iastn rfl (by omega) (by assumption) (by omega) ?_ | refine zw_lastn rfl (by assumption) (by omega) ?_ | refine zw_iald0 rfl (by assumption) (by omega) ?_ | refine zw_lald0 rfl (by assumption) (by omega) ?_ | refine zw_aaln rfl (by assumption) rfl (by omega) ?_ | refine zw_getR rfl (by assumption) (by assumption) ?_ | refine zw_alen rfl (by assumption) rfl ?_ | refine zw_iald rfl (by assumption) (by omega) (by omega) ?_ | refine zw_iast rfl (by omega) (by assumption) (by omega) (by omega) ?_ | refine zw_putI rfl (by assumption) ?_ | refine zw_lald rfl (by assumption) (by omega) (by omega) ?_ | refine zw_last rfl (by assumption) (by omega) (by omega) ?_ | refine zw_iadd rfl (by omega) (by omega) ?_ | refine zw_isub rfl (by omega) (by omega) ?_ | refine zw_iinc rfl rfl rfl (by omega) (by omega) ?_)
        rw [q1]
        refine zw_iret rfl ?_
        repeat (first | refine zw_t rfl rfl ?_ | refine zw_jump rfl rfl ?_ | refine zw_getI rfl rfl (by assumption) ?_ | refine zw_ialn rfl (by assumption) (by omega) ?_ | refine zw_laln rfl (by assumption) (by omega) ?_ | refine zw_iastn rfl (by omega) (by assumption) (by omega) ?_ | refine zw_lastn rfl (by assumption) (by omega) ?_ | refine zw_iald0 rfl (by assumption) (by omega) ?_ | refine zw_lald0 rfl (by assumption) (by omega) ?_ | refine zw_aaln rfl (by assumption) rfl (by omega) ?_ | refine zw_getR rfl (by assumption) (by assumption) ?_ | refine zw_alen rfl (by assumption) rfl ?_ | refine zw_iald rfl (by assumption) (by omega) (by omega) ?_ | refine zw_iast rfl (by omega) (by assumption) (by omega) (by omega) ?_ | refine zw_putI rfl (by assumption) ?_ | refine zw_lald rfl (by assumption) (by omega) (by omega) ?_ | refine zw_last rfl (by assumption) (by omega) (by omega) ?_ | refine zw_iadd rfl (by omega) (by omega) ?_ | refine zw_isub rfl (by omega) (by omega) ?_ | refine zw_iinc rfl rfl rfl (by omega) (by omega) ?_)
        exact zw_iret rfl (K _ _ (ZKp.trans (z_refused h 0).1 kp) hB)
    · rw [if_neg hc] at K hb
      subst hb
      repeat (first | refine zw_t rfl rfl ?_ | refine zw_jump rfl rfl ?_ | refine zw_getI rfl rfl (by assumption) ?_ | refine zw_ialn rfl (by assumption) (by omega) ?_ | refine zw_laln rfl (by assumption) (by omega) ?_ | refine zw_iastn rfl (by omega) (by assumption) (by omega) ?_ | refine zw_lastn rfl (by assumption) (by omega) ?_ | refine zw_iald0 rfl (by assumption) (by omega) ?_ | refine zw_lald0 rfl (by assumption) (by omega) ?_ | refine zw_aaln rfl (by assumption) rfl (by omega) ?_ | refine zw_getR rfl (by assumption) (by assumption) ?_ | refine zw_alen rfl (by assumption) rfl ?_ | refine zw_iald rfl (by assumption) (by omega) (by omega) ?_ | refine zw_iast rfl (by omega) (by assumption) (by omega) (by omega) ?_ | refine zw_putI rfl (by assumption) ?_ | refine zw_lald rfl (by assumption) (by omega) (by omega) ?_ | refine zw_last rfl (by assumption) (by omega) (by omega) ?_ | refine zw_iadd rfl (by omega) (by omega) ?_ | refine zw_isub rfl (by omega) (by omega) ?_ | refine zw_iinc rfl rfl rfl (by omega) (by omega) ?_)
      refine zw_if_eq_t rfl rfl ?_
      repeat (first | refine zw_t rfl rfl ?_ | refine zw_jump rfl rfl ?_ | refine zw_getI rfl rfl (by assumption) ?_ | refine zw_ialn rfl (by assumption) (by omega) ?_ | refine zw_laln rfl (by assumption) (by omega) ?_ | refine zw_iastn rfl (by omega) (by assumption) (by omega) ?_ | refine zw_lastn rfl (by assumption) (by omega) ?_ | refine zw_iald0 rfl (by assumption) (by omega) ?_ | refine zw_lald0 rfl (by assumption) (by omega) ?_ | refine zw_aaln rfl (by assumption) rfl (by omega) ?_ | refine zw_getR rfl (by assumption) (by assumption) ?_ | refine zw_alen rfl (by assumption) rfl ?_ | refine zw_iald rfl (by assumption) (by omega) (by omega) ?_ | refine zw_iast rfl (by omega) (by assumption) (by omega) (by omega) ?_ | refine zw_putI rfl (by assumption) ?_ | refine zw_lald rfl (by assumption) (by omega) (by omega) ?_ | refine zw_last rfl (by assumption) (by omega) (by omega) ?_ | refine zw_iadd rfl (by omega) (by omega) ?_ | refine zw_isub rfl (by omega) (by omega) ?_ | refine zw_iinc rfl rfl rfl (by omega) (by omega) ?_)
      refine zw_callv rfl rfl rfl rfl rfl rfl (by assumption) ?_
      refine c_passes a1 ?_
      rw [if_neg (by decide)]
      refine zw_if_ne_f rfl rfl ?_
      repeat (first | refine zw_t rfl rfl ?_ | refine zw_jump rfl rfl ?_ | refine zw_getI rfl rfl (by assumption) ?_ | refine zw_ialn rfl (by assumption) (by omega) ?_ | refine zw_laln rfl (by assumption) (by omega) ?_ | refine zw_iastn rfl (by omega) (by assumption) (by omega) ?_ | refine zw_lastn rfl (by assumption) (by omega) ?_ | refine zw_iald0 rfl (by assumption) (by omega) ?_ | refine zw_lald0 rfl (by assumption) (by omega) ?_ | refine zw_aaln rfl (by assumption) rfl (by omega) ?_ | refine zw_getR rfl (by assumption) (by assumption) ?_ | refine zw_alen rfl (by assumption) rfl ?_ | refine zw_iald rfl (by assumption) (by omega) (by omega) ?_ | refine zw_iast rfl (by omega) (by assumption) (by omega) (by omega) ?_ | refine zw_putI rfl (by assumption) ?_ | refine zw_lald rfl (by assumption) (by omega) (by omega) ?_ | refine zw_last rfl (by assumption) (by omega) (by omega) ?_ | refine zw_iadd rfl (by omega) (by omega) ?_ | refine zw_isub rfl (by omega) (by omega) ?_ | refine zw_iinc rfl rfl rfl (by omega) (by omega) ?_)
      exact zw_iret rfl (K _ _ (z_refused h 5).1 (z_refused h 5).2)
  refine ze_B_cases ?_
  repeat (first | refine zw_t rfl rfl ?_ | refine zw_jump rfl rfl ?_ | refine zw_getI rfl rfl (by assumption) ?_ | refine zw_ialn rfl (by assumption) (by omega) ?_ | refine zw_laln rfl (by assumption) (by omega) ?_ | refine zw_iastn rfl (by omega) (by assumption) (by omega) ?_ | refine zw_lastn rfl (by assumption) (by omega) ?_ | refine zw_iald0 rfl (by assumption) (by omega) ?_ | refine zw_lald0 rfl (by assumption) (by omega) ?_ | refine zw_aaln rfl (by assumption) rfl (by omega) ?_ | refine zw_getR rfl (by assumption) (by assumption) ?_ | refine zw_alen rfl (by assumption) rfl ?_ | refine zw_iald rfl (by assumption) (by omega) (by omega) ?_ | refine zw_iast rfl (by omega) (by assumption) (by omega) (by omega) ?_ | refine zw_putI rfl (by assumption) ?_ | refine zw_lald rfl (by assumption) (by omega) (by omega) ?_ | refine zw_last rfl (by assumption) (by omega) (by omega) ?_ | refine zw_iadd rfl (by omega) (by omega) ?_ | refine zw_isub rfl (by omega) (by omega) ?_ | refine zw_iinc rfl rfl rfl (by omega) (by omega) ?_)
  refine zw_calls rfl rfl rfl rfl rfl rfl ?_
  refine c_kn_CaseCount ?_
  by_cases hk : 2 ≤ m ∧ m ≤ 6 ∧ 1 ≤ n ∧ n ≤ 20
  · rw [if_pos hk]
    refine zw_if_eq_f rfl (by decide) ?_
    repeat (first | refine zw_t rfl rfl ?_ | refine zw_jump rfl rfl ?_ | refine zw_getI rfl rfl (by assumption) ?_ | refine zw_ialn rfl (by assumption) (by omega) ?_ | refine zw_laln rfl (by assumption) (by omega) ?_ | refine zw_iastn rfl (by omega) (by assumption) (by omega) ?_ | refine zw_lastn rfl (by assumption) (by omega) ?_ | refine zw_iald0 rfl (by assumption) (by omega) ?_ | refine zw_lald0 rfl (by assumption) (by omega) ?_ | refine zw_aaln rfl (by assumption) rfl (by omega) ?_ | refine zw_getR rfl (by assumption) (by assumption) ?_ | refine zw_alen rfl (by assumption) rfl ?_ | refine zw_iald rfl (by assumption) (by omega) (by omega) ?_ | refine zw_iast rfl (by omega) (by assumption) (by omega) (by omega) ?_ | refine zw_putI rfl (by assumption) ?_ | refine zw_lald rfl (by assumption) (by omega) (by omega) ?_ | refine zw_last rfl (by assumption) (by omega) (by omega) ?_ | refine zw_iadd rfl (by omega) (by omega) ?_ | refine zw_isub rfl (by omega) (by omega) ?_ | refine zw_iinc rfl rfl rfl (by omega) (by omega) ?_)
    refine zw_if_lt rfl (fun h1 => ?_) (fun h1 => ?_)
    · repeat (refine zw_ne 22 rfl ?_; first | refine zw_t rfl rfl ?_ | refine zw_jump rfl rfl ?_ | refine zw_getI rfl rfl (by assumption) ?_ | refine zw_ialn rfl (by assumption) (by omega) ?_ | refine zw_laln rfl (by assumption) (by omega) ?_ | refine zw_iastn rfl (by omega) (by assumption) (by omega) ?_ | refine zw_lastn rfl (by assumption) (by omega) ?_ | refine zw_iald0 rfl (by assumption) (by omega) ?_ | refine zw_lald0 rfl (by assumption) (by omega) ?_ | refine zw_aaln rfl (by assumption) rfl (by omega) ?_ | refine zw_getR rfl (by assumption) (by assumption) ?_ | refine zw_alen rfl (by assumption) rfl ?_ | refine zw_iald rfl (by assumption) (by omega) (by omega) ?_ | refine zw_iast rfl (by omega) (by assumption) (by omega) (by omega) ?_ | refine zw_putI rfl (by assumption) ?_ | refine zw_lald rfl (by assumption) (by omega) (by omega) ?_ | refine zw_last rfl (by assumption) (by omega) (by omega) ?_ | refine zw_iadd rfl (by omega) (by omega) ?_ | refine zw_isub rfl (by omega) (by omega) ?_ | refine zw_iinc rfl rfl rfl (by omega) (by omega) ?_)
      exact go _ (by rw [if_neg (by omega)])
    · repeat (first | refine zw_t rfl rfl ?_ | refine zw_jump rfl rfl ?_ | refine zw_getI rfl rfl (by assumption) ?_ | refine zw_ialn rfl (by assumption) (by omega) ?_ | refine zw_laln rfl (by assumption) (by omega) ?_ | refine zw_iastn rfl (by omega) (by assumption) (by omega) ?_ | refine zw_lastn rfl (by assumption) (by omega) ?_ | refine zw_iald0 rfl (by assumption) (by omega) ?_ | refine zw_lald0 rfl (by assumption) (by omega) ?_ | refine zw_aaln rfl (by assumption) rfl (by omega) ?_ | refine zw_getR rfl (by assumption) (by assumption) ?_ | refine zw_alen rfl (by assumption) rfl ?_ | refine zw_iald rfl (by assumption) (by omega) (by omega) ?_ | refine zw_iast rfl (by omega) (by assumption) (by omega) (by omega) ?_ | refine zw_putI rfl (by assumption) ?_ | refine zw_lald rfl (by assumption) (by omega) (by omega) ?_ | refine zw_last rfl (by assumption) (by omega) (by omega) ?_ | refine zw_iadd rfl (by omega) (by omega) ?_ | refine zw_isub rfl (by omega) (by omega) ?_ | refine zw_iinc rfl rfl rfl (by omega) (by omega) ?_)
      refine zw_icmp_gt rfl (fun h2 => ?_) (fun h2 => ?_)
      · repeat (refine zw_ne 22 rfl ?_; first | refine zw_t rfl rfl ?_ | refine zw_jump rfl rfl ?_ | refine zw_getI rfl rfl (by assumption) ?_ | refine zw_ialn rfl (by assumption) (by omega) ?_ | refine zw_laln rfl (by assumption) (by omega) ?_ | refine zw_iastn rfl (by omega) (by assumption) (by omega) ?_ | refine zw_lastn rfl (by assumption) (by omega) ?_ | refine zw_iald0 rfl (by assumption) (by omega) ?_ | refine zw_lald0 rfl (by assumption) (by omega) ?_ | refine zw_aaln rfl (by assumption) rfl (by omega) ?_ | refine zw_getR rfl (by assumption) (by assumption) ?_ | refine zw_alen rfl (by assumption) rfl ?_ | refine zw_iald rfl (by assumption) (by omega) (by omega) ?_ | refine zw_iast rfl (by omega) (by assumption) (by omega) (by omega) ?_ | refine zw_putI rfl (by assumption) ?_ | refine zw_lald rfl (by assumption) (by omega) (by omega) ?_ | refine zw_last rfl (by assumption) (by omega) (by omega) ?_ | refine zw_iadd rfl (by omega) (by omega) ?_ | refine zw_isub rfl (by omega) (by omega) ?_ | refine zw_iinc rfl rfl rfl (by omega) (by omega) ?_)
        exact go _ (by rw [if_neg (by omega)])
      · repeat (refine zw_ne 22 rfl ?_; first | refine zw_t rfl rfl ?_ | refine zw_jump rfl rfl ?_ | refine zw_getI rfl rfl (by assumption) ?_ | refine zw_ialn rfl (by assumption) (by omega) ?_ | refine zw_laln rfl (by assumption) (by omega) ?_ | refine zw_iastn rfl (by omega) (by assumption) (by omega) ?_ | refine zw_lastn rfl (by assumption) (by omega) ?_ | refine zw_iald0 rfl (by assumption) (by omega) ?_ | refine zw_lald0 rfl (by assumption) (by omega) ?_ | refine zw_aaln rfl (by assumption) rfl (by omega) ?_ | refine zw_getR rfl (by assumption) (by assumption) ?_ | refine zw_alen rfl (by assumption) rfl ?_ | refine zw_iald rfl (by assumption) (by omega) (by omega) ?_ | refine zw_iast rfl (by omega) (by assumption) (by omega) (by omega) ?_ | refine zw_putI rfl (by assumption) ?_ | refine zw_lald rfl (by assumption) (by omega) (by omega) ?_ | refine zw_last rfl (by assumption) (by omega) (by omega) ?_ | refine zw_iadd rfl (by omega) (by omega) ?_ | refine zw_isub rfl (by omega) (by omega) ?_ | refine zw_iinc rfl rfl rfl (by omega) (by omega) ?_)
        exact go _ (by rw [if_pos (by omega)])
  · rw [if_neg hk]
    refine zw_if_eq_t rfl rfl ?_
    repeat (refine zw_ne 22 rfl ?_; first | refine zw_t rfl rfl ?_ | refine zw_jump rfl rfl ?_ | refine zw_getI rfl rfl (by assumption) ?_ | refine zw_ialn rfl (by assumption) (by omega) ?_ | refine zw_laln rfl (by assumption) (by omega) ?_ | refine zw_iastn rfl (by omega) (by assumption) (by omega) ?_ | refine zw_lastn rfl (by assumption) (by omega) ?_ | refine zw_iald0 rfl (by assumption) (by omega) ?_ | refine zw_lald0 rfl (by assumption) (by omega) ?_ | refine zw_aaln rfl (by assumption) rfl (by omega) ?_ | refine zw_getR rfl (by assumption) (by assumption) ?_ | refine zw_alen rfl (by assumption) rfl ?_ | refine zw_iald rfl (by assumption) (by omega) (by omega) ?_ | refine zw_iast rfl (by omega) (by assumption) (by omega) (by omega) ?_ | refine zw_putI rfl (by assumption) ?_ | refine zw_lald rfl (by assumption) (by omega) (by omega) ?_ | refine zw_last rfl (by assumption) (by omega) (by omega) ?_ | refine zw_iadd rfl (by omega) (by omega) ?_ | refine zw_isub rfl (by omega) (by omega) ?_ | refine zw_iinc rfl rfl rfl (by omega) (by omega) ?_)
    exact go _ (by rw [if_neg (by omega)])
end ZCase2
