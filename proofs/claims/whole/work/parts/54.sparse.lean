/-! SPARSE RULERS: the class's search -/
def ZFd (F : Nat → Nat → Int) (L : Nat → Nat → Int64) (l : List Nat) : Prop := F 66 1 = (l.length : Int) ∧ ∀ j, j < l.length → L 67 j = Int64.ofNat (l.getD j 0)
/-- all but what was found is as it was -/
def ZFr (F F' : Nat → Nat → Int) (L L' : Nat → Nat → Int64) : Prop := (∀ a j, ¬ (a = 66 ∧ j = 1) → F' a j = F a j) ∧ (∀ a, a ≠ 67 → L' a = L a)
theorem ZFr.refl (F : Nat → Nat → Int) (L : Nat → Nat → Int64) : ZFr F F L L := ⟨fun _ _ _ => rfl, fun _ _ => rfl⟩
theorem ZFr.trans {F F' F2 : Nat → Nat → Int} {L L' L2 : Nat → Nat → Int64} (h : ZFr F F' L L') (h' : ZFr F' F2 L' L2) : ZFr F F2 L L2 := ⟨fun a j q => (h'.1 a j q).trans (h.1 a j q), fun a q => (h'.2 a q).trans (h.2 a q)⟩
theorem ZFd.add {F : Nat → Nat → Int} {L : Nat → Nat → Int64} {l : List Nat} (h : ZFd F L l) (m : Nat) : ZFd (z_u2 F 66 1 ((l.length : Int) + 1)) (z_u2 L 67 l.length (Int64.ofNat m)) (l ++ [m]) := by
  refine ⟨by rw [z_u2_same, List.length_append]; rfl, fun j hj => ?_⟩
  rw [List.length_append, List.length_singleton] at hj
  by_cases hjl : j = l.length
  · rw [hjl, z_u2_same, List.getD_eq_getElem?_getD, List.getElem?_append_right (Nat.le_refl _), Nat.sub_self]
    rfl
  · rw [z_u2_nk _ _ _ _ hjl, List.getD_eq_getElem?_getD, List.getElem?_append_left (by omega), ← List.getD_eq_getElem?_getD]
    exact h.2 j (by omega)
theorem ZFr.note (F : Nat → Nat → Int) (L : Nat → Nat → Int64) (x : Int) (n : Nat) (w : Int64) : ZFr F (z_u2 F 66 1 x) L (z_u2 L 67 n w) := ⟨fun a j q => by
  unfold z_u2
  rw [if_neg q], fun a q => z_u2_ad _ _ _ q⟩
theorem z_sp_succ (lim left mask last back meas : Nat) : z_sp lim (left + 1) mask last back meas = z_fl (fun y => if (back <<< (y - last)) &&& meas = 0 then z_sp lim left (mask ||| 1 <<< y) y ((back <<< (y - last)) ||| 1) (meas ||| (back <<< (y - last))) else []) (lim - (left + 1) * left / 2 - last) (last + 1) := by
  show z_fl _ _ _ = _
  refine z_fl_cong _ _ (fun y h1 h2 => ?_)
  simp only [z_fc_eq]
  by_cases h : (back <<< (y - last)) &&& meas = 0
  · rw [if_pos h, z_beq0.2 h, cond_true]
  · rw [if_neg h, show Nat.beq ((back <<< (y - last)) &&& meas) 0 = false from Bool.eq_false_iff.2 (fun q => h (z_beq0.1 q)), cond_false]
theorem z_mul2 (l : Nat) : ((l + 1 : Nat) : Int) * (((l + 1 : Nat) : Int) - 1) = (((l + 1) * l : Nat) : Int) := by
  rw [show ((l + 1 : Nat) : Int) - 1 = (l : Int) by omega, ← Int.natCast_mul]
theorem z_mul_le {a b c d : Nat} (h1 : a ≤ c) (h2 : b ≤ d) : a * b ≤ c * d := Nat.mul_le_mul h1 h2
theorem z_more {back y last : Nat} (h1 : last ≤ y) (h2 : y < 64) : Int64.ofNat back <<< ((Int32.ofInt ((y : Int) - (last : Int))).toInt64 &&& 63) = Int64.ofNat (back <<< (y - last)) := by
  rw [show (y : Int) - (last : Int) = ((y - last : Nat) : Int) by omega, z_on_shl _ _ (by omega)]
theorem z_more0 {back meas y last : Nat} (h1 : last ≤ y) (h2 : y < 64) (h3 : meas < 2 ^ 64) : z_lcmpv (Int64.ofNat back <<< ((Int32.ofInt ((y : Int) - (last : Int))).toInt64 &&& 63) &&& Int64.ofNat meas) (Int64.ofNat 0) = 0 ↔ (back <<< (y - last)) &&& meas = 0 := by
  rw [z_more h1 h2, z_on_and, z_lcmp_zero, z_on_zero (z_and_lt h3)]
theorem zc_eqv {d m : Nat} {args args' : List ZV} {h : ZH} {Q : Option ZV → ZH → Prop} (e : args = args') (K : ZC d m args' h Q) : ZC d m args h Q := by subst e; exact K
section ZSpar
variable {k : ZK} {I : Nat → Nat → Int} {R : Nat → Nat → Option Nat} {lim : Nat}
theorem c_spx (T68 : k.1 68 = (1, 9)) (G68 : k.2.1 68 0 = some 66) (T66 : k.1 66 = (1, 3)) (G66 : k.2.1 66 0 = some 67) (T67 : k.1 67 = (3, 512)) (hlim : lim ≤ 60) :
    ∀ (left d mask last back meas : Nat) (F : Nat → Nat → Int) (L : Nat → Nat → Int64) (fl : List Nat) (Q : Option ZV → ZH → Prop), F 68 2 = (lim : Int) → left ≤ 6 → last ≤ lim → mask < 2 ^ (last + 1) → back < 2 ^ (last + 1) → meas < 2 ^ (last + 1) → ZFd F L fl → fl.length + (z_sp lim left mask last back meas).length ≤ 512 →
      (∀ F' L', ZFr F F' L L' → ZFd F' L' (fl ++ z_sp lim left mask last back meas) → Q none (k, F', I, L', R)) → ZC (d + left + 2) 79 [.inr (.inr (some 68)), .inr (.inl (Int64.ofNat mask)), .inl (last : Int), .inl (left : Int), .inr (.inl (Int64.ofNat back)), .inr (.inl (Int64.ofNat meas))] (k, F, I, L, R) Q := by
  intro left
  induction left with
  | zero =>
    intro d mask last back meas F L fl Q hl hleft hlast hm hb hme hfd hcap K
    refine ze_SparseSearch_extend ?_
    repeat (first | refine zw_t rfl rfl ?_ | refine zw_jump rfl rfl ?_ | refine zw_getI rfl rfl (by assumption) ?_ | refine zw_ialn rfl (by assumption) (by omega) ?_ | refine zw_laln rfl (by assumption) (by omega) ?_ | refine zw_iastn rfl (by omega) (by assumption) (by omega) ?_ | refine zw_lastn rfl (by assumption) (by omega) ?_ | refine zw_iald0 rfl (by assumption) (by omega) ?_ | refine zw_lald0 rfl (by assumption) (by omega) ?_ | refine zw_aaln rfl (by assumption) rfl (by omega) ?_ | refine zw_getR rfl (by assumption) (by assumption) ?_ | refine zw_alen rfl (by assumption) rfl ?_ | refine zw_iald rfl (by assumption) (by omega) (by omega) ?_ | refine zw_iast rfl (by omega) (by assumption) (by omega) (by omega) ?_ | refine zw_putI rfl (by assumption) ?_ | refine zw_lald rfl (by assumption) (by omega) (by omega) ?_ | refine zw_last rfl (by assumption) (by omega) (by omega) ?_ | refine zw_iadd rfl (by omega) (by omega) ?_ | refine zw_isub rfl (by omega) (by omega) ?_ | refine zw_iinc rfl rfl rfl (by omega) (by omega) ?_)
    refine zw_if_gt_f rfl (by omega) ?_
    repeat (first | refine zw_t rfl rfl ?_ | refine zw_jump rfl rfl ?_ | refine zw_getI rfl rfl (by assumption) ?_ | refine zw_ialn rfl (by assumption) (by omega) ?_ | refine zw_laln rfl (by assumption) (by omega) ?_ | refine zw_iastn rfl (by omega) (by assumption) (by omega) ?_ | refine zw_lastn rfl (by assumption) (by omega) ?_ | refine zw_iald0 rfl (by assumption) (by omega) ?_ | refine zw_lald0 rfl (by assumption) (by omega) ?_ | refine zw_aaln rfl (by assumption) rfl (by omega) ?_ | refine zw_getR rfl (by assumption) (by assumption) ?_ | refine zw_alen rfl (by assumption) rfl ?_ | refine zw_iald rfl (by assumption) (by omega) (by omega) ?_ | refine zw_iast rfl (by omega) (by assumption) (by omega) (by omega) ?_ | refine zw_putI rfl (by assumption) ?_ | refine zw_lald rfl (by assumption) (by omega) (by omega) ?_ | refine zw_last rfl (by assumption) (by omega) (by omega) ?_ | refine zw_iadd rfl (by omega) (by omega) ?_ | refine zw_isub rfl (by omega) (by omega) ?_ | refine zw_iinc rfl rfl rfl (by omega) (by omega) ?_)
    refine zw_calls rfl rfl rfl rfl rfl rfl ?_
    have own := z_own_on hm (show last < 64 by omega)
    refine c_isOwnForm (by omega) (fun h => ?_) (fun h => ?_)
    · have e : z_sp lim 0 mask last back meas = [mask] := by show (bif z_own mask last then [mask] else []) = _; rw [own.1 h, cond_true]
      rw [e] at K hcap
      refine zw_if_eq_f rfl (by decide) ?_
      repeat (first | refine zw_t rfl rfl ?_ | refine zw_jump rfl rfl ?_ | refine zw_getI rfl rfl (by assumption) ?_ | refine zw_ialn rfl (by assumption) (by omega) ?_ | refine zw_laln rfl (by assumption) (by omega) ?_ | refine zw_iastn rfl (by omega) (by assumption) (by omega) ?_ | refine zw_lastn rfl (by assumption) (by omega) ?_ | refine zw_iald0 rfl (by assumption) (by omega) ?_ | refine zw_lald0 rfl (by assumption) (by omega) ?_ | refine zw_aaln rfl (by assumption) rfl (by omega) ?_ | refine zw_getR rfl (by assumption) (by assumption) ?_ | refine zw_alen rfl (by assumption) rfl ?_ | refine zw_iald rfl (by assumption) (by omega) (by omega) ?_ | refine zw_iast rfl (by omega) (by assumption) (by omega) (by omega) ?_ | refine zw_putI rfl (by assumption) ?_ | refine zw_lald rfl (by assumption) (by omega) (by omega) ?_ | refine zw_last rfl (by assumption) (by omega) (by omega) ?_ | refine zw_iadd rfl (by omega) (by omega) ?_ | refine zw_isub rfl (by omega) (by omega) ?_ | refine zw_iinc rfl rfl rfl (by omega) (by omega) ?_)
      refine zw_callv rfl rfl rfl rfl rfl rfl (by assumption) ?_
      refine c_fnote T66 G66 T67 hfd.1 (by simp at hcap; omega) ?_
      repeat (first | refine zw_t rfl rfl ?_ | refine zw_jump rfl rfl ?_ | refine zw_getI rfl rfl (by assumption) ?_ | refine zw_ialn rfl (by assumption) (by omega) ?_ | refine zw_laln rfl (by assumption) (by omega) ?_ | refine zw_iastn rfl (by omega) (by assumption) (by omega) ?_ | refine zw_lastn rfl (by assumption) (by omega) ?_ | refine zw_iald0 rfl (by assumption) (by omega) ?_ | refine zw_lald0 rfl (by assumption) (by omega) ?_ | refine zw_aaln rfl (by assumption) rfl (by omega) ?_ | refine zw_getR rfl (by assumption) (by assumption) ?_ | refine zw_alen rfl (by assumption) rfl ?_ | refine zw_iald rfl (by assumption) (by omega) (by omega) ?_ | refine zw_iast rfl (by omega) (by assumption) (by omega) (by omega) ?_ | refine zw_putI rfl (by assumption) ?_ | refine zw_lald rfl (by assumption) (by omega) (by omega) ?_ | refine zw_last rfl (by assumption) (by omega) (by omega) ?_ | refine zw_iadd rfl (by omega) (by omega) ?_ | refine zw_isub rfl (by omega) (by omega) ?_ | refine zw_iinc rfl rfl rfl (by omega) (by omega) ?_)
      exact zw_vret rfl (K _ _ (ZFr.note _ _ _ _ _) (hfd.add mask))
    · have e : z_sp lim 0 mask last back meas = [] := by show (bif z_own mask last then [mask] else []) = _; rw [show z_own mask last = false from Bool.eq_false_iff.2 (fun q => h (own.2 q)), cond_false]
      rw [e, List.append_nil] at K
      refine zw_if_eq_t rfl rfl ?_
      exact zw_vret rfl (K _ _ (ZFr.refl _ _) hfd)
  | succ left ih =>
    intro d mask last back meas F L fl Q hl hleft hlast hm hb hme hfd hcap K
    refine ze_SparseSearch_extend ?_
    obtain ⟨t, ht⟩ : ∃ t, t = (left + 1) * left := ⟨_, rfl⟩
    have ht2 : t ≤ 42 := by rw [ht]; exact z_mul_le (c := 7) (d := 6) (by omega) (by omega)
    have em := z_mul2 left
    rw [← ht] at em
    rw [z_sp_succ, ← ht] at K hcap
    repeat (first | refine zw_t rfl rfl ?_ | refine zw_jump rfl rfl ?_ | refine zw_getI rfl rfl (by assumption) ?_ | refine zw_ialn rfl (by assumption) (by omega) ?_ | refine zw_laln rfl (by assumption) (by omega) ?_ | refine zw_iastn rfl (by omega) (by assumption) (by omega) ?_ | refine zw_lastn rfl (by assumption) (by omega) ?_ | refine zw_iald0 rfl (by assumption) (by omega) ?_ | refine zw_lald0 rfl (by assumption) (by omega) ?_ | refine zw_aaln rfl (by assumption) rfl (by omega) ?_ | refine zw_getR rfl (by assumption) (by assumption) ?_ | refine zw_alen rfl (by assumption) rfl ?_ | refine zw_iald rfl (by assumption) (by omega) (by omega) ?_ | refine zw_iast rfl (by omega) (by assumption) (by omega) (by omega) ?_ | refine zw_putI rfl (by assumption) ?_ | refine zw_lald rfl (by assumption) (by omega) (by omega) ?_ | refine zw_last rfl (by assumption) (by omega) (by omega) ?_ | refine zw_iadd rfl (by omega) (by omega) ?_ | refine zw_isub rfl (by omega) (by omega) ?_ | refine zw_iinc rfl rfl rfl (by omega) (by omega) ?_)
    refine zw_if_gt_t rfl (by omega) ?_
    repeat (first | refine zw_t rfl rfl ?_ | refine zw_jump rfl rfl ?_ | refine zw_getI rfl rfl (by assumption) ?_ | refine zw_ialn rfl (by assumption) (by omega) ?_ | refine zw_laln rfl (by assumption) (by omega) ?_ | refine zw_iastn rfl (by omega) (by assumption) (by omega) ?_ | refine zw_lastn rfl (by assumption) (by omega) ?_ | refine zw_iald0 rfl (by assumption) (by omega) ?_ | refine zw_lald0 rfl (by assumption) (by omega) ?_ | refine zw_aaln rfl (by assumption) rfl (by omega) ?_ | refine zw_getR rfl (by assumption) (by assumption) ?_ | refine zw_alen rfl (by assumption) rfl ?_ | refine zw_iald rfl (by assumption) (by omega) (by omega) ?_ | refine zw_iast rfl (by omega) (by assumption) (by omega) (by omega) ?_ | refine zw_putI rfl (by assumption) ?_ | refine zw_lald rfl (by assumption) (by omega) (by omega) ?_ | refine zw_last rfl (by assumption) (by omega) (by omega) ?_ | refine zw_iadd rfl (by omega) (by omega) ?_ | refine zw_isub rfl (by omega) (by omega) ?_ | refine zw_iinc rfl rfl rfl (by omega) (by omega) ?_)
    refine zw_imul rfl (by rw [em]; omega) (by rw [em]; omega) ?_
    repeat (first | refine zw_t rfl rfl ?_ | refine zw_jump rfl rfl ?_ | refine zw_getI rfl rfl (by assumption) ?_ | refine zw_ialn rfl (by assumption) (by omega) ?_ | refine zw_laln rfl (by assumption) (by omega) ?_ | refine zw_iastn rfl (by omega) (by assumption) (by omega) ?_ | refine zw_lastn rfl (by assumption) (by omega) ?_ | refine zw_iald0 rfl (by assumption) (by omega) ?_ | refine zw_lald0 rfl (by assumption) (by omega) ?_ | refine zw_aaln rfl (by assumption) rfl (by omega) ?_ | refine zw_getR rfl (by assumption) (by assumption) ?_ | refine zw_alen rfl (by assumption) rfl ?_ | refine zw_iald rfl (by assumption) (by omega) (by omega) ?_ | refine zw_iast rfl (by omega) (by assumption) (by omega) (by omega) ?_ | refine zw_putI rfl (by assumption) ?_ | refine zw_lald rfl (by assumption) (by omega) (by omega) ?_ | refine zw_last rfl (by assumption) (by omega) (by omega) ?_ | refine zw_iadd rfl (by omega) (by omega) ?_ | refine zw_isub rfl (by omega) (by omega) ?_ | refine zw_iinc rfl rfl rfl (by omega) (by omega) ?_)
    refine zw_idiv rfl (by rw [em]; omega) (by omega) ?_
    rw [em, hl]
    repeat (refine zw_ne 43 rfl ?_; first | refine zw_t rfl rfl ?_ | refine zw_jump rfl rfl ?_ | refine zw_getI rfl rfl (by assumption) ?_ | refine zw_ialn rfl (by assumption) (by omega) ?_ | refine zw_laln rfl (by assumption) (by omega) ?_ | refine zw_iastn rfl (by omega) (by assumption) (by omega) ?_ | refine zw_lastn rfl (by assumption) (by omega) ?_ | refine zw_iald0 rfl (by assumption) (by omega) ?_ | refine zw_lald0 rfl (by assumption) (by omega) ?_ | refine zw_aaln rfl (by assumption) rfl (by omega) ?_ | refine zw_getR rfl (by assumption) (by assumption) ?_ | refine zw_alen rfl (by assumption) rfl ?_ | refine zw_iald rfl (by assumption) (by omega) (by omega) ?_ | refine zw_iast rfl (by omega) (by assumption) (by omega) (by omega) ?_ | refine zw_putI rfl (by assumption) ?_ | refine zw_lald rfl (by assumption) (by omega) (by omega) ?_ | refine zw_last rfl (by assumption) (by omega) (by omega) ?_ | refine zw_iadd rfl (by omega) (by omega) ?_ | refine zw_isub rfl (by omega) (by omega) ?_ | refine zw_iinc rfl rfl rfl (by omega) (by omega) ?_)
    have loop : ∀ (n y : Nat) (x11 x12 : Option ZV) (F : Nat → Nat → Int) (L : Nat → Nat → Int64) (fl : List Nat), last < y → (n : Int) + y = (lim : Int) - t / 2 + 1 ∨ (n = 0 ∧ (lim : Int) - t / 2 < y) → F 68 2 = (lim : Int) → ZFd F L fl → fl.length + (z_fl (fun y => if (back <<< (y - last)) &&& meas = 0 then z_sp lim left (mask ||| 1 <<< y) y ((back <<< (y - last)) ||| 1) (meas ||| (back <<< (y - last))) else []) n y).length ≤ 512 →
        (∀ F' L', ZFr F F' L L' → ZFd F' L' (fl ++ z_fl (fun y => if (back <<< (y - last)) &&& meas = 0 then z_sp lim left (mask ||| 1 <<< y) y ((back <<< (y - last)) ||| 1) (meas ||| (back <<< (y - last))) else []) n y) → Q none (k, F', I, L', R)) →
        ZW (d + (left + 1) + 1) 79 43 [some (.inr (.inr (some 68))), some (.inr (.inl (Int64.ofNat mask))), none, some (.inl (last : Int)), some (.inl ((left + 1 : Nat) : Int)), some (.inr (.inl (Int64.ofNat back))), none, some (.inr (.inl (Int64.ofNat meas))), none, some (.inl ((lim : Int) - t / 2)), some (.inl (y : Int)), x11, x12] [] (k, F, I, L, R) Q := by
      intro n
      induction n with
      | zero =>
        intro y x11 x12 F L fl hy hn hl hfd hcap K
        repeat (first | refine zw_t rfl rfl ?_ | refine zw_jump rfl rfl ?_ | refine zw_getI rfl rfl (by assumption) ?_ | refine zw_ialn rfl (by assumption) (by omega) ?_ | refine zw_laln rfl (by assumption) (by omega) ?_ | refine zw_iastn rfl (by omega) (by assumption) (by omega) ?_ | refine zw_lastn rfl (by assumption) (by omega) ?_ | refine zw_iald0 rfl (by assumption) (by omega) ?_ | refine zw_lald0 rfl (by assumption) (by omega) ?_ | refine zw_aaln rfl (by assumption) rfl (by omega) ?_ | refine zw_getR rfl (by assumption) (by assumption) ?_ | refine zw_alen rfl (by assumption) rfl ?_ | refine zw_iald rfl (by assumption) (by omega) (by omega) ?_ | refine zw_iast rfl (by omega) (by assumption) (by omega) (by omega) ?_ | refine zw_putI rfl (by assumption) ?_ | refine zw_lald rfl (by assumption) (by omega) (by omega) ?_ | refine zw_last rfl (by assumption) (by omega) (by omega) ?_ | refine zw_iadd rfl (by omega) (by omega) ?_ | refine zw_isub rfl (by omega) (by omega) ?_ | refine zw_iinc rfl rfl rfl (by omega) (by omega) ?_)
        refine zw_icmp_gt_t rfl (by omega) ?_
        refine zw_vret rfl (K _ _ (ZFr.refl _ _) ?_)
        rw [show z_fl _ 0 y = [] from rfl, List.append_nil]
        exact hfd
      | succ n ihn =>
        intro y x11 x12 F L fl hy hn hl hfd hcap K
        rw [z_fl_succ] at K hcap
        rw [List.length_append] at hcap
        have hyl : y ≤ lim := by omega
        repeat (first | refine zw_t rfl rfl ?_ | refine zw_jump rfl rfl ?_ | refine zw_getI rfl rfl (by assumption) ?_ | refine zw_ialn rfl (by assumption) (by omega) ?_ | refine zw_laln rfl (by assumption) (by omega) ?_ | refine zw_iastn rfl (by omega) (by assumption) (by omega) ?_ | refine zw_lastn rfl (by assumption) (by omega) ?_ | refine zw_iald0 rfl (by assumption) (by omega) ?_ | refine zw_lald0 rfl (by assumption) (by omega) ?_ | refine zw_aaln rfl (by assumption) rfl (by omega) ?_ | refine zw_getR rfl (by assumption) (by assumption) ?_ | refine zw_alen rfl (by assumption) rfl ?_ | refine zw_iald rfl (by assumption) (by omega) (by omega) ?_ | refine zw_iast rfl (by omega) (by assumption) (by omega) (by omega) ?_ | refine zw_putI rfl (by assumption) ?_ | refine zw_lald rfl (by assumption) (by omega) (by omega) ?_ | refine zw_last rfl (by assumption) (by omega) (by omega) ?_ | refine zw_iadd rfl (by omega) (by omega) ?_ | refine zw_isub rfl (by omega) (by omega) ?_ | refine zw_iinc rfl rfl rfl (by omega) (by omega) ?_)
        refine zw_icmp_gt_f rfl (by omega) ?_
        repeat (first | refine zw_t rfl rfl ?_ | refine zw_jump rfl rfl ?_ | refine zw_getI rfl rfl (by assumption) ?_ | refine zw_ialn rfl (by assumption) (by omega) ?_ | refine zw_laln rfl (by assumption) (by omega) ?_ | refine zw_iastn rfl (by omega) (by assumption) (by omega) ?_ | refine zw_lastn rfl (by assumption) (by omega) ?_ | refine zw_iald0 rfl (by assumption) (by omega) ?_ | refine zw_lald0 rfl (by assumption) (by omega) ?_ | refine zw_aaln rfl (by assumption) rfl (by omega) ?_ | refine zw_getR rfl (by assumption) (by assumption) ?_ | refine zw_alen rfl (by assumption) rfl ?_ | refine zw_iald rfl (by assumption) (by omega) (by omega) ?_ | refine zw_iast rfl (by omega) (by assumption) (by omega) (by omega) ?_ | refine zw_putI rfl (by assumption) ?_ | refine zw_lald rfl (by assumption) (by omega) (by omega) ?_ | refine zw_last rfl (by assumption) (by omega) (by omega) ?_ | refine zw_iadd rfl (by omega) (by omega) ?_ | refine zw_isub rfl (by omega) (by omega) ?_ | refine zw_iinc rfl rfl rfl (by omega) (by omega) ?_)
        have hbs : back <<< (y - last) < 2 ^ (y + 1) := z_shl_lt hb (by omega)
        have em1 := z_more (back := back) (show last ≤ y by omega) (show y < 64 by omega)
        have key := z_more0 (back := back) (show last ≤ y by omega) (show y < 64 by omega) (z_up_lt hme (show last + 1 ≤ 64 by omega))
        refine zw_if_ne rfl (fun h => ?_) (fun h => ?_)
        · rw [if_neg (fun q => h (key.2 q))] at K hcap
          rw [List.nil_append] at K
          repeat (first | refine zw_t rfl rfl ?_ | refine zw_jump rfl rfl ?_ | refine zw_getI rfl rfl (by assumption) ?_ | refine zw_ialn rfl (by assumption) (by omega) ?_ | refine zw_laln rfl (by assumption) (by omega) ?_ | refine zw_iastn rfl (by omega) (by assumption) (by omega) ?_ | refine zw_lastn rfl (by assumption) (by omega) ?_ | refine zw_iald0 rfl (by assumption) (by omega) ?_ | refine zw_lald0 rfl (by assumption) (by omega) ?_ | refine zw_aaln rfl (by assumption) rfl (by omega) ?_ | refine zw_getR rfl (by assumption) (by assumption) ?_ | refine zw_alen rfl (by assumption) rfl ?_ | refine zw_iald rfl (by assumption) (by omega) (by omega) ?_ | refine zw_iast rfl (by omega) (by assumption) (by omega) (by omega) ?_ | refine zw_putI rfl (by assumption) ?_ | refine zw_lald rfl (by assumption) (by omega) (by omega) ?_ | refine zw_last rfl (by assumption) (by omega) (by omega) ?_ | refine zw_iadd rfl (by omega) (by omega) ?_ | refine zw_isub rfl (by omega) (by omega) ?_ | refine zw_iinc rfl rfl rfl (by omega) (by omega) ?_)
          refine zw_goto rfl ?_
          exact ihn (y + 1) _ _ F L fl (by omega) (by omega) hl hfd (by simpa using hcap) K
        · rw [if_pos (key.1 h)] at K hcap
          repeat (first | refine zw_t rfl rfl ?_ | refine zw_jump rfl rfl ?_ | refine zw_getI rfl rfl (by assumption) ?_ | refine zw_ialn rfl (by assumption) (by omega) ?_ | refine zw_laln rfl (by assumption) (by omega) ?_ | refine zw_iastn rfl (by omega) (by assumption) (by omega) ?_ | refine zw_lastn rfl (by assumption) (by omega) ?_ | refine zw_iald0 rfl (by assumption) (by omega) ?_ | refine zw_lald0 rfl (by assumption) (by omega) ?_ | refine zw_aaln rfl (by assumption) rfl (by omega) ?_ | refine zw_getR rfl (by assumption) (by assumption) ?_ | refine zw_alen rfl (by assumption) rfl ?_ | refine zw_iald rfl (by assumption) (by omega) (by omega) ?_ | refine zw_iast rfl (by omega) (by assumption) (by omega) (by omega) ?_ | refine zw_putI rfl (by assumption) ?_ | refine zw_lald rfl (by assumption) (by omega) (by omega) ?_ | refine zw_last rfl (by assumption) (by omega) (by omega) ?_ | refine zw_iadd rfl (by omega) (by omega) ?_ | refine zw_isub rfl (by omega) (by omega) ?_ | refine zw_iinc rfl rfl rfl (by omega) (by omega) ?_)
          refine zw_callv rfl rfl rfl rfl rfl rfl (by assumption) ?_
          refine ZC.le (show d + left + 2 ≤ _ by omega) ?_
          refine zc_eqv (args' := [.inr (.inr (some 68)), .inr (.inl (Int64.ofNat (mask ||| 1 <<< y))), .inl (y : Int), .inl (left : Int), .inr (.inl (Int64.ofNat (back <<< (y - last) ||| 1))), .inr (.inl (Int64.ofNat (meas ||| back <<< (y - last))))]) ?_ ?_
          · rw [← z_on_or, ← z_on_or, ← z_on_or, ← em1, ← z_on_shl 1 y (by omega), show (left : Int) = ((left + 1 : Nat) : Int) - 1 by omega]
            rfl
          refine ih d _ y _ _ F L fl _ hl (by omega) hyl (z_or_lt (z_up_lt hm (by omega)) (z_one_lt (by omega))) (z_or_lt hbs (z_up_lt (n := 1) (by decide) (by omega))) (z_or_lt (z_up_lt hme (by omega)) hbs) hfd (by omega) (fun F' L' hr hfd' => ?_)
          repeat (first | refine zw_t rfl rfl ?_ | refine zw_jump rfl rfl ?_ | refine zw_getI rfl rfl (by assumption) ?_ | refine zw_ialn rfl (by assumption) (by omega) ?_ | refine zw_laln rfl (by assumption) (by omega) ?_ | refine zw_iastn rfl (by omega) (by assumption) (by omega) ?_ | refine zw_lastn rfl (by assumption) (by omega) ?_ | refine zw_iald0 rfl (by assumption) (by omega) ?_ | refine zw_lald0 rfl (by assumption) (by omega) ?_ | refine zw_aaln rfl (by assumption) rfl (by omega) ?_ | refine zw_getR rfl (by assumption) (by assumption) ?_ | refine zw_alen rfl (by assumption) rfl ?_ | refine zw_iald rfl (by assumption) (by omega) (by omega) ?_ | refine zw_iast rfl (by omega) (by assumption) (by omega) (by omega) ?_ | refine zw_putI rfl (by assumption) ?_ | refine zw_lald rfl (by assumption) (by omega) (by omega) ?_ | refine zw_last rfl (by assumption) (by omega) (by omega) ?_ | refine zw_iadd rfl (by omega) (by omega) ?_ | refine zw_isub rfl (by omega) (by omega) ?_ | refine zw_iinc rfl rfl rfl (by omega) (by omega) ?_)
          refine zw_goto rfl ?_
          refine ihn (y + 1) _ _ F' L' _ (by omega) (by omega) (by rw [hr.1 68 2 (by omega)]; exact hl) hfd' (by rw [List.length_append]; omega) (fun F2 L2 hr2 hfd2 => K F2 L2 (hr.trans hr2) ?_)
          rw [List.append_assoc] at hfd2
          exact hfd2
    refine loop (lim - t / 2 - last) (last + 1) none none F L fl (by omega) ?_ hl hfd hcap K
    have : (((t / 2 : Nat) : Nat) : Int) = (t : Int) / 2 := by omega
    omega
end ZSpar
