/-! SPARSE RULERS: the shortest ones; what a search found comes to a shelf -/
theorem z_sp_facts {m : Nat} (hm : 1 ≤ m ∧ m ≤ 7) : (∀ n, m * (m - 1) / 2 ≤ n → n < z_sbl m → z_spb m n = []) ∧ z_spb m (z_sbl m) ≠ [] ∧ (z_spb m (z_sbl m)).length ≤ 512 ∧ (∀ w ∈ z_spb m (z_sbl m), w.testBit (z_sbl m) = true) ∧ m * (m - 1) / 2 ≤ z_sbl m ∧ z_sbl m ≤ m * (m - 1) / 2 + 4 ∧ z_sbl m ≤ 25 := by
  have e := z_al_iff 7 1 z_sp_ev m (by omega) (by omega)
  simp only [Bool.and_eq_true, List.all_eq_true] at e
  obtain ⟨⟨⟨e1, e2⟩, e3⟩, e4⟩ := e
  have b : m * (m - 1) / 2 ≤ z_sbl m ∧ z_sbl m ≤ m * (m - 1) / 2 + 4 ∧ z_sbl m ≤ 25 := by
    have : m = 1 ∨ m = 2 ∨ m = 3 ∨ m = 4 ∨ m = 5 ∨ m = 6 ∨ m = 7 := by omega
    rcases this with rfl | rfl | rfl | rfl | rfl | rfl | rfl <;> decide
  refine ⟨fun n h1 h2 => ?_, fun q => ?_, Nat.le_of_ble_eq_true e3, e4, b⟩
  · have q := z_al_iff _ _ e1 n h1 (by omega)
    cases hz : z_spb m n with
    | nil => rfl
    | cons x t => rw [hz] at q; cases q
  · rw [q] at e2; cases e2
theorem z_sp_gd {lim : Nat} : ∀ (left mask last back meas c r : Nat), last ≤ lim → ZGd (last + 1) c mask → r ∈ z_sp lim left mask last back meas → ZGd (lim + 1) (c + left) r
  | 0, mask, last, back, meas, c, r, hl, hg, hr => by
    have hr : r ∈ (bif z_own mask last then [mask] else []) := hr
    cases ho : z_own mask last with
    | false => rw [ho] at hr; cases hr
    | true =>
      rw [ho, cond_true, List.mem_singleton] at hr
      rw [hr]
      exact hg.up (by omega)
  | left + 1, mask, last, back, meas, c, r, hl, hg, hr => by
    rw [z_sp_succ] at hr
    obtain ⟨y, h1, h2, h3⟩ := z_fl_mem _ _ hr
    split at h3
    · have a := (hg.up (show last + 1 ≤ y + 1 by omega)).add (z_tb_far (last + 1) hg.1 h1) (by omega)
      have := z_sp_gd left _ y _ _ (c + 1) r (by omega) a h3
      rw [show c + (left + 1) = c + 1 + left by omega]
      exact this
    · cases h3
theorem z_spb_gd {m n r : Nat} (hm : 1 ≤ m) (hr : r ∈ z_spb m n) : ZGd (n + 1) m r := by
  have := z_sp_gd (m - 1) 1 0 1 0 1 r (by omega) ⟨by decide, rfl, _, ZMR.one⟩ hr
  rw [show 1 + (m - 1) = m by omega] at this
  exact this
theorem z_lst_top {b : Nat → Bool} {n : Nat} (h : ∀ j, n < j → j < 64 → b j = false) : ∀ (c i : Nat) (a : Int), i + c ≤ 64 → (n < i → z_lst b a i c = a) ∧ (i ≤ n → n < i + c → b n = true → z_lst b a i c = (n : Int))
  | 0, i, a, _ => ⟨fun _ => rfl, fun h1 h2 => by omega⟩
  | c + 1, i, a, hc => by
    unfold z_lst
    refine ⟨fun h1 => ?_, fun h1 h2 h3 => ?_⟩
    · rw [if_neg (by rw [h i h1 (by omega)]; decide)]
      exact (z_lst_top h c (i + 1) a (by omega)).1 (by omega)
    · by_cases hi : i = n
      · rw [if_pos (by rw [hi]; exact h3), (z_lst_top h c (i + 1) _ (by omega)).1 (by omega), hi]
      · exact (z_lst_top h c (i + 1) _ (by omega)).2 (by omega) (by omega) h3
theorem z_lst_mask {w n : Nat} (hw : w < 2 ^ (n + 1)) (hn : n < 64) (h : w.testBit n = true) : z_lst (z_lb (Int64.ofNat w)) 0 1 63 = (n : Int) := by
  have e : ∀ j, j < 64 → z_lb (Int64.ofNat w) j = w.testBit j := fun j hj => by rw [z_lb_bit _ _ hj, zbit_ofNat _ _ hj]
  have t := z_lst_top (b := z_lb (Int64.ofNat w)) (n := n) (fun j h1 h2 => by rw [e j h2]; exact z_tb_far (n + 1) hw (by omega)) 63 1 0 (by omega)
  by_cases h0 : n = 0
  · rw [t.1 (by omega), h0]; rfl
  · exact t.2 (by omega) (by omega) (by rw [e n hn]; exact h)
section ZSpar3
variable {A : ZA} {d : Nat} {k : ZK} {F I : Nat → Nat → Int} {L : Nat → Nat → Int64} {R : Nat → Nat → Option Nat} {Q : Option ZV → ZH → Prop}
/-- a row that was found is kept -/
theorem ZB.keep {t j q : Nat} (h : ZB A k F I L R) (ht : t = 69 ∨ t = 71 ∨ t = 75 ∨ t = 77) (h69 : t = 69 → ZLst k L q (z_spa j)) (h71 : t = 71 → ZLst k L q (z_lea j)) (h75 : t = 75 → ZLst k L q (z_rng j)) (h77 : t = 77 → ZLst k L q (z_gng j)) : ZB A k F I L (z_u2 R t j (some q)) := by
  obtain ⟨a1, b1, b2, b3, b4, ⟨c1, c2, c3, c4, c5, c6⟩, b6⟩ := h
  refine ⟨a1, b1, ?_, b3, b4, ⟨c1, c2, fun i r hi e => ?_, fun i r hi e => ?_, fun i r hi e => ?_, fun i r hi e => ?_⟩, b6⟩
  · unfold ZBr
    rw [z_u2_ad _ _ _ (show 3 ≠ t by omega), z_u2_ad _ _ _ (show 4 ≠ t by omega)]
    exact b2
  · unfold z_u2 at e
    split at e
    · rename_i hq; cases e; rw [hq.2]; exact h69 hq.1.symm
    · exact c3 i r hi e
  · unfold z_u2 at e
    split at e
    · rename_i hq; cases e; rw [hq.2]; exact h71 hq.1.symm
    · exact c4 i r hi e
  · unfold z_u2 at e
    split at e
    · rename_i hq; cases e; rw [hq.2]; exact h75 hq.1.symm
    · exact c5 i r hi e
  · unfold z_u2 at e
    split at e
    · rename_i hq; cases e; rw [hq.2]; exact h77 hq.1.symm
    · exact c6 i r hi e
theorem c_bestOf {m : Nat} (h : ZB A k F I L R) (hx : 95 ≤ k.2.2.1) (hm : 1 ≤ m ∧ m ≤ 7)
    (K : ∀ q k' F' I' L' R', ZG k k' 5 2560 → ZKp F I L F' I' L' → ZB A k' F' I' L' R' → ZLst k' L' q (z_spa m) → Q (some (.inr (.inr (some q)))) (k', F', I', L', R')) : ZC (d + m + 5) 77 [.inr (.inr (some 68)), .inl (m : Int)] (k, F, I, L, R) Q := by
  obtain ⟨e1, e2, e3, e4, e5, e6, e7⟩ := z_sp_facts hm
  refine ze_SparseSearch_bestOf ?_
  repeat (first | refine zw_t rfl rfl ?_ | refine zw_jump rfl rfl ?_ | refine zw_getI rfl rfl (by assumption) ?_ | refine zw_ialn rfl (by assumption) (by omega) ?_ | refine zw_laln rfl (by assumption) (by omega) ?_ | refine zw_iastn rfl (by omega) (by assumption) (by omega) ?_ | refine zw_lastn rfl (by assumption) (by omega) ?_ | refine zw_iald0 rfl (by assumption) (by omega) ?_ | refine zw_lald0 rfl (by assumption) (by omega) ?_ | refine zw_aaln rfl (by assumption) rfl (by omega) ?_ | refine zw_getR rfl (by assumption) (by assumption) ?_ | refine zw_alen rfl (by assumption) rfl ?_ | refine zw_iald rfl (by assumption) (by omega) (by omega) ?_ | refine zw_iast rfl (by omega) (by assumption) (by omega) (by omega) ?_ | refine zw_putI rfl (by assumption) ?_ | refine zw_lald rfl (by assumption) (by omega) (by omega) ?_ | refine zw_last rfl (by assumption) (by omega) (by omega) ?_ | refine zw_iadd rfl (by omega) (by omega) ?_ | refine zw_isub rfl (by omega) (by omega) ?_ | refine zw_iinc rfl rfl rfl (by omega) (by omega) ?_)
  refine zw_calls rfl rfl rfl rfl rfl rfl ?_
  refine c_kn_SparseSearch ?_
  rw [if_pos (by omega)]
  refine zw_if_ne_t rfl (by decide) ?_
  repeat (first | refine zw_t rfl rfl ?_ | refine zw_jump rfl rfl ?_ | refine zw_getI rfl rfl (by assumption) ?_ | refine zw_ialn rfl (by assumption) (by omega) ?_ | refine zw_laln rfl (by assumption) (by omega) ?_ | refine zw_iastn rfl (by omega) (by assumption) (by omega) ?_ | refine zw_lastn rfl (by assumption) (by omega) ?_ | refine zw_iald0 rfl (by assumption) (by omega) ?_ | refine zw_lald0 rfl (by assumption) (by omega) ?_ | refine zw_aaln rfl (by assumption) rfl (by omega) ?_ | refine zw_getR rfl (by assumption) (by assumption) ?_ | refine zw_alen rfl (by assumption) rfl ?_ | refine zw_iald rfl (by assumption) (by omega) (by omega) ?_ | refine zw_iast rfl (by omega) (by assumption) (by omega) (by omega) ?_ | refine zw_putI rfl (by assumption) ?_ | refine zw_lald rfl (by assumption) (by omega) (by omega) ?_ | refine zw_last rfl (by assumption) (by omega) (by omega) ?_ | refine zw_iadd rfl (by omega) (by omega) ?_ | refine zw_isub rfl (by omega) (by omega) ?_ | refine zw_iinc rfl rfl rfl (by omega) (by omega) ?_)
  obtain ⟨t, ht⟩ : ∃ t, t = m * (m - 1) := ⟨_, rfl⟩
  have em : (m : Int) * ((m : Int) - 1) = (t : Int) := by
    rw [ht, show (m : Int) - 1 = ((m - 1 : Nat) : Int) by omega, ← Int.natCast_mul]
  have ht2 : t ≤ 42 := by rw [ht]; exact z_mul_le (c := 7) (d := 6) (by omega) (by omega)
  rw [← ht] at e1 e5 e6
  refine zw_imul rfl (by rw [em]; omega) (by rw [em]; omega) ?_
  repeat (first | refine zw_t rfl rfl ?_ | refine zw_jump rfl rfl ?_ | refine zw_getI rfl rfl (by assumption) ?_ | refine zw_ialn rfl (by assumption) (by omega) ?_ | refine zw_laln rfl (by assumption) (by omega) ?_ | refine zw_iastn rfl (by omega) (by assumption) (by omega) ?_ | refine zw_lastn rfl (by assumption) (by omega) ?_ | refine zw_iald0 rfl (by assumption) (by omega) ?_ | refine zw_lald0 rfl (by assumption) (by omega) ?_ | refine zw_aaln rfl (by assumption) rfl (by omega) ?_ | refine zw_getR rfl (by assumption) (by assumption) ?_ | refine zw_alen rfl (by assumption) rfl ?_ | refine zw_iald rfl (by assumption) (by omega) (by omega) ?_ | refine zw_iast rfl (by omega) (by assumption) (by omega) (by omega) ?_ | refine zw_putI rfl (by assumption) ?_ | refine zw_lald rfl (by assumption) (by omega) (by omega) ?_ | refine zw_last rfl (by assumption) (by omega) (by omega) ?_ | refine zw_iadd rfl (by omega) (by omega) ?_ | refine zw_isub rfl (by omega) (by omega) ?_ | refine zw_iinc rfl rfl rfl (by omega) (by omega) ?_)
  refine zw_idiv rfl (by rw [em]; omega) (by omega) ?_
  rw [em]
  have fin : ∀ (q : Nat) (k' : ZK) (F' I' : Nat → Nat → Int) (L' : Nat → Nat → Int64) (R' : Nat → Nat → Option Nat) (y x3 : Option ZV), ZG k k' 5 2560 → ZKp F I L F' I' L' → ZB A k' F' I' L' R' → R' 69 m = some q → ZW (d + m + 4) 77 59 [some (.inr (.inr (some 68))), some (.inl (m : Int)), y, x3] [] (k', F', I', L', R') Q := by
    intro q k' F' I' L' R' y x3 g kp hB hq
    obtain ⟨_, _, _, _, _, _, _, ⟨s1, s2, s3, s4⟩, _⟩ := hB.2.1
    repeat (first | refine zw_t rfl rfl ?_ | refine zw_jump rfl rfl ?_ | refine zw_getI rfl rfl (by assumption) ?_ | refine zw_ialn rfl (by assumption) (by omega) ?_ | refine zw_laln rfl (by assumption) (by omega) ?_ | refine zw_iastn rfl (by omega) (by assumption) (by omega) ?_ | refine zw_lastn rfl (by assumption) (by omega) ?_ | refine zw_iald0 rfl (by assumption) (by omega) ?_ | refine zw_lald0 rfl (by assumption) (by omega) ?_ | refine zw_aaln rfl (by assumption) rfl (by omega) ?_ | refine zw_getR rfl (by assumption) (by assumption) ?_ | refine zw_alen rfl (by assumption) rfl ?_ | refine zw_iald rfl (by assumption) (by omega) (by omega) ?_ | refine zw_iast rfl (by omega) (by assumption) (by omega) (by omega) ?_ | refine zw_putI rfl (by assumption) ?_ | refine zw_lald rfl (by assumption) (by omega) (by omega) ?_ | refine zw_last rfl (by assumption) (by omega) (by omega) ?_ | refine zw_iadd rfl (by omega) (by omega) ?_ | refine zw_isub rfl (by omega) (by omega) ?_ | refine zw_iinc rfl rfl rfl (by omega) (by omega) ?_)
    rw [hq]
    refine zw_nn_some rfl ?_
    repeat (first | refine zw_t rfl rfl ?_ | refine zw_jump rfl rfl ?_ | refine zw_getI rfl rfl (by assumption) ?_ | refine zw_ialn rfl (by assumption) (by omega) ?_ | refine zw_laln rfl (by assumption) (by omega) ?_ | refine zw_iastn rfl (by omega) (by assumption) (by omega) ?_ | refine zw_lastn rfl (by assumption) (by omega) ?_ | refine zw_iald0 rfl (by assumption) (by omega) ?_ | refine zw_lald0 rfl (by assumption) (by omega) ?_ | refine zw_aaln rfl (by assumption) rfl (by omega) ?_ | refine zw_getR rfl (by assumption) (by assumption) ?_ | refine zw_alen rfl (by assumption) rfl ?_ | refine zw_iald rfl (by assumption) (by omega) (by omega) ?_ | refine zw_iast rfl (by omega) (by assumption) (by omega) (by omega) ?_ | refine zw_putI rfl (by assumption) ?_ | refine zw_lald rfl (by assumption) (by omega) (by omega) ?_ | refine zw_last rfl (by assumption) (by omega) (by omega) ?_ | refine zw_iadd rfl (by omega) (by omega) ?_ | refine zw_isub rfl (by omega) (by omega) ?_ | refine zw_iinc rfl rfl rfl (by omega) (by omega) ?_)
    rw [hq]
    exact zw_aret rfl (K q k' F' I' L' R' g kp hB (hB.2.2.2.2.2.1.2.2.1 m q (by omega) hq))
  have loop : ∀ (n y : Nat) (k' : ZK) (F' I' : Nat → Nat → Int) (L' : Nat → Nat → Int64) (R' : Nat → Nat → Option Nat) (x3 : Option ZV), n + y = z_sbl m → t / 2 ≤ y → 95 ≤ k'.2.2.1 → ZG k k' (4 - n) (512 * (4 - n)) → ZKp F I L F' I' L' → ZB A k' F' I' L' R' → R' 69 m = none → ZW (d + m + 4) 77 19 [some (.inr (.inr (some 68))), some (.inl (m : Int)), some (.inl (y : Int)), x3] [] (k', F', I', L', R') Q := by
    intro n
    induction n with
    | zero =>
      intro y k' F' I' L' R' x3 hy hty hx' g kp hB hq
      have hy : y = z_sbl m := by omega
      obtain ⟨_, _, _, _, _, _, _, ⟨s1, s2, s3, s4⟩, _⟩ := hB.2.1
      repeat (first | refine zw_t rfl rfl ?_ | refine zw_jump rfl rfl ?_ | refine zw_getI rfl rfl (by assumption) ?_ | refine zw_ialn rfl (by assumption) (by omega) ?_ | refine zw_laln rfl (by assumption) (by omega) ?_ | refine zw_iastn rfl (by omega) (by assumption) (by omega) ?_ | refine zw_lastn rfl (by assumption) (by omega) ?_ | refine zw_iald0 rfl (by assumption) (by omega) ?_ | refine zw_lald0 rfl (by assumption) (by omega) ?_ | refine zw_aaln rfl (by assumption) rfl (by omega) ?_ | refine zw_getR rfl (by assumption) (by assumption) ?_ | refine zw_alen rfl (by assumption) rfl ?_ | refine zw_iald rfl (by assumption) (by omega) (by omega) ?_ | refine zw_iast rfl (by omega) (by assumption) (by omega) (by omega) ?_ | refine zw_putI rfl (by assumption) ?_ | refine zw_lald rfl (by assumption) (by omega) (by omega) ?_ | refine zw_last rfl (by assumption) (by omega) (by omega) ?_ | refine zw_iadd rfl (by omega) (by omega) ?_ | refine zw_isub rfl (by omega) (by omega) ?_ | refine zw_iinc rfl rfl rfl (by omega) (by omega) ?_)
      rw [hq]
      refine zw_nn_none rfl ?_
      repeat (first | refine zw_t rfl rfl ?_ | refine zw_jump rfl rfl ?_ | refine zw_getI rfl rfl (by assumption) ?_ | refine zw_ialn rfl (by assumption) (by omega) ?_ | refine zw_laln rfl (by assumption) (by omega) ?_ | refine zw_iastn rfl (by omega) (by assumption) (by omega) ?_ | refine zw_lastn rfl (by assumption) (by omega) ?_ | refine zw_iald0 rfl (by assumption) (by omega) ?_ | refine zw_lald0 rfl (by assumption) (by omega) ?_ | refine zw_aaln rfl (by assumption) rfl (by omega) ?_ | refine zw_getR rfl (by assumption) (by assumption) ?_ | refine zw_alen rfl (by assumption) rfl ?_ | refine zw_iald rfl (by assumption) (by omega) (by omega) ?_ | refine zw_iast rfl (by omega) (by assumption) (by omega) (by omega) ?_ | refine zw_putI rfl (by assumption) ?_ | refine zw_lald rfl (by assumption) (by omega) (by omega) ?_ | refine zw_last rfl (by assumption) (by omega) (by omega) ?_ | refine zw_iadd rfl (by omega) (by omega) ?_ | refine zw_isub rfl (by omega) (by omega) ?_ | refine zw_iinc rfl rfl rfl (by omega) (by omega) ?_)
      refine zw_icmp_gt_f rfl (by omega) ?_
      repeat (first | refine zw_t rfl rfl ?_ | refine zw_jump rfl rfl ?_ | refine zw_getI rfl rfl (by assumption) ?_ | refine zw_ialn rfl (by assumption) (by omega) ?_ | refine zw_laln rfl (by assumption) (by omega) ?_ | refine zw_iastn rfl (by omega) (by assumption) (by omega) ?_ | refine zw_lastn rfl (by assumption) (by omega) ?_ | refine zw_iald0 rfl (by assumption) (by omega) ?_ | refine zw_lald0 rfl (by assumption) (by omega) ?_ | refine zw_aaln rfl (by assumption) rfl (by omega) ?_ | refine zw_getR rfl (by assumption) (by assumption) ?_ | refine zw_alen rfl (by assumption) rfl ?_ | refine zw_iald rfl (by assumption) (by omega) (by omega) ?_ | refine zw_iast rfl (by omega) (by assumption) (by omega) (by omega) ?_ | refine zw_putI rfl (by assumption) ?_ | refine zw_lald rfl (by assumption) (by omega) (by omega) ?_ | refine zw_last rfl (by assumption) (by omega) (by omega) ?_ | refine zw_iadd rfl (by omega) (by omega) ?_ | refine zw_isub rfl (by omega) (by omega) ?_ | refine zw_iinc rfl rfl rfl (by omega) (by omega) ?_)
      refine zw_callv rfl rfl rfl rfl rfl rfl (by assumption) ?_
      rw [hy]
      refine c_upTo hB hx' hm (by omega) e3 (fun F2 I2 L2 R2 kp2 hB2 hl2 hr2 => ?_)
      have hk2 : (z_bk k' (z_spb m (z_sbl m)).length).1 k'.2.2.1 = (3, (z_spb m (z_sbl m)).length) := z_up_same _ _ _
      obtain ⟨_, _, _, _, _, _, _, ⟨s1, s2, s3, s4⟩, _⟩ := hB2.2.1
      repeat (first | refine zw_t rfl rfl ?_ | refine zw_jump rfl rfl ?_ | refine zw_getI rfl rfl (by assumption) ?_ | refine zw_ialn rfl (by assumption) (by omega) ?_ | refine zw_laln rfl (by assumption) (by omega) ?_ | refine zw_iastn rfl (by omega) (by assumption) (by omega) ?_ | refine zw_lastn rfl (by assumption) (by omega) ?_ | refine zw_iald0 rfl (by assumption) (by omega) ?_ | refine zw_lald0 rfl (by assumption) (by omega) ?_ | refine zw_aaln rfl (by assumption) rfl (by omega) ?_ | refine zw_getR rfl (by assumption) (by assumption) ?_ | refine zw_alen rfl (by assumption) rfl ?_ | refine zw_iald rfl (by assumption) (by omega) (by omega) ?_ | refine zw_iast rfl (by omega) (by assumption) (by omega) (by omega) ?_ | refine zw_putI rfl (by assumption) ?_ | refine zw_lald rfl (by assumption) (by omega) (by omega) ?_ | refine zw_last rfl (by assumption) (by omega) (by omega) ?_ | refine zw_iadd rfl (by omega) (by omega) ?_ | refine zw_isub rfl (by omega) (by omega) ?_ | refine zw_iinc rfl rfl rfl (by omega) (by omega) ?_)
      refine zw_if_le_f rfl ?_ ?_
      · cases hz : z_spb m (z_sbl m) with
        | nil => exact absurd hz e2
        | cons x t => simp
      repeat (first | refine zw_t rfl rfl ?_ | refine zw_jump rfl rfl ?_ | refine zw_getI rfl rfl (by assumption) ?_ | refine zw_ialn rfl (by assumption) (by omega) ?_ | refine zw_laln rfl (by assumption) (by omega) ?_ | refine zw_iastn rfl (by omega) (by assumption) (by omega) ?_ | refine zw_lastn rfl (by assumption) (by omega) ?_ | refine zw_iald0 rfl (by assumption) (by omega) ?_ | refine zw_lald0 rfl (by assumption) (by omega) ?_ | refine zw_aaln rfl (by assumption) rfl (by omega) ?_ | refine zw_getR rfl (by assumption) (by assumption) ?_ | refine zw_alen rfl (by assumption) rfl ?_ | refine zw_iald rfl (by assumption) (by omega) (by omega) ?_ | refine zw_iast rfl (by omega) (by assumption) (by omega) (by omega) ?_ | refine zw_putI rfl (by assumption) ?_ | refine zw_lald rfl (by assumption) (by omega) (by omega) ?_ | refine zw_last rfl (by assumption) (by omega) (by omega) ?_ | refine zw_iadd rfl (by omega) (by omega) ?_ | refine zw_isub rfl (by omega) (by omega) ?_ | refine zw_iinc rfl rfl rfl (by omega) (by omega) ?_)
      refine zw_aast rfl s4 rfl hk2 rfl (by omega) (by omega) ?_
      rw [Int.toNat_natCast]
      repeat (first | refine zw_t rfl rfl ?_ | refine zw_jump rfl rfl ?_ | refine zw_getI rfl rfl (by assumption) ?_ | refine zw_ialn rfl (by assumption) (by omega) ?_ | refine zw_laln rfl (by assumption) (by omega) ?_ | refine zw_iastn rfl (by omega) (by assumption) (by omega) ?_ | refine zw_lastn rfl (by assumption) (by omega) ?_ | refine zw_iald0 rfl (by assumption) (by omega) ?_ | refine zw_lald0 rfl (by assumption) (by omega) ?_ | refine zw_aaln rfl (by assumption) rfl (by omega) ?_ | refine zw_getR rfl (by assumption) (by assumption) ?_ | refine zw_alen rfl (by assumption) rfl ?_ | refine zw_iald rfl (by assumption) (by omega) (by omega) ?_ | refine zw_iast rfl (by omega) (by assumption) (by omega) (by omega) ?_ | refine zw_putI rfl (by assumption) ?_ | refine zw_lald rfl (by assumption) (by omega) (by omega) ?_ | refine zw_last rfl (by assumption) (by omega) (by omega) ?_ | refine zw_iadd rfl (by omega) (by omega) ?_ | refine zw_isub rfl (by omega) (by omega) ?_ | refine zw_iinc rfl rfl rfl (by omega) (by omega) ?_)
      refine zw_goto rfl ?_
      have hB3 : ZB A (z_bk k' (z_spb m (z_sbl m)).length) F2 I2 L2 (z_u2 R2 69 m (some k'.2.2.1)) := hB2.keep (Or.inl rfl) (fun _ => hl2) (fun q => by omega) (fun q => by omega) (fun q => by omega)
      have hq3 : z_u2 R2 69 m (some k'.2.2.1) 69 m = some k'.2.2.1 := z_u2_same _ _ _ _
      have := fin k'.2.2.1 _ F2 I2 L2 _ (some (.inl ((z_sbl m : Int) + 1))) (some (.inr (.inr (some k'.2.2.1)))) (g.trans (ZG.bk _ _) (by omega) (by omega)) (kp.trans kp2) hB3 hq3
      repeat (first | refine zw_t rfl rfl ?_ | refine zw_jump rfl rfl ?_ | refine zw_getI rfl rfl (by assumption) ?_ | refine zw_ialn rfl (by assumption) (by omega) ?_ | refine zw_laln rfl (by assumption) (by omega) ?_ | refine zw_iastn rfl (by omega) (by assumption) (by omega) ?_ | refine zw_lastn rfl (by assumption) (by omega) ?_ | refine zw_iald0 rfl (by assumption) (by omega) ?_ | refine zw_lald0 rfl (by assumption) (by omega) ?_ | refine zw_aaln rfl (by assumption) rfl (by omega) ?_ | refine zw_getR rfl (by assumption) (by assumption) ?_ | refine zw_alen rfl (by assumption) rfl ?_ | refine zw_iald rfl (by assumption) (by omega) (by omega) ?_ | refine zw_iast rfl (by omega) (by assumption) (by omega) (by omega) ?_ | refine zw_putI rfl (by assumption) ?_ | refine zw_lald rfl (by assumption) (by omega) (by omega) ?_ | refine zw_last rfl (by assumption) (by omega) (by omega) ?_ | refine zw_iadd rfl (by omega) (by omega) ?_ | refine zw_isub rfl (by omega) (by omega) ?_ | refine zw_iinc rfl rfl rfl (by omega) (by omega) ?_)
      rw [hq3]
      refine zw_nn_some rfl ?_
      exact this
    | succ n ih =>
      intro y k' F' I' L' R' x3 hy hty hx' g kp hB hq
      have hnil := e1 y (by omega) (by omega)
      obtain ⟨_, _, _, _, _, _, _, ⟨s1, s2, s3, s4⟩, _⟩ := hB.2.1
      repeat (first | refine zw_t rfl rfl ?_ | refine zw_jump rfl rfl ?_ | refine zw_getI rfl rfl (by assumption) ?_ | refine zw_ialn rfl (by assumption) (by omega) ?_ | refine zw_laln rfl (by assumption) (by omega) ?_ | refine zw_iastn rfl (by omega) (by assumption) (by omega) ?_ | refine zw_lastn rfl (by assumption) (by omega) ?_ | refine zw_iald0 rfl (by assumption) (by omega) ?_ | refine zw_lald0 rfl (by assumption) (by omega) ?_ | refine zw_aaln rfl (by assumption) rfl (by omega) ?_ | refine zw_getR rfl (by assumption) (by assumption) ?_ | refine zw_alen rfl (by assumption) rfl ?_ | refine zw_iald rfl (by assumption) (by omega) (by omega) ?_ | refine zw_iast rfl (by omega) (by assumption) (by omega) (by omega) ?_ | refine zw_putI rfl (by assumption) ?_ | refine zw_lald rfl (by assumption) (by omega) (by omega) ?_ | refine zw_last rfl (by assumption) (by omega) (by omega) ?_ | refine zw_iadd rfl (by omega) (by omega) ?_ | refine zw_isub rfl (by omega) (by omega) ?_ | refine zw_iinc rfl rfl rfl (by omega) (by omega) ?_)
      rw [hq]
      refine zw_nn_none rfl ?_
      repeat (first | refine zw_t rfl rfl ?_ | refine zw_jump rfl rfl ?_ | refine zw_getI rfl rfl (by assumption) ?_ | refine zw_ialn rfl (by assumption) (by omega) ?_ | refine zw_laln rfl (by assumption) (by omega) ?_ | refine zw_iastn rfl (by omega) (by assumption) (by omega) ?_ | refine zw_lastn rfl (by assumption) (by omega) ?_ | refine zw_iald0 rfl (by assumption) (by omega) ?_ | refine zw_lald0 rfl (by assumption) (by omega) ?_ | refine zw_aaln rfl (by assumption) rfl (by omega) ?_ | refine zw_getR rfl (by assumption) (by assumption) ?_ | refine zw_alen rfl (by assumption) rfl ?_ | refine zw_iald rfl (by assumption) (by omega) (by omega) ?_ | refine zw_iast rfl (by omega) (by assumption) (by omega) (by omega) ?_ | refine zw_putI rfl (by assumption) ?_ | refine zw_lald rfl (by assumption) (by omega) (by omega) ?_ | refine zw_last rfl (by assumption) (by omega) (by omega) ?_ | refine zw_iadd rfl (by omega) (by omega) ?_ | refine zw_isub rfl (by omega) (by omega) ?_ | refine zw_iinc rfl rfl rfl (by omega) (by omega) ?_)
      refine zw_icmp_gt_f rfl (by omega) ?_
      repeat (first | refine zw_t rfl rfl ?_ | refine zw_jump rfl rfl ?_ | refine zw_getI rfl rfl (by assumption) ?_ | refine zw_ialn rfl (by assumption) (by omega) ?_ | refine zw_laln rfl (by assumption) (by omega) ?_ | refine zw_iastn rfl (by omega) (by assumption) (by omega) ?_ | refine zw_lastn rfl (by assumption) (by omega) ?_ | refine zw_iald0 rfl (by assumption) (by omega) ?_ | refine zw_lald0 rfl (by assumption) (by omega) ?_ | refine zw_aaln rfl (by assumption) rfl (by omega) ?_ | refine zw_getR rfl (by assumption) (by assumption) ?_ | refine zw_alen rfl (by assumption) rfl ?_ | refine zw_iald rfl (by assumption) (by omega) (by omega) ?_ | refine zw_iast rfl (by omega) (by assumption) (by omega) (by omega) ?_ | refine zw_putI rfl (by assumption) ?_ | refine zw_lald rfl (by assumption) (by omega) (by omega) ?_ | refine zw_last rfl (by assumption) (by omega) (by omega) ?_ | refine zw_iadd rfl (by omega) (by omega) ?_ | refine zw_isub rfl (by omega) (by omega) ?_ | refine zw_iinc rfl rfl rfl (by omega) (by omega) ?_)
      refine zw_callv rfl rfl rfl rfl rfl rfl (by assumption) ?_
      refine c_upTo hB hx' hm (by omega) (by rw [hnil]; decide) (fun F2 I2 L2 R2 kp2 hB2 hl2 hr2 => ?_)
      have hk2 : (z_bk k' (z_spb m y).length).1 k'.2.2.1 = (3, (z_spb m y).length) := z_up_same _ _ _
      repeat (first | refine zw_t rfl rfl ?_ | refine zw_jump rfl rfl ?_ | refine zw_getI rfl rfl (by assumption) ?_ | refine zw_ialn rfl (by assumption) (by omega) ?_ | refine zw_laln rfl (by assumption) (by omega) ?_ | refine zw_iastn rfl (by omega) (by assumption) (by omega) ?_ | refine zw_lastn rfl (by assumption) (by omega) ?_ | refine zw_iald0 rfl (by assumption) (by omega) ?_ | refine zw_lald0 rfl (by assumption) (by omega) ?_ | refine zw_aaln rfl (by assumption) rfl (by omega) ?_ | refine zw_getR rfl (by assumption) (by assumption) ?_ | refine zw_alen rfl (by assumption) rfl ?_ | refine zw_iald rfl (by assumption) (by omega) (by omega) ?_ | refine zw_iast rfl (by omega) (by assumption) (by omega) (by omega) ?_ | refine zw_putI rfl (by assumption) ?_ | refine zw_lald rfl (by assumption) (by omega) (by omega) ?_ | refine zw_last rfl (by assumption) (by omega) (by omega) ?_ | refine zw_iadd rfl (by omega) (by omega) ?_ | refine zw_isub rfl (by omega) (by omega) ?_ | refine zw_iinc rfl rfl rfl (by omega) (by omega) ?_)
      refine zw_if_le_t rfl (by rw [hnil]; decide) ?_
      repeat (first | refine zw_t rfl rfl ?_ | refine zw_jump rfl rfl ?_ | refine zw_getI rfl rfl (by assumption) ?_ | refine zw_ialn rfl (by assumption) (by omega) ?_ | refine zw_laln rfl (by assumption) (by omega) ?_ | refine zw_iastn rfl (by omega) (by assumption) (by omega) ?_ | refine zw_lastn rfl (by assumption) (by omega) ?_ | refine zw_iald0 rfl (by assumption) (by omega) ?_ | refine zw_lald0 rfl (by assumption) (by omega) ?_ | refine zw_aaln rfl (by assumption) rfl (by omega) ?_ | refine zw_getR rfl (by assumption) (by assumption) ?_ | refine zw_alen rfl (by assumption) rfl ?_ | refine zw_iald rfl (by assumption) (by omega) (by omega) ?_ | refine zw_iast rfl (by omega) (by assumption) (by omega) (by omega) ?_ | refine zw_putI rfl (by assumption) ?_ | refine zw_lald rfl (by assumption) (by omega) (by omega) ?_ | refine zw_last rfl (by assumption) (by omega) (by omega) ?_ | refine zw_iadd rfl (by omega) (by omega) ?_ | refine zw_isub rfl (by omega) (by omega) ?_ | refine zw_iinc rfl rfl rfl (by omega) (by omega) ?_)
      refine zw_goto rfl ?_
      have g2 := ZG.bk k' (z_spb m y).length
      refine ih (y + 1) _ F2 I2 L2 R2 _ (by omega) (by omega) (by have := g2.2.1; omega) (g.trans g2 (by omega) (by rw [hnil]; simp; omega)) (kp.trans kp2) hB2 ?_
      rw [hr2 69 (by omega)]
      exact hq
  refine zw_ne 19 rfl ?_
  refine zw_t rfl rfl ?_
  cases hq : R 69 m with
  | none => exact loop (z_sbl m - t / 2) (t / 2) k F I L R none (by omega) (by omega) hx (ZG.refl _ _ _) (ZKp.refl _ _ _) h hq
  | some q =>
    have := fin q k F I L R (some (.inl ((t : Int) / 2))) none (ZG.refl _ _ _) (ZKp.refl _ _ _) h hq
    obtain ⟨_, _, _, _, _, _, _, ⟨s1, s2, s3, s4⟩, _⟩ := h.2.1
    repeat (first | refine zw_t rfl rfl ?_ | refine zw_jump rfl rfl ?_ | refine zw_getI rfl rfl (by assumption) ?_ | refine zw_ialn rfl (by assumption) (by omega) ?_ | refine zw_laln rfl (by assumption) (by omega) ?_ | refine zw_iastn rfl (by omega) (by assumption) (by omega) ?_ | refine zw_lastn rfl (by assumption) (by omega) ?_ | refine zw_iald0 rfl (by assumption) (by omega) ?_ | refine zw_lald0 rfl (by assumption) (by omega) ?_ | refine zw_aaln rfl (by assumption) rfl (by omega) ?_ | refine zw_getR rfl (by assumption) (by assumption) ?_ | refine zw_alen rfl (by assumption) rfl ?_ | refine zw_iald rfl (by assumption) (by omega) (by omega) ?_ | refine zw_iast rfl (by omega) (by assumption) (by omega) (by omega) ?_ | refine zw_putI rfl (by assumption) ?_ | refine zw_lald rfl (by assumption) (by omega) (by omega) ?_ | refine zw_last rfl (by assumption) (by omega) (by omega) ?_ | refine zw_iadd rfl (by omega) (by omega) ?_ | refine zw_isub rfl (by omega) (by omega) ?_ | refine zw_iinc rfl rfl rfl (by omega) (by omega) ?_)
    rw [hq]
    refine zw_nn_some rfl ?_
    exact this
end ZSpar3
