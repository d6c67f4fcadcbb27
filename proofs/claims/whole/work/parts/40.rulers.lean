/-! THE BENCH: ruler -/
theorem z_ris_cong {w u : Nat → Int64} (h0 : w 0 = u 0) : ∀ (n i : Nat), (∀ j, i - 1 ≤ j → j < i + n → w j = u j) → 1 ≤ i → z_ris w n i = z_ris u n i
  | 0, i, _, _ => rfl
  | n + 1, i, h, hi => by
    unfold z_ris
    rw [h i (by omega) (by omega), h (i - 1) (by omega) (by omega), h0, z_ris_cong h0 n (i + 1) (fun j a b => h j (by omega) (by omega)) (by omega)]
theorem z_lcmp_pos {x y : Int64} (h : 0 < z_lcmpv x y) : y.toInt < x.toInt := by
  unfold z_lcmpv at h
  by_cases h1 : y < x
  · exact Int64.lt_iff_toInt_lt.1 h1
  · rw [if_neg h1] at h
    split at h <;> omega
theorem z_lcmp_nn {x y : Int64} (h : 0 ≤ z_lcmpv x y) : y.toInt ≤ x.toInt := by
  unfold z_lcmpv at h
  by_cases h1 : y < x
  · exact Int.le_of_lt (Int64.lt_iff_toInt_lt.1 h1)
  · rw [if_neg h1] at h
    by_cases h2 : x = y
    · rw [h2]; exact Int.le_refl _
    · rw [if_neg h2] at h; omega
theorem z_lcmp_np {x y : Int64} (h : z_lcmpv x y ≤ 0) : x.toInt ≤ y.toInt := by
  unfold z_lcmpv at h
  by_cases h1 : y < x
  · rw [if_pos h1] at h; omega
  · exact Int.not_lt.1 (fun h2 => h1 (Int64.lt_iff_toInt_lt.2 h2))
theorem z_ris_spec (w : Nat → Int64) : ∀ (n i : Nat), z_ris w n i = true → ∀ j, i ≤ j → j < i + n → (w (j - 1)).toInt < (w j).toInt ∧ 0 ≤ (w j - w 0).toInt ∧ (w j - w 0).toInt ≤ 1000
  | 0, i, _, j, h1, h2 => by omega
  | n + 1, i, h, j, h1, h2 => by
    unfold z_ris at h
    by_cases hc : 0 < z_lcmpv (w i) (w (i - 1)) ∧ 0 ≤ z_lcmpv (w i - w 0) (Int64.ofNat 0) ∧ z_lcmpv (w i - w 0) (Int64.ofInt ((1000 : Nat) - (0 : Nat))) ≤ 0
    · rw [if_pos hc] at h
      by_cases hj : j = i
      · subst hj
        have q1 := z_lcmp_pos hc.1
        have q2 := z_lcmp_nn hc.2.1
        have q3 := z_lcmp_np hc.2.2
        have e2 : (Int64.ofNat 0).toInt = 0 := by decide
        have e3 : (Int64.ofInt ((1000 : Nat) - (0 : Nat))).toInt = 1000 := by decide
        rw [e2] at q2
        rw [e3] at q3
        exact ⟨q1, q2, q3⟩
      · exact z_ris_spec w n (i + 1) h j (by omega) (by omega)
    · rw [if_neg hc] at h; cases h
theorem z_mk_row {w : Nat → Int64} {m : Nat} (hm0 : 0 < m) (hm : m ≤ 24) (h : z_ris w (m - 1) 1 = true) : ZRow (z_mk w) m 0 := by
  have hs := z_ris_spec w (m - 1) 1 h
  have e0 : (w 0 - w 0).toInt = 0 := by rw [Int64.sub_self]; rfl
  have up : ∀ j, j < m → (w 0).toInt ≤ (w j).toInt := by
    intro j
    induction j with
    | zero => intro _; exact Int.le_refl _
    | succ j ih =>
      intro hj
      have a := ih (by omega)
      have b := (hs (j + 1) (by omega) (by omega)).1
      rw [show j + 1 - 1 = j by omega] at b
      omega
  have far : ∀ j, j < m → 0 ≤ (w j - w 0).toInt ∧ (w j - w 0).toInt ≤ 1000 := fun j hj => by
    by_cases hj0 : j = 0
    · rw [hj0, e0]; omega
    · exact (hs j (by omega) (by omega)).2
  have ex : ∀ j, j < m → (w j - w 0).toInt = (w j).toInt - (w 0).toInt := fun j hj => by
    have a := up j hj
    have b := far j hj
    have c1 := (w j).toInt_lt
    have c2 := (w 0).le_toInt
    rw [Int64.toInt_sub] at b ⊢
    rw [Int.bmod_def] at b ⊢
    have d1 : 0 ≤ (w j).toInt - (w 0).toInt := by omega
    have d2 : (w j).toInt - (w 0).toInt < 18446744073709551616 := by omega
    rw [show ((2 ^ 64 : Nat) : Int) = 18446744073709551616 from rfl] at b ⊢
    rw [Int.emod_eq_of_lt d1 d2] at b ⊢
    split at b
    · split <;> omega
    · omega
  have mk : ∀ j, j < m → z_mk w j = (w j).toInt - (w 0).toInt := fun j hj => by
    have b := far j hj
    unfold z_mk
    rw [Int64.toInt_toInt32, ← ex j hj]
    exact Int.bmod_eq_of_le (by omega) (by omega)
  have ri : ZRise (fun j => (w j).toInt) m := by
    intro i j hij hj
    induction j with
    | zero => omega
    | succ j ih =>
      have b := (hs (j + 1) (by omega) (by omega)).1
      rw [show j + 1 - 1 = j by omega] at b
      show (w i).toInt < (w (j + 1)).toInt
      by_cases hij2 : i = j
      · rw [hij2]; exact b
      · have := ih (by omega) (by omega)
        dsimp only at this
        omega
  refine ⟨hm, fun i j hij hj => ?_, fun j hj => ?_, by omega, fun hr => by omega, fun _ => ?_⟩
  · rw [mk i (by omega), mk j hj]
    have := ri i j hij hj
    dsimp only at this
    omega
  · rw [mk j hj, ← ex j hj]; exact far j hj
  · rw [mk 0 hm0]; omega
def sp_rf (A : ZA) (sh st mn : Int) : Int := if 0 ≤ st ∧ st < 6 then (if 0 ≤ sh ∧ sh < 16 then (match A.1 st.toNat with | none => 3 | some y => if mn < 1 then 5 else if (y.2.1 : Int) < mn then 6 else if z_ris y.2.2 (mn.toNat - 1) 1 = true then 0 else 7) else 2) else 1
def sp_ruler (A : ZA) (sh st mn : Int) : Int × ZA := if sp_rf A sh st mn = 0 then (match A.1 st.toNat with | none => (-1, A.1, A.2.1, 3) | some y => (z_knd (z_mk y.2.2) mn.toNat 0, A.1, z_up A.2.1 sh.toNat (mn.toNat, 0, z_mk y.2.2), 0)) else (-1, A.1, A.2.1, sp_rf A sh st mn)
section ZBench12
variable {d : Nat} {A : ZA} {k : ZK} {F I : Nat → Nat → Int} {L : Nat → Nat → Int64} {R : Nat → Nat → Option Nat} {Q : Option ZV → ZH → Prop} {sh st mn : Int}
theorem c_rulerFault (h : ZB A k F I L R) (K : Q (some (.inl (sp_rf A sh st mn))) (k, F, I, L, R)) : ZC (d + 2) 128 [.inr (.inr (some 2)), .inl sh, .inl st, .inl mn] (k, F, I, L, R) Q := by
  have hR := h.2.2.1
  obtain ⟨⟨a1, a2, a3, a4, a5, a6, a7, a8, a9, a10, a11, a12, a13, a14⟩, _, _, _, hs, _⟩ := h.2.1
  refine ze_B_rulerFault ?_
  repeat (first | refine zw_t rfl rfl ?_ | refine zw_jump rfl rfl ?_ | refine zw_getI rfl rfl (by assumption) ?_ | refine zw_ialn rfl (by assumption) (by omega) ?_ | refine zw_laln rfl (by assumption) (by omega) ?_ | refine zw_iastn rfl (by omega) (by assumption) (by omega) ?_ | refine zw_lastn rfl (by assumption) (by omega) ?_ | refine zw_iald0 rfl (by assumption) (by omega) ?_ | refine zw_lald0 rfl (by assumption) (by omega) ?_ | refine zw_aaln rfl (by assumption) rfl (by omega) ?_ | refine zw_getR rfl (by assumption) (by assumption) ?_ | refine zw_alen rfl (by assumption) rfl ?_ | refine zw_iald rfl (by assumption) (by omega) (by omega) ?_ | refine zw_iast rfl (by omega) (by assumption) (by omega) (by omega) ?_ | refine zw_putI rfl (by assumption) ?_ | refine zw_lald rfl (by assumption) (by omega) (by omega) ?_ | refine zw_last rfl (by assumption) (by omega) (by omega) ?_ | refine zw_iadd rfl (by omega) (by omega) ?_ | refine zw_isub rfl (by omega) (by omega) ?_ | refine zw_iinc rfl rfl rfl (by omega) (by omega) ?_)
  refine zw_calls rfl rfl rfl rfl rfl rfl ?_
  refine c_isStick ?_
  unfold sp_rf at K
  by_cases hx : 0 ≤ st ∧ st < 6
  · rw [if_pos hx] at K ⊢
    refine zw_if_ne_t rfl (by decide) ?_
    repeat (first | refine zw_t rfl rfl ?_ | refine zw_jump rfl rfl ?_ | refine zw_getI rfl rfl (by assumption) ?_ | refine zw_ialn rfl (by assumption) (by omega) ?_ | refine zw_laln rfl (by assumption) (by omega) ?_ | refine zw_iastn rfl (by omega) (by assumption) (by omega) ?_ | refine zw_lastn rfl (by assumption) (by omega) ?_ | refine zw_iald0 rfl (by assumption) (by omega) ?_ | refine zw_lald0 rfl (by assumption) (by omega) ?_ | refine zw_aaln rfl (by assumption) rfl (by omega) ?_ | refine zw_getR rfl (by assumption) (by assumption) ?_ | refine zw_alen rfl (by assumption) rfl ?_ | refine zw_iald rfl (by assumption) (by omega) (by omega) ?_ | refine zw_iast rfl (by omega) (by assumption) (by omega) (by omega) ?_ | refine zw_putI rfl (by assumption) ?_ | refine zw_lald rfl (by assumption) (by omega) (by omega) ?_ | refine zw_last rfl (by assumption) (by omega) (by omega) ?_ | refine zw_iadd rfl (by omega) (by omega) ?_ | refine zw_isub rfl (by omega) (by omega) ?_ | refine zw_iinc rfl rfl rfl (by omega) (by omega) ?_)
    refine zw_calls rfl rfl rfl rfl rfl rfl ?_
    refine c_isShelf ?_
    by_cases hy : 0 ≤ sh ∧ sh < 16
    · rw [if_pos hy] at K ⊢
      refine zw_if_ne_t rfl (by decide) ?_
      obtain ⟨t, rfl⟩ : ∃ t : Nat, st = (t : Int) := ⟨st.toNat, by omega⟩
      rw [Int.toNat_natCast] at K
      have hs0 := hs t (by omega)
      obtain ⟨s1, s2, s3, s4⟩ := hs t (by omega)
      have a := h.1.1 t (by omega)
      repeat (first | refine zw_t rfl rfl ?_ | refine zw_jump rfl rfl ?_ | refine zw_getI rfl rfl (by assumption) ?_ | refine zw_ialn rfl (by assumption) (by omega) ?_ | refine zw_laln rfl (by assumption) (by omega) ?_ | refine zw_iastn rfl (by omega) (by assumption) (by omega) ?_ | refine zw_lastn rfl (by assumption) (by omega) ?_ | refine zw_iald0 rfl (by assumption) (by omega) ?_ | refine zw_lald0 rfl (by assumption) (by omega) ?_ | refine zw_aaln rfl (by assumption) rfl (by omega) ?_ | refine zw_getR rfl (by assumption) (by assumption) ?_ | refine zw_alen rfl (by assumption) rfl ?_ | refine zw_iald rfl (by assumption) (by omega) (by omega) ?_ | refine zw_iast rfl (by omega) (by assumption) (by omega) (by omega) ?_ | refine zw_putI rfl (by assumption) ?_ | refine zw_lald rfl (by assumption) (by omega) (by omega) ?_ | refine zw_last rfl (by assumption) (by omega) (by omega) ?_ | refine zw_iadd rfl (by omega) (by omega) ?_ | refine zw_isub rfl (by omega) (by omega) ?_ | refine zw_iinc rfl rfl rfl (by omega) (by omega) ?_)
      rw [hR.1 t (by omega)]
      cases hz : A.1 t with
      | none =>
        rw [hz] at K a
        dsimp only at K
        have a' : F (22 + 2 * t) 3 = 0 := a
        repeat (first | refine zw_t rfl rfl ?_ | refine zw_jump rfl rfl ?_ | refine zw_getI rfl rfl (by assumption) ?_ | refine zw_ialn rfl (by assumption) (by omega) ?_ | refine zw_laln rfl (by assumption) (by omega) ?_ | refine zw_iastn rfl (by omega) (by assumption) (by omega) ?_ | refine zw_lastn rfl (by assumption) (by omega) ?_ | refine zw_iald0 rfl (by assumption) (by omega) ?_ | refine zw_lald0 rfl (by assumption) (by omega) ?_ | refine zw_aaln rfl (by assumption) rfl (by omega) ?_ | refine zw_getR rfl (by assumption) (by assumption) ?_ | refine zw_alen rfl (by assumption) rfl ?_ | refine zw_iald rfl (by assumption) (by omega) (by omega) ?_ | refine zw_iast rfl (by omega) (by assumption) (by omega) (by omega) ?_ | refine zw_putI rfl (by assumption) ?_ | refine zw_lald rfl (by assumption) (by omega) (by omega) ?_ | refine zw_last rfl (by assumption) (by omega) (by omega) ?_ | refine zw_iadd rfl (by omega) (by omega) ?_ | refine zw_isub rfl (by omega) (by omega) ?_ | refine zw_iinc rfl rfl rfl (by omega) (by omega) ?_)
        refine zw_if_ne_f rfl a' ?_
        repeat (first | refine zw_t rfl rfl ?_ | refine zw_jump rfl rfl ?_ | refine zw_getI rfl rfl (by assumption) ?_ | refine zw_ialn rfl (by assumption) (by omega) ?_ | refine zw_laln rfl (by assumption) (by omega) ?_ | refine zw_iastn rfl (by omega) (by assumption) (by omega) ?_ | refine zw_lastn rfl (by assumption) (by omega) ?_ | refine zw_iald0 rfl (by assumption) (by omega) ?_ | refine zw_lald0 rfl (by assumption) (by omega) ?_ | refine zw_aaln rfl (by assumption) rfl (by omega) ?_ | refine zw_getR rfl (by assumption) (by assumption) ?_ | refine zw_alen rfl (by assumption) rfl ?_ | refine zw_iald rfl (by assumption) (by omega) (by omega) ?_ | refine zw_iast rfl (by omega) (by assumption) (by omega) (by omega) ?_ | refine zw_putI rfl (by assumption) ?_ | refine zw_lald rfl (by assumption) (by omega) (by omega) ?_ | refine zw_last rfl (by assumption) (by omega) (by omega) ?_ | refine zw_iadd rfl (by omega) (by omega) ?_ | refine zw_isub rfl (by omega) (by omega) ?_ | refine zw_iinc rfl rfl rfl (by omega) (by omega) ?_)
        exact zw_iret rfl K
      | some y =>
        obtain ⟨kd, nn, w⟩ := y
        rw [hz] at K a
        obtain ⟨b1, b2, b3, b4, b5⟩ := a
        dsimp only at K
        repeat (first | refine zw_t rfl rfl ?_ | refine zw_jump rfl rfl ?_ | refine zw_getI rfl rfl (by assumption) ?_ | refine zw_ialn rfl (by assumption) (by omega) ?_ | refine zw_laln rfl (by assumption) (by omega) ?_ | refine zw_iastn rfl (by omega) (by assumption) (by omega) ?_ | refine zw_lastn rfl (by assumption) (by omega) ?_ | refine zw_iald0 rfl (by assumption) (by omega) ?_ | refine zw_lald0 rfl (by assumption) (by omega) ?_ | refine zw_aaln rfl (by assumption) rfl (by omega) ?_ | refine zw_getR rfl (by assumption) (by assumption) ?_ | refine zw_alen rfl (by assumption) rfl ?_ | refine zw_iald rfl (by assumption) (by omega) (by omega) ?_ | refine zw_iast rfl (by omega) (by assumption) (by omega) (by omega) ?_ | refine zw_putI rfl (by assumption) ?_ | refine zw_lald rfl (by assumption) (by omega) (by omega) ?_ | refine zw_last rfl (by assumption) (by omega) (by omega) ?_ | refine zw_iadd rfl (by omega) (by omega) ?_ | refine zw_isub rfl (by omega) (by omega) ?_ | refine zw_iinc rfl rfl rfl (by omega) (by omega) ?_)
        refine zw_if_ne_t rfl (by omega) ?_
        repeat (first | refine zw_t rfl rfl ?_ | refine zw_jump rfl rfl ?_ | refine zw_getI rfl rfl (by assumption) ?_ | refine zw_ialn rfl (by assumption) (by omega) ?_ | refine zw_laln rfl (by assumption) (by omega) ?_ | refine zw_iastn rfl (by omega) (by assumption) (by omega) ?_ | refine zw_lastn rfl (by assumption) (by omega) ?_ | refine zw_iald0 rfl (by assumption) (by omega) ?_ | refine zw_lald0 rfl (by assumption) (by omega) ?_ | refine zw_aaln rfl (by assumption) rfl (by omega) ?_ | refine zw_getR rfl (by assumption) (by assumption) ?_ | refine zw_alen rfl (by assumption) rfl ?_ | refine zw_iald rfl (by assumption) (by omega) (by omega) ?_ | refine zw_iast rfl (by omega) (by assumption) (by omega) (by omega) ?_ | refine zw_putI rfl (by assumption) ?_ | refine zw_lald rfl (by assumption) (by omega) (by omega) ?_ | refine zw_last rfl (by assumption) (by omega) (by omega) ?_ | refine zw_iadd rfl (by omega) (by omega) ?_ | refine zw_isub rfl (by omega) (by omega) ?_ | refine zw_iinc rfl rfl rfl (by omega) (by omega) ?_)
        refine zw_icmp_ge rfl (fun h1 => ?_) (fun h1 => ?_)
        · rw [if_neg (by omega)] at K
          repeat (first | refine zw_t rfl rfl ?_ | refine zw_jump rfl rfl ?_ | refine zw_getI rfl rfl (by assumption) ?_ | refine zw_ialn rfl (by assumption) (by omega) ?_ | refine zw_laln rfl (by assumption) (by omega) ?_ | refine zw_iastn rfl (by omega) (by assumption) (by omega) ?_ | refine zw_lastn rfl (by assumption) (by omega) ?_ | refine zw_iald0 rfl (by assumption) (by omega) ?_ | refine zw_lald0 rfl (by assumption) (by omega) ?_ | refine zw_aaln rfl (by assumption) rfl (by omega) ?_ | refine zw_getR rfl (by assumption) (by assumption) ?_ | refine zw_alen rfl (by assumption) rfl ?_ | refine zw_iald rfl (by assumption) (by omega) (by omega) ?_ | refine zw_iast rfl (by omega) (by assumption) (by omega) (by omega) ?_ | refine zw_putI rfl (by assumption) ?_ | refine zw_lald rfl (by assumption) (by omega) (by omega) ?_ | refine zw_last rfl (by assumption) (by omega) (by omega) ?_ | refine zw_iadd rfl (by omega) (by omega) ?_ | refine zw_isub rfl (by omega) (by omega) ?_ | refine zw_iinc rfl rfl rfl (by omega) (by omega) ?_)
          refine zw_icmp_le rfl (fun h2 => ?_) (fun h2 => ?_)
          · rw [if_neg (by omega)] at K
            obtain ⟨m, rfl⟩ : ∃ m : Nat, mn = (m : Int) := ⟨mn.toNat, by omega⟩
            rw [Int.toNat_natCast] at K
            repeat (first | refine zw_t rfl rfl ?_ | refine zw_jump rfl rfl ?_ | refine zw_getI rfl rfl (by assumption) ?_ | refine zw_ialn rfl (by assumption) (by omega) ?_ | refine zw_laln rfl (by assumption) (by omega) ?_ | refine zw_iastn rfl (by omega) (by assumption) (by omega) ?_ | refine zw_lastn rfl (by assumption) (by omega) ?_ | refine zw_iald0 rfl (by assumption) (by omega) ?_ | refine zw_lald0 rfl (by assumption) (by omega) ?_ | refine zw_aaln rfl (by assumption) rfl (by omega) ?_ | refine zw_getR rfl (by assumption) (by assumption) ?_ | refine zw_alen rfl (by assumption) rfl ?_ | refine zw_iald rfl (by assumption) (by omega) (by omega) ?_ | refine zw_iast rfl (by omega) (by assumption) (by omega) (by omega) ?_ | refine zw_putI rfl (by assumption) ?_ | refine zw_lald rfl (by assumption) (by omega) (by omega) ?_ | refine zw_last rfl (by assumption) (by omega) (by omega) ?_ | refine zw_iadd rfl (by omega) (by omega) ?_ | refine zw_isub rfl (by omega) (by omega) ?_ | refine zw_iinc rfl rfl rfl (by omega) (by omega) ?_)
            refine zw_callv rfl rfl rfl rfl rfl rfl (by assumption) ?_
            refine c_rises hs0 (by omega) (by omega) ?_
            rw [z_ris_cong (u := w) (b5 0 (by omega)) (m - 1) 1 (fun j _ hj => b5 j (by omega)) (by omega)]
            cases hr : z_ris w (m - 1) 1 with
            | true =>
              rw [if_pos hr] at K
              refine zw_if_eq_f rfl (by decide) ?_
              repeat (first | refine zw_t rfl rfl ?_ | refine zw_jump rfl rfl ?_ | refine zw_getI rfl rfl (by assumption) ?_ | refine zw_ialn rfl (by assumption) (by omega) ?_ | refine zw_laln rfl (by assumption) (by omega) ?_ | refine zw_iastn rfl (by omega) (by assumption) (by omega) ?_ | refine zw_lastn rfl (by assumption) (by omega) ?_ | refine zw_iald0 rfl (by assumption) (by omega) ?_ | refine zw_lald0 rfl (by assumption) (by omega) ?_ | refine zw_aaln rfl (by assumption) rfl (by omega) ?_ | refine zw_getR rfl (by assumption) (by assumption) ?_ | refine zw_alen rfl (by assumption) rfl ?_ | refine zw_iald rfl (by assumption) (by omega) (by omega) ?_ | refine zw_iast rfl (by omega) (by assumption) (by omega) (by omega) ?_ | refine zw_putI rfl (by assumption) ?_ | refine zw_lald rfl (by assumption) (by omega) (by omega) ?_ | refine zw_last rfl (by assumption) (by omega) (by omega) ?_ | refine zw_iadd rfl (by omega) (by omega) ?_ | refine zw_isub rfl (by omega) (by omega) ?_ | refine zw_iinc rfl rfl rfl (by omega) (by omega) ?_)
              exact zw_iret rfl K
            | false =>
              rw [if_neg (by rw [hr]; decide)] at K
              refine zw_if_eq_t rfl rfl ?_
              repeat (first | refine zw_t rfl rfl ?_ | refine zw_jump rfl rfl ?_ | refine zw_getI rfl rfl (by assumption) ?_ | refine zw_ialn rfl (by assumption) (by omega) ?_ | refine zw_laln rfl (by assumption) (by omega) ?_ | refine zw_iastn rfl (by omega) (by assumption) (by omega) ?_ | refine zw_lastn rfl (by assumption) (by omega) ?_ | refine zw_iald0 rfl (by assumption) (by omega) ?_ | refine zw_lald0 rfl (by assumption) (by omega) ?_ | refine zw_aaln rfl (by assumption) rfl (by omega) ?_ | refine zw_getR rfl (by assumption) (by assumption) ?_ | refine zw_alen rfl (by assumption) rfl ?_ | refine zw_iald rfl (by assumption) (by omega) (by omega) ?_ | refine zw_iast rfl (by omega) (by assumption) (by omega) (by omega) ?_ | refine zw_putI rfl (by assumption) ?_ | refine zw_lald rfl (by assumption) (by omega) (by omega) ?_ | refine zw_last rfl (by assumption) (by omega) (by omega) ?_ | refine zw_iadd rfl (by omega) (by omega) ?_ | refine zw_isub rfl (by omega) (by omega) ?_ | refine zw_iinc rfl rfl rfl (by omega) (by omega) ?_)
              exact zw_iret rfl K
          · rw [if_pos (by omega)] at K
            repeat (first | refine zw_t rfl rfl ?_ | refine zw_jump rfl rfl ?_ | refine zw_getI rfl rfl (by assumption) ?_ | refine zw_ialn rfl (by assumption) (by omega) ?_ | refine zw_laln rfl (by assumption) (by omega) ?_ | refine zw_iastn rfl (by omega) (by assumption) (by omega) ?_ | refine zw_lastn rfl (by assumption) (by omega) ?_ | refine zw_iald0 rfl (by assumption) (by omega) ?_ | refine zw_lald0 rfl (by assumption) (by omega) ?_ | refine zw_aaln rfl (by assumption) rfl (by omega) ?_ | refine zw_getR rfl (by assumption) (by assumption) ?_ | refine zw_alen rfl (by assumption) rfl ?_ | refine zw_iald rfl (by assumption) (by omega) (by omega) ?_ | refine zw_iast rfl (by omega) (by assumption) (by omega) (by omega) ?_ | refine zw_putI rfl (by assumption) ?_ | refine zw_lald rfl (by assumption) (by omega) (by omega) ?_ | refine zw_last rfl (by assumption) (by omega) (by omega) ?_ | refine zw_iadd rfl (by omega) (by omega) ?_ | refine zw_isub rfl (by omega) (by omega) ?_ | refine zw_iinc rfl rfl rfl (by omega) (by omega) ?_)
            exact zw_iret rfl K
        · rw [if_pos (by omega)] at K
          repeat (first | refine zw_t rfl rfl ?_ | refine zw_jump rfl rfl ?_ | refine zw_getI rfl rfl (by assumption) ?_ | refine zw_ialn rfl (by assumption) (by omega) ?_ | refine zw_laln rfl (by assumption) (by omega) ?_ | refine zw_iastn rfl (by omega) (by assumption) (by omega) ?_ | refine zw_lastn rfl (by assumption) (by omega) ?_ | refine zw_iald0 rfl (by assumption) (by omega) ?_ | refine zw_lald0 rfl (by assumption) (by omega) ?_ | refine zw_aaln rfl (by assumption) rfl (by omega) ?_ | refine zw_getR rfl (by assumption) (by assumption) ?_ | refine zw_alen rfl (by assumption) rfl ?_ | refine zw_iald rfl (by assumption) (by omega) (by omega) ?_ | refine zw_iast rfl (by omega) (by assumption) (by omega) (by omega) ?_ | refine zw_putI rfl (by assumption) ?_ | refine zw_lald rfl (by assumption) (by omega) (by omega) ?_ | refine zw_last rfl (by assumption) (by omega) (by omega) ?_ | refine zw_iadd rfl (by omega) (by omega) ?_ | refine zw_isub rfl (by omega) (by omega) ?_ | refine zw_iinc rfl rfl rfl (by omega) (by omega) ?_)
          exact zw_iret rfl K
    · rw [if_neg hy] at K ⊢
      refine zw_if_ne_f rfl rfl ?_
      repeat (first | refine zw_t rfl rfl ?_ | refine zw_jump rfl rfl ?_ | refine zw_getI rfl rfl (by assumption) ?_ | refine zw_ialn rfl (by assumption) (by omega) ?_ | refine zw_laln rfl (by assumption) (by omega) ?_ | refine zw_iastn rfl (by omega) (by assumption) (by omega) ?_ | refine zw_lastn rfl (by assumption) (by omega) ?_ | refine zw_iald0 rfl (by assumption) (by omega) ?_ | refine zw_lald0 rfl (by assumption) (by omega) ?_ | refine zw_aaln rfl (by assumption) rfl (by omega) ?_ | refine zw_getR rfl (by assumption) (by assumption) ?_ | refine zw_alen rfl (by assumption) rfl ?_ | refine zw_iald rfl (by assumption) (by omega) (by omega) ?_ | refine zw_iast rfl (by omega) (by assumption) (by omega) (by omega) ?_ | refine zw_putI rfl (by assumption) ?_ | refine zw_lald rfl (by assumption) (by omega) (by omega) ?_ | refine zw_last rfl (by assumption) (by omega) (by omega) ?_ | refine zw_iadd rfl (by omega) (by omega) ?_ | refine zw_isub rfl (by omega) (by omega) ?_ | refine zw_iinc rfl rfl rfl (by omega) (by omega) ?_)
      exact zw_iret rfl K
  · rw [if_neg hx] at K ⊢
    refine zw_if_ne_f rfl rfl ?_
    repeat (first | refine zw_t rfl rfl ?_ | refine zw_jump rfl rfl ?_ | refine zw_getI rfl rfl (by assumption) ?_ | refine zw_ialn rfl (by assumption) (by omega) ?_ | refine zw_laln rfl (by assumption) (by omega) ?_ | refine zw_iastn rfl (by omega) (by assumption) (by omega) ?_ | refine zw_lastn rfl (by assumption) (by omega) ?_ | refine zw_iald0 rfl (by assumption) (by omega) ?_ | refine zw_lald0 rfl (by assumption) (by omega) ?_ | refine zw_aaln rfl (by assumption) rfl (by omega) ?_ | refine zw_getR rfl (by assumption) (by assumption) ?_ | refine zw_alen rfl (by assumption) rfl ?_ | refine zw_iald rfl (by assumption) (by omega) (by omega) ?_ | refine zw_iast rfl (by omega) (by assumption) (by omega) (by omega) ?_ | refine zw_putI rfl (by assumption) ?_ | refine zw_lald rfl (by assumption) (by omega) (by omega) ?_ | refine zw_last rfl (by assumption) (by omega) (by omega) ?_ | refine zw_iadd rfl (by omega) (by omega) ?_ | refine zw_isub rfl (by omega) (by omega) ?_ | refine zw_iinc rfl rfl rfl (by omega) (by omega) ?_)
    exact zw_iret rfl K
theorem sp_rf_0 (hf : sp_rf A sh st mn = 0) : ∃ (t u m : Nat) (kd : Int) (nn : Nat) (w : Nat → Int64), st = (t : Int) ∧ t < 6 ∧ sh = (u : Int) ∧ u < 16 ∧ mn = (m : Int) ∧ 0 < m ∧ m ≤ nn ∧ A.1 t = some (kd, nn, w) ∧ z_ris w (m - 1) 1 = true := by
  unfold sp_rf at hf
  by_cases hx : 0 ≤ st ∧ st < 6
  · rw [if_pos hx] at hf
    by_cases hy : 0 ≤ sh ∧ sh < 16
    · rw [if_pos hy] at hf
      cases hz : A.1 st.toNat with
      | none => rw [hz] at hf; cases hf
      | some y =>
        obtain ⟨kd, nn, w⟩ := y
        rw [hz] at hf
        dsimp only at hf
        by_cases h1 : mn < 1
        · rw [if_pos h1] at hf; cases hf
        · rw [if_neg h1] at hf
          by_cases h2 : (nn : Int) < mn
          · rw [if_pos h2] at hf; cases hf
          · rw [if_neg h2] at hf
            by_cases h3 : z_ris w (mn.toNat - 1) 1 = true
            · exact ⟨st.toNat, sh.toNat, mn.toNat, kd, nn, w, by omega, by omega, by omega, by omega, by omega, by omega, by omega, hz, h3⟩
            · rw [if_neg h3] at hf; cases hf
    · rw [if_neg hy] at hf; cases hf
  · rw [if_neg hx] at hf; cases hf
theorem b_ruler (h : ZB A k F I L R) (K : ∀ F' I' L', ZKp F I L F' I' L' → ZB (sp_ruler A sh st mn).2 k F' I' L' R → Q (some (.inl (sp_ruler A sh st mn).1)) (k, F', I', L', R)) : ZC (d + 6) 95 [.inr (.inr (some 2)), .inl sh, .inl st, .inl mn] (k, F, I, L, R) Q := by
  have hR := h.2.2.1
  obtain ⟨⟨a1, a2, a3, a4, a5, a6, a7, a8, a9, a10, a11, a12, a13, a14⟩, _, _, _, hs, hsh, _⟩ := h.2.1
  refine ze_B_ruler ?_
  repeat (first | refine zw_t rfl rfl ?_ | refine zw_jump rfl rfl ?_ | refine zw_getI rfl rfl (by assumption) ?_ | refine zw_ialn rfl (by assumption) (by omega) ?_ | refine zw_laln rfl (by assumption) (by omega) ?_ | refine zw_iastn rfl (by omega) (by assumption) (by omega) ?_ | refine zw_lastn rfl (by assumption) (by omega) ?_ | refine zw_iald0 rfl (by assumption) (by omega) ?_ | refine zw_lald0 rfl (by assumption) (by omega) ?_ | refine zw_aaln rfl (by assumption) rfl (by omega) ?_ | refine zw_getR rfl (by assumption) (by assumption) ?_ | refine zw_alen rfl (by assumption) rfl ?_ | refine zw_iald rfl (by assumption) (by omega) (by omega) ?_ | refine zw_iast rfl (by omega) (by assumption) (by omega) (by omega) ?_ | refine zw_putI rfl (by assumption) ?_ | refine zw_lald rfl (by assumption) (by omega) (by omega) ?_ | refine zw_last rfl (by assumption) (by omega) (by omega) ?_ | refine zw_iadd rfl (by omega) (by omega) ?_ | refine zw_isub rfl (by omega) (by omega) ?_ | refine zw_iinc rfl rfl rfl (by omega) (by omega) ?_)
  refine zw_callv rfl rfl rfl rfl rfl rfl (by assumption) ?_
  refine c_rulerFault h ?_
  unfold sp_ruler at K
  by_cases hf : sp_rf A sh st mn = 0
  · rw [if_pos hf] at K
    rw [hf]
    obtain ⟨t, u, m, kd, nn, w, rfl, ht, rfl, hu, rfl, hm0, hmn, hz, hris⟩ := sp_rf_0 hf
    rw [Int.toNat_natCast, Int.toNat_natCast, Int.toNat_natCast, hz] at K
    dsimp only at K
    have a := h.1.1 t ht
    rw [hz] at a
    obtain ⟨b1, b2, b3, b4, b5⟩ := a
    have hs0 := hs t ht
    obtain ⟨s1, s2, s3, s4⟩ := hs t ht
    have hru0 := hsh u hu
    obtain ⟨u1, u2, u3, u4⟩ := hsh u hu
    have hu4 := hR.2 u hu
    have ht3 := hR.1 t ht
    have hrow := z_mk_row hm0 (by omega) hris
    have hmk : ∀ j, j < m → z_mk (L (22 + 2 * t + 1)) j = z_mk w j := fun j hj => by unfold z_mk; rw [b5 j (by omega), b5 0 (by omega)]
    refine zw_callv rfl rfl rfl rfl rfl rfl (by assumption) ?_
    refine c_passes a1 ?_
    rw [if_pos rfl]
    refine zw_if_ne_t rfl (by decide) ?_
    have l := z_refused h 0
    obtain ⟨F0, hF0⟩ : ∃ F0, F0 = z_u2 F 2 11 0 := ⟨_, rfl⟩
    rw [← hF0] at l ⊢
    repeat (first | refine zw_t rfl rfl ?_ | refine zw_jump rfl rfl ?_ | refine zw_getI rfl rfl (by assumption) ?_ | refine zw_ialn rfl (by assumption) (by omega) ?_ | refine zw_laln rfl (by assumption) (by omega) ?_ | refine zw_iastn rfl (by omega) (by assumption) (by omega) ?_ | refine zw_lastn rfl (by assumption) (by omega) ?_ | refine zw_iald0 rfl (by assumption) (by omega) ?_ | refine zw_lald0 rfl (by assumption) (by omega) ?_ | refine zw_aaln rfl (by assumption) rfl (by omega) ?_ | refine zw_getR rfl (by assumption) (by assumption) ?_ | refine zw_alen rfl (by assumption) rfl ?_ | refine zw_iald rfl (by assumption) (by omega) (by omega) ?_ | refine zw_iast rfl (by omega) (by assumption) (by omega) (by omega) ?_ | refine zw_putI rfl (by assumption) ?_ | refine zw_lald rfl (by assumption) (by omega) (by omega) ?_ | refine zw_last rfl (by assumption) (by omega) (by omega) ?_ | refine zw_iadd rfl (by omega) (by omega) ?_ | refine zw_isub rfl (by omega) (by omega) ?_ | refine zw_iinc rfl rfl rfl (by omega) (by omega) ?_)
    rw [hu4]
    repeat (first | refine zw_t rfl rfl ?_ | refine zw_jump rfl rfl ?_ | refine zw_getI rfl rfl (by assumption) ?_ | refine zw_ialn rfl (by assumption) (by omega) ?_ | refine zw_laln rfl (by assumption) (by omega) ?_ | refine zw_iastn rfl (by omega) (by assumption) (by omega) ?_ | refine zw_lastn rfl (by assumption) (by omega) ?_ | refine zw_iald0 rfl (by assumption) (by omega) ?_ | refine zw_lald0 rfl (by assumption) (by omega) ?_ | refine zw_aaln rfl (by assumption) rfl (by omega) ?_ | refine zw_getR rfl (by assumption) (by assumption) ?_ | refine zw_alen rfl (by assumption) rfl ?_ | refine zw_iald rfl (by assumption) (by omega) (by omega) ?_ | refine zw_iast rfl (by omega) (by assumption) (by omega) (by omega) ?_ | refine zw_putI rfl (by assumption) ?_ | refine zw_lald rfl (by assumption) (by omega) (by omega) ?_ | refine zw_last rfl (by assumption) (by omega) (by omega) ?_ | refine zw_iadd rfl (by omega) (by omega) ?_ | refine zw_isub rfl (by omega) (by omega) ?_ | refine zw_iinc rfl rfl rfl (by omega) (by omega) ?_)
    refine zw_callv rfl rfl rfl rfl rfl rfl (by assumption) ?_
    refine c_begin hru0 ?_
    have loop : ∀ (n i : Nat) (F' I' : Nat → Nat → Int), n + i = m → (∀ a, a ≠ 34 + 2 * u → F' a = F0 a) → (∀ a, a ≠ 34 + 2 * u + 1 → I' a = I a) → F' (34 + 2 * u) 1 = (i : Int) → F' (34 + 2 * u) 2 = 0 → ZAgr (z_bld (z_mk w) (I' (34 + 2 * u + 1)) i n) (z_mk w) m → ZW (d + 5) 95 33 [some (.inr (.inr (some 2))), some (.inl (u : Int)), some (.inl (t : Int)), some (.inl (m : Int)), some (.inr (.inr (some (34 + 2 * u)))), some (.inl (i : Int))] [] (k, F', I', L, R) Q := by
      intro n
      induction n with
      | zero =>
        intro i F' I' hi q1 q2 q3 q4 q5
        obtain rfl : i = m := by omega
        unfold z_bld at q5
        have l3 := ZB.put (F' := F') (I' := I') (c := i) (rd := 0) (v := z_mk w) l.2 hu q1 q2 q3 q4 hrow q5
        repeat (first | refine zw_t rfl rfl ?_ | refine zw_jump rfl rfl ?_ | refine zw_getI rfl rfl (by assumption) ?_ | refine zw_ialn rfl (by assumption) (by omega) ?_ | refine zw_laln rfl (by assumption) (by omega) ?_ | refine zw_iastn rfl (by omega) (by assumption) (by omega) ?_ | refine zw_lastn rfl (by assumption) (by omega) ?_ | refine zw_iald0 rfl (by assumption) (by omega) ?_ | refine zw_lald0 rfl (by assumption) (by omega) ?_ | refine zw_aaln rfl (by assumption) rfl (by omega) ?_ | refine zw_getR rfl (by assumption) (by assumption) ?_ | refine zw_alen rfl (by assumption) rfl ?_ | refine zw_iald rfl (by assumption) (by omega) (by omega) ?_ | refine zw_iast rfl (by omega) (by assumption) (by omega) (by omega) ?_ | refine zw_putI rfl (by assumption) ?_ | refine zw_lald rfl (by assumption) (by omega) (by omega) ?_ | refine zw_last rfl (by assumption) (by omega) (by omega) ?_ | refine zw_iadd rfl (by omega) (by omega) ?_ | refine zw_isub rfl (by omega) (by omega) ?_ | refine zw_iinc rfl rfl rfl (by omega) (by omega) ?_)
        refine zw_icmp_ge_t rfl (by omega) ?_
        repeat (first | refine zw_t rfl rfl ?_ | refine zw_jump rfl rfl ?_ | refine zw_getI rfl rfl (by assumption) ?_ | refine zw_ialn rfl (by assumption) (by omega) ?_ | refine zw_laln rfl (by assumption) (by omega) ?_ | refine zw_iastn rfl (by omega) (by assumption) (by omega) ?_ | refine zw_lastn rfl (by assumption) (by omega) ?_ | refine zw_iald0 rfl (by assumption) (by omega) ?_ | refine zw_lald0 rfl (by assumption) (by omega) ?_ | refine zw_aaln rfl (by assumption) rfl (by omega) ?_ | refine zw_getR rfl (by assumption) (by assumption) ?_ | refine zw_alen rfl (by assumption) rfl ?_ | refine zw_iald rfl (by assumption) (by omega) (by omega) ?_ | refine zw_iast rfl (by omega) (by assumption) (by omega) (by omega) ?_ | refine zw_putI rfl (by assumption) ?_ | refine zw_lald rfl (by assumption) (by omega) (by omega) ?_ | refine zw_last rfl (by assumption) (by omega) (by omega) ?_ | refine zw_iadd rfl (by omega) (by omega) ?_ | refine zw_isub rfl (by omega) (by omega) ?_ | refine zw_iinc rfl rfl rfl (by omega) (by omega) ?_)
        refine zw_callv rfl rfl rfl rfl rfl rfl (by assumption) ?_
        refine c_kindOf (v := I' (34 + 2 * u + 1)) h.2.1 hru0 (by omega) q3 q4 rfl (hrow.agr q5) l3.2.2.2.2.1 (fun top tt htb => ?_)
        rw [z_knd_cong q5]
        have l4 := ZB.lens l3.2 top tt htb
        exact zw_iret rfl (K _ _ _ ((l.1.trans l3.1).trans l4.1) l4.2)
      | succ n ih =>
        intro i F' I' hi q1 q2 q3 q4 q5
        repeat (first | refine zw_t rfl rfl ?_ | refine zw_jump rfl rfl ?_ | refine zw_getI rfl rfl (by assumption) ?_ | refine zw_ialn rfl (by assumption) (by omega) ?_ | refine zw_laln rfl (by assumption) (by omega) ?_ | refine zw_iastn rfl (by omega) (by assumption) (by omega) ?_ | refine zw_lastn rfl (by assumption) (by omega) ?_ | refine zw_iald0 rfl (by assumption) (by omega) ?_ | refine zw_lald0 rfl (by assumption) (by omega) ?_ | refine zw_aaln rfl (by assumption) rfl (by omega) ?_ | refine zw_getR rfl (by assumption) (by assumption) ?_ | refine zw_alen rfl (by assumption) rfl ?_ | refine zw_iald rfl (by assumption) (by omega) (by omega) ?_ | refine zw_iast rfl (by omega) (by assumption) (by omega) (by omega) ?_ | refine zw_putI rfl (by assumption) ?_ | refine zw_lald rfl (by assumption) (by omega) (by omega) ?_ | refine zw_last rfl (by assumption) (by omega) (by omega) ?_ | refine zw_iadd rfl (by omega) (by omega) ?_ | refine zw_isub rfl (by omega) (by omega) ?_ | refine zw_iinc rfl rfl rfl (by omega) (by omega) ?_)
        refine zw_icmp_ge_f rfl (by omega) ?_
        repeat (first | refine zw_t rfl rfl ?_ | refine zw_jump rfl rfl ?_ | refine zw_getI rfl rfl (by assumption) ?_ | refine zw_ialn rfl (by assumption) (by omega) ?_ | refine zw_laln rfl (by assumption) (by omega) ?_ | refine zw_iastn rfl (by omega) (by assumption) (by omega) ?_ | refine zw_lastn rfl (by assumption) (by omega) ?_ | refine zw_iald0 rfl (by assumption) (by omega) ?_ | refine zw_lald0 rfl (by assumption) (by omega) ?_ | refine zw_aaln rfl (by assumption) rfl (by omega) ?_ | refine zw_getR rfl (by assumption) (by assumption) ?_ | refine zw_alen rfl (by assumption) rfl ?_ | refine zw_iald rfl (by assumption) (by omega) (by omega) ?_ | refine zw_iast rfl (by omega) (by assumption) (by omega) (by omega) ?_ | refine zw_putI rfl (by assumption) ?_ | refine zw_lald rfl (by assumption) (by omega) (by omega) ?_ | refine zw_last rfl (by assumption) (by omega) (by omega) ?_ | refine zw_iadd rfl (by omega) (by omega) ?_ | refine zw_isub rfl (by omega) (by omega) ?_ | refine zw_iinc rfl rfl rfl (by omega) (by omega) ?_)
        rw [ht3]
        repeat (first | refine zw_t rfl rfl ?_ | refine zw_jump rfl rfl ?_ | refine zw_getI rfl rfl (by assumption) ?_ | refine zw_ialn rfl (by assumption) (by omega) ?_ | refine zw_laln rfl (by assumption) (by omega) ?_ | refine zw_iastn rfl (by omega) (by assumption) (by omega) ?_ | refine zw_lastn rfl (by assumption) (by omega) ?_ | refine zw_iald0 rfl (by assumption) (by omega) ?_ | refine zw_lald0 rfl (by assumption) (by omega) ?_ | refine zw_aaln rfl (by assumption) rfl (by omega) ?_ | refine zw_getR rfl (by assumption) (by assumption) ?_ | refine zw_alen rfl (by assumption) rfl ?_ | refine zw_iald rfl (by assumption) (by omega) (by omega) ?_ | refine zw_iast rfl (by omega) (by assumption) (by omega) (by omega) ?_ | refine zw_putI rfl (by assumption) ?_ | refine zw_lald rfl (by assumption) (by omega) (by omega) ?_ | refine zw_last rfl (by assumption) (by omega) (by omega) ?_ | refine zw_iadd rfl (by omega) (by omega) ?_ | refine zw_isub rfl (by omega) (by omega) ?_ | refine zw_iinc rfl rfl rfl (by omega) (by omega) ?_)
        refine zw_callv rfl rfl rfl rfl rfl rfl (by assumption) ?_
        refine c_markAt hs0 (by omega) ?_
        rw [hmk i (by omega)]
        refine zw_callv rfl rfl rfl rfl rfl rfl (by assumption) ?_
        refine c_insert hru0 q3 (by omega) ?_
        repeat (first | refine zw_t rfl rfl ?_ | refine zw_jump rfl rfl ?_ | refine zw_getI rfl rfl (by assumption) ?_ | refine zw_ialn rfl (by assumption) (by omega) ?_ | refine zw_laln rfl (by assumption) (by omega) ?_ | refine zw_iastn rfl (by omega) (by assumption) (by omega) ?_ | refine zw_lastn rfl (by assumption) (by omega) ?_ | refine zw_iald0 rfl (by assumption) (by omega) ?_ | refine zw_lald0 rfl (by assumption) (by omega) ?_ | refine zw_aaln rfl (by assumption) rfl (by omega) ?_ | refine zw_getR rfl (by assumption) (by assumption) ?_ | refine zw_alen rfl (by assumption) rfl ?_ | refine zw_iald rfl (by assumption) (by omega) (by omega) ?_ | refine zw_iast rfl (by omega) (by assumption) (by omega) (by omega) ?_ | refine zw_putI rfl (by assumption) ?_ | refine zw_lald rfl (by assumption) (by omega) (by omega) ?_ | refine zw_last rfl (by assumption) (by omega) (by omega) ?_ | refine zw_iadd rfl (by omega) (by omega) ?_ | refine zw_isub rfl (by omega) (by omega) ?_ | refine zw_iinc rfl rfl rfl (by omega) (by omega) ?_)
        refine zw_goto rfl ?_
        refine ih (i + 1) _ _ (by omega) (fun a ha => by rw [z_u2_ad _ _ _ ha]; exact q1 a ha) (fun a ha => by rw [z_up_ne _ _ ha]; exact q2 a ha) (by rw [z_u2_same]; rfl) (by rw [z_u2_nk _ _ _ _ (by omega)]; exact q4) ?_
        rw [z_up_same]
        unfold z_bld at q5
        exact q5
    repeat (refine zw_ne 33 rfl ?_; first | refine zw_t rfl rfl ?_ | refine zw_jump rfl rfl ?_ | refine zw_getI rfl rfl (by assumption) ?_ | refine zw_ialn rfl (by assumption) (by omega) ?_ | refine zw_laln rfl (by assumption) (by omega) ?_ | refine zw_iastn rfl (by omega) (by assumption) (by omega) ?_ | refine zw_lastn rfl (by assumption) (by omega) ?_ | refine zw_iald0 rfl (by assumption) (by omega) ?_ | refine zw_lald0 rfl (by assumption) (by omega) ?_ | refine zw_aaln rfl (by assumption) rfl (by omega) ?_ | refine zw_getR rfl (by assumption) (by assumption) ?_ | refine zw_alen rfl (by assumption) rfl ?_ | refine zw_iald rfl (by assumption) (by omega) (by omega) ?_ | refine zw_iast rfl (by omega) (by assumption) (by omega) (by omega) ?_ | refine zw_putI rfl (by assumption) ?_ | refine zw_lald rfl (by assumption) (by omega) (by omega) ?_ | refine zw_last rfl (by assumption) (by omega) (by omega) ?_ | refine zw_iadd rfl (by omega) (by omega) ?_ | refine zw_isub rfl (by omega) (by omega) ?_ | refine zw_iinc rfl rfl rfl (by omega) (by omega) ?_)
    refine loop m 0 _ _ (by omega) (fun a ha => by rw [z_u2_ad _ _ _ ha, z_u2_ad _ _ _ ha]) (fun a _ => rfl) (by rw [z_u2_nk _ _ _ _ (by omega), z_u2_same]; rfl) (z_u2_same _ _ _ _) (z_bld_rise hrow.2.1)
  · rw [if_neg hf] at K
    refine zw_callv rfl rfl rfl rfl rfl rfl (by assumption) ?_
    refine c_passes a1 ?_
    rw [if_neg hf]
    refine zw_if_ne_f rfl rfl ?_
    repeat (first | refine zw_t rfl rfl ?_ | refine zw_jump rfl rfl ?_ | refine zw_getI rfl rfl (by assumption) ?_ | refine zw_ialn rfl (by assumption) (by omega) ?_ | refine zw_laln rfl (by assumption) (by omega) ?_ | refine zw_iastn rfl (by omega) (by assumption) (by omega) ?_ | refine zw_lastn rfl (by assumption) (by omega) ?_ | refine zw_iald0 rfl (by assumption) (by omega) ?_ | refine zw_lald0 rfl (by assumption) (by omega) ?_ | refine zw_aaln rfl (by assumption) rfl (by omega) ?_ | refine zw_getR rfl (by assumption) (by assumption) ?_ | refine zw_alen rfl (by assumption) rfl ?_ | refine zw_iald rfl (by assumption) (by omega) (by omega) ?_ | refine zw_iast rfl (by omega) (by assumption) (by omega) (by omega) ?_ | refine zw_putI rfl (by assumption) ?_ | refine zw_lald rfl (by assumption) (by omega) (by omega) ?_ | refine zw_last rfl (by assumption) (by omega) (by omega) ?_ | refine zw_iadd rfl (by omega) (by omega) ?_ | refine zw_isub rfl (by omega) (by omega) ?_ | refine zw_iinc rfl rfl rfl (by omega) (by omega) ?_)
    exact zw_iret rfl (K _ _ _ (z_refused h _).1 (z_refused h _).2)
end ZBench12
