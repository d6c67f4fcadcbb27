/-! THE REFERENCE: gang -/
theorem z_lm_mr : ∀ (t : List Nat) (mask last c : Nat) (w w' : Nat → Int), ZMR mask w c → mask < 2 ^ (last + 1) → z_rsn t last = true → (∀ j, j < c → w' j = w j) → (∀ j, j < t.length → w' (c + j) = (t.getD j 0 : Int)) → ZMR (z_lm t mask) w' (c + t.length)
  | [], mask, last, c, w, w', h, _, _, h1, _ => h.cong (fun j hj => (h1 j hj).symm)
  | x :: t, mask, last, c, w, w', h, hm, hr, h1, h2 => by
    have hr : (Nat.blt last x && z_rsn t x) = true := hr
    rw [Bool.and_eq_true] at hr
    have hx : last < x := Nat.le_of_ble_eq_true hr.1
    have q := z_lm_mr t (mask ||| 1 <<< x) x (c + 1) (z_up w c (x : Int)) w' (h.snoc hm hx) (z_or_lt (z_up_lt hm (by omega)) (z_one_lt (by omega))) hr.2 (fun j hj => by
      by_cases hjc : j = c
      · rw [hjc, z_up_same]
        exact h2 0 (by simp)
      · rw [z_up_ne _ _ hjc]; exact h1 j (by omega)) (fun j hj => by
      rw [show c + 1 + j = c + (j + 1) by omega, h2 (j + 1) (by simp; omega)]
      rfl)
    rw [show c + 1 + t.length = c + (x :: t).length by simp; omega] at q
    exact q
theorem z_ggw_facts {r m : Nat} (hr : 1 ≤ r ∧ r ≤ 3) (hm : 2 ≤ m ∧ m ≤ 4) (hrm : ¬ (r = 3 ∧ m = 4)) : (∀ n, r * m * (m - 1) / 2 ≤ n → n < z_gln r m → z_ggw m n (r * (m + 1)) 0 [] 0 = none) ∧ r * m * (m - 1) / 2 ≤ z_gln r m ∧ z_gln r m ≤ 13 ∧ ∃ l, z_ggw m (z_gln r m) (r * (m + 1)) 0 [] 0 = some l ∧ l.length = r * m ∧ ∀ i, i < r → ∀ v : Nat → Int, (∀ j, j < m → v j = (l.getD (m * i + j) 0 : Int)) → ZMR ((z_ggb r m).getD i 0) v m := by
  have e := z_al_iff 3 2 (z_al_iff 3 1 z_ggw_ev r (by omega) (by omega)) m (by omega) (by omega)
  rw [Bool.or_eq_true, Bool.and_eq_true, z_beq_iff, z_beq_iff] at e
  have e : z_gwk r m = true := e.resolve_left hrm
  unfold z_gwk at e
  rw [Bool.and_eq_true, Bool.and_eq_true, Bool.and_eq_true] at e
  obtain ⟨⟨⟨e1, e2⟩, e3⟩, e4⟩ := e
  refine ⟨fun n h1 h2 => ?_, Nat.le_of_ble_eq_true e2, Nat.le_of_ble_eq_true e3, ?_⟩
  · have q := z_al_iff _ _ e1 n h1 (by omega)
    cases h : z_ggw m n (r * (m + 1)) 0 [] 0 with
    | none => rfl
    | some c => rw [h] at q; cases q
  · cases h : z_ggw m (z_gln r m) (r * (m + 1)) 0 [] 0 with
    | none => rw [h] at e4; cases e4
    | some l =>
      rw [h] at e4
      have e4 : z_gok r m l = true := e4
      unfold z_gok at e4
      rw [Bool.and_eq_true, z_beq_iff] at e4
      refine ⟨l, rfl, e4.1, fun i hi v hv => ?_⟩
      have q := z_al_iff _ _ e4.2 i (by omega) (by omega)
      have hprt : ∀ j, j < m → (z_prt l (m * i) m).getD j 0 = l.getD (m * i + j) 0 := fun j hj => by
        unfold z_prt
        rw [List.getD_eq_getElem?_getD, List.getD_eq_getElem?_getD, List.getElem?_take_of_lt hj, List.getElem?_drop]
      cases hp : z_prt l (m * i) m with
      | nil => rw [hp] at q; cases q
      | cons x t =>
        rw [hp] at q hprt
        cases x with
        | succ x => cases q
        | zero =>
          have q : (z_rsn t 0 && Nat.beq t.length (m - 1) && Nat.beq (z_lm t 1) ((z_ggb r m).getD i 0)) = true := q
          rw [Bool.and_eq_true, Bool.and_eq_true, z_beq_iff, z_beq_iff] at q
          obtain ⟨⟨q1, q2⟩, q3⟩ := q
          have w := z_lm_mr t 1 0 1 (fun _ => 0) v ZMR.one (by decide) q1 (fun j hj => by
            rw [hv j (by omega), ← hprt j (by omega), show j = 0 by omega]; rfl) (fun j hj => by
            rw [hv (1 + j) (by omega), ← hprt (1 + j) (by omega), show 1 + j = j + 1 by omega]; rfl)
          rw [q3, q2, show 1 + (m - 1) = m by omega] at w
          exact w
section ZRef24
variable {d : Nat} {A : ZA} {k : ZK} {F I F1 I1 F2 I2 : Nat → Nat → Int} {L : Nat → Nat → Int64} {R : Nat → Nat → Option Nat} {Q : Option ZV → ZH → Prop} {x to r m i : Int}
theorem m_gang (hk : ZMk k) (h : ZMA A F I L) (K : ∀ F' I' L', ZMf F I L F' I' L' → ZMA (sp_gang A r m i to).2 F' I' L' → Q (some (.inl (sp_gang A r m i to).1)) (k, F', I', L', R)) : ZC (d + 30) 215 [.inr (.inr (some 79)), .inl r, .inl m, .inl i, .inl to] (k, F, I, L, R) Q := by
  have hk0 := hk
  obtain ⟨⟨hT, g1, g2, g3, g4, g5, g6, g7⟩, ⟨g10, g11, g12, g13, g20, g22, g25, g26⟩, ⟨t80, t81, t82, t83, t84, t85, t86⟩, ⟨t87, t88, t89, t90, t91, t92, t93, t94⟩⟩ := hk
  unfold sp_gang at K
  refine ze_M_gang ?_
  repeat (first | refine zw_t rfl rfl ?_ | refine zw_jump rfl rfl ?_ | refine zw_getI rfl rfl (by assumption) ?_ | refine zw_ialn rfl (by assumption) (by omega) ?_ | refine zw_laln rfl (by assumption) (by omega) ?_ | refine zw_iastn rfl (by omega) (by assumption) (by omega) ?_ | refine zw_lastn rfl (by assumption) (by omega) ?_ | refine zw_iald0 rfl (by assumption) (by omega) ?_ | refine zw_lald0 rfl (by assumption) (by omega) ?_ | refine zw_aaln rfl (by assumption) rfl (by omega) ?_ | refine zw_getR rfl (by assumption) (by assumption) ?_ | refine zw_alen rfl (by assumption) rfl ?_ | refine zw_iald rfl (by assumption) (by omega) (by omega) ?_ | refine zw_iast rfl (by omega) (by assumption) (by omega) (by omega) ?_ | refine zw_putI rfl (by assumption) ?_ | refine zw_lald rfl (by assumption) (by omega) (by omega) ?_ | refine zw_last rfl (by assumption) (by omega) (by omega) ?_ | refine zw_iadd rfl (by omega) (by omega) ?_ | refine zw_isub rfl (by omega) (by omega) ?_ | refine zw_iinc rfl rfl rfl (by omega) (by omega) ?_ | refine zw_imul rfl (by omega) (by omega) ?_)
  refine zw_calls rfl rfl rfl rfl rfl rfl ?_
  refine c_misShelf ?_
  by_cases hx : 0 ≤ to ∧ to < 16
  · rw [if_pos hx] at K ⊢
    refine zw_if_ne_t rfl (by decide) ?_
    have five : ¬ ((1 ≤ r ∧ r ≤ 3 ∧ 2 ≤ m ∧ m ≤ 4 ∧ ¬ (r = 3 ∧ m = 4)) ∧ 0 ≤ i ∧ i < r) → ZW (d + 29) 215 53 [some (.inr (.inr (some 79))), some (.inl r), some (.inl m), some (.inl i), some (.inl to), none] [] (k, F, I, L, R) Q := by
      intro hb
      rw [if_neg hb] at K
      repeat (first | refine zw_t rfl rfl ?_ | refine zw_jump rfl rfl ?_ | refine zw_getI rfl rfl (by assumption) ?_ | refine zw_ialn rfl (by assumption) (by omega) ?_ | refine zw_laln rfl (by assumption) (by omega) ?_ | refine zw_iastn rfl (by omega) (by assumption) (by omega) ?_ | refine zw_lastn rfl (by assumption) (by omega) ?_ | refine zw_iald0 rfl (by assumption) (by omega) ?_ | refine zw_lald0 rfl (by assumption) (by omega) ?_ | refine zw_aaln rfl (by assumption) rfl (by omega) ?_ | refine zw_getR rfl (by assumption) (by assumption) ?_ | refine zw_alen rfl (by assumption) rfl ?_ | refine zw_iald rfl (by assumption) (by omega) (by omega) ?_ | refine zw_iast rfl (by omega) (by assumption) (by omega) (by omega) ?_ | refine zw_putI rfl (by assumption) ?_ | refine zw_lald rfl (by assumption) (by omega) (by omega) ?_ | refine zw_last rfl (by assumption) (by omega) (by omega) ?_ | refine zw_iadd rfl (by omega) (by omega) ?_ | refine zw_isub rfl (by omega) (by omega) ?_ | refine zw_iinc rfl rfl rfl (by omega) (by omega) ?_ | refine zw_imul rfl (by omega) (by omega) ?_)
      refine zw_callv rfl rfl rfl rfl rfl rfl (by assumption) ?_
      refine c_mnone hT ?_
      exact zw_iret rfl (K _ _ _ (z_mref h 5).1 (z_mref h 5).2)
    have go : 1 ≤ r ∧ r ≤ 3 ∧ 2 ≤ m ∧ m ≤ 4 ∧ ¬ (r = 3 ∧ m = 4) → ZW (d + 29) 215 44 [some (.inr (.inr (some 79))), some (.inl r), some (.inl m), some (.inl i), some (.inl to), none] [] (k, F, I, L, R) Q := by
      intro hrm
      repeat (first | refine zw_t rfl rfl ?_ | refine zw_jump rfl rfl ?_ | refine zw_getI rfl rfl (by assumption) ?_ | refine zw_ialn rfl (by assumption) (by omega) ?_ | refine zw_laln rfl (by assumption) (by omega) ?_ | refine zw_iastn rfl (by omega) (by assumption) (by omega) ?_ | refine zw_lastn rfl (by assumption) (by omega) ?_ | refine zw_iald0 rfl (by assumption) (by omega) ?_ | refine zw_lald0 rfl (by assumption) (by omega) ?_ | refine zw_aaln rfl (by assumption) rfl (by omega) ?_ | refine zw_getR rfl (by assumption) (by assumption) ?_ | refine zw_alen rfl (by assumption) rfl ?_ | refine zw_iald rfl (by assumption) (by omega) (by omega) ?_ | refine zw_iast rfl (by omega) (by assumption) (by omega) (by omega) ?_ | refine zw_putI rfl (by assumption) ?_ | refine zw_lald rfl (by assumption) (by omega) (by omega) ?_ | refine zw_last rfl (by assumption) (by omega) (by omega) ?_ | refine zw_iadd rfl (by omega) (by omega) ?_ | refine zw_isub rfl (by omega) (by omega) ?_ | refine zw_iinc rfl rfl rfl (by omega) (by omega) ?_ | refine zw_imul rfl (by omega) (by omega) ?_)
      refine zw_if_lt rfl (fun h1 => five (by omega)) (fun h1 => ?_)
      repeat (first | refine zw_t rfl rfl ?_ | refine zw_jump rfl rfl ?_ | refine zw_getI rfl rfl (by assumption) ?_ | refine zw_ialn rfl (by assumption) (by omega) ?_ | refine zw_laln rfl (by assumption) (by omega) ?_ | refine zw_iastn rfl (by omega) (by assumption) (by omega) ?_ | refine zw_lastn rfl (by assumption) (by omega) ?_ | refine zw_iald0 rfl (by assumption) (by omega) ?_ | refine zw_lald0 rfl (by assumption) (by omega) ?_ | refine zw_aaln rfl (by assumption) rfl (by omega) ?_ | refine zw_getR rfl (by assumption) (by assumption) ?_ | refine zw_alen rfl (by assumption) rfl ?_ | refine zw_iald rfl (by assumption) (by omega) (by omega) ?_ | refine zw_iast rfl (by omega) (by assumption) (by omega) (by omega) ?_ | refine zw_putI rfl (by assumption) ?_ | refine zw_lald rfl (by assumption) (by omega) (by omega) ?_ | refine zw_last rfl (by assumption) (by omega) (by omega) ?_ | refine zw_iadd rfl (by omega) (by omega) ?_ | refine zw_isub rfl (by omega) (by omega) ?_ | refine zw_iinc rfl rfl rfl (by omega) (by omega) ?_ | refine zw_imul rfl (by omega) (by omega) ?_)
      refine zw_icmp_lt rfl (fun h2 => ?_) (fun h2 => five (by omega))
      rw [if_pos ⟨hrm, h1, h2⟩] at K
      obtain ⟨p, rfl⟩ : ∃ p : Nat, r = (p : Int) := ⟨r.toNat, by omega⟩
      obtain ⟨u, rfl⟩ : ∃ u : Nat, m = (u : Int) := ⟨m.toNat, by omega⟩
      obtain ⟨j, rfl⟩ : ∃ j : Nat, i = (j : Int) := ⟨i.toNat, by omega⟩
      obtain ⟨t, rfl⟩ : ∃ t : Nat, to = (t : Int) := ⟨to.toNat, by omega⟩
      rw [Int.toNat_natCast, Int.toNat_natCast, Int.toNat_natCast, Int.toNat_natCast] at K
      have hp : 1 ≤ p ∧ p ≤ 3 := by omega
      have hu : 2 ≤ u ∧ u ≤ 4 := by omega
      have hpu : ¬ (p = 3 ∧ u = 4) := by omega
      obtain ⟨e8, e9⟩ := z_gg_mem hp hu hpu
      obtain ⟨w1, w2, w3, l, w4, w5, w6⟩ := z_ggw_facts hp hu hpu
      have hjl : j < (z_ggb p u).length := by omega
      have hgr := e9 ((z_ggb p u).getD j 0) (by rw [List.getD_eq_getElem?_getD, List.getElem?_eq_getElem hjl]; exact List.getElem_mem hjl)
      obtain ⟨y1, y2⟩ := hgr.row (by omega)
      rw [y1] at K
      obtain ⟨q, hq⟩ : ∃ q, q = p * u := ⟨_, rfl⟩
      obtain ⟨qq, hqq⟩ : ∃ qq, qq = p * u * (u - 1) := ⟨_, rfl⟩
      have hq9 : u * p ≤ 9 := by
        have c1 : p = 1 ∨ p = 2 ∨ p = 3 := by omega
        have c2 : u = 2 ∨ u = 3 ∨ u = 4 := by omega
        rcases c1 with rfl | rfl | rfl <;> rcases c2 with rfl | rfl | rfl <;> omega
      have hqp : u * p = q := by rw [hq, Nat.mul_comm]
      have hqq2 : qq ≤ 9 * 3 := by rw [hqq, ← hq]; exact Nat.mul_le_mul (by omega) (by omega)
      have eq1 : (p : Int) * (u : Int) = (q : Int) := by rw [hq, Int.natCast_mul]
      have eq2 : (q : Int) * ((u : Int) - 1) = (qq : Int) := by rw [hqq, ← hq, Int.natCast_mul, Int.natCast_sub (by omega)]; rfl
      rw [← hqq] at w1 w2
      repeat (first | refine zw_t rfl rfl ?_ | refine zw_jump rfl rfl ?_ | refine zw_getI rfl rfl (by assumption) ?_ | refine zw_ialn rfl (by assumption) (by omega) ?_ | refine zw_laln rfl (by assumption) (by omega) ?_ | refine zw_iastn rfl (by omega) (by assumption) (by omega) ?_ | refine zw_lastn rfl (by assumption) (by omega) ?_ | refine zw_iald0 rfl (by assumption) (by omega) ?_ | refine zw_lald0 rfl (by assumption) (by omega) ?_ | refine zw_aaln rfl (by assumption) rfl (by omega) ?_ | refine zw_getR rfl (by assumption) (by assumption) ?_ | refine zw_alen rfl (by assumption) rfl ?_ | refine zw_iald rfl (by assumption) (by omega) (by omega) ?_ | refine zw_iast rfl (by omega) (by assumption) (by omega) (by omega) ?_ | refine zw_putI rfl (by assumption) ?_ | refine zw_lald rfl (by assumption) (by omega) (by omega) ?_ | refine zw_last rfl (by assumption) (by omega) (by omega) ?_ | refine zw_iadd rfl (by omega) (by omega) ?_ | refine zw_isub rfl (by omega) (by omega) ?_ | refine zw_iinc rfl rfl rfl (by omega) (by omega) ?_ | refine zw_imul rfl (by omega) (by omega) ?_)
      rw [eq1]
      refine zw_imul rfl (by rw [eq2]; omega) (by rw [eq2]; omega) ?_
      rw [eq2]
      repeat (first | refine zw_t rfl rfl ?_ | refine zw_jump rfl rfl ?_ | refine zw_getI rfl rfl (by assumption) ?_ | refine zw_ialn rfl (by assumption) (by omega) ?_ | refine zw_laln rfl (by assumption) (by omega) ?_ | refine zw_iastn rfl (by omega) (by assumption) (by omega) ?_ | refine zw_lastn rfl (by assumption) (by omega) ?_ | refine zw_iald0 rfl (by assumption) (by omega) ?_ | refine zw_lald0 rfl (by assumption) (by omega) ?_ | refine zw_aaln rfl (by assumption) rfl (by omega) ?_ | refine zw_getR rfl (by assumption) (by assumption) ?_ | refine zw_alen rfl (by assumption) rfl ?_ | refine zw_iald rfl (by assumption) (by omega) (by omega) ?_ | refine zw_iast rfl (by omega) (by assumption) (by omega) (by omega) ?_ | refine zw_putI rfl (by assumption) ?_ | refine zw_lald rfl (by assumption) (by omega) (by omega) ?_ | refine zw_last rfl (by assumption) (by omega) (by omega) ?_ | refine zw_iadd rfl (by omega) (by omega) ?_ | refine zw_isub rfl (by omega) (by omega) ?_ | refine zw_iinc rfl rfl rfl (by omega) (by omega) ?_ | refine zw_imul rfl (by omega) (by omega) ?_)
      refine zw_idiv rfl (by omega) (by omega) ?_
      rw [show (qq : Int) / 2 = ((qq / 2 : Nat) : Int) by omega]
      repeat (refine zw_ne 85 rfl ?_; first | refine zw_t rfl rfl ?_ | refine zw_jump rfl rfl ?_ | refine zw_getI rfl rfl (by assumption) ?_ | refine zw_ialn rfl (by assumption) (by omega) ?_ | refine zw_laln rfl (by assumption) (by omega) ?_ | refine zw_iastn rfl (by omega) (by assumption) (by omega) ?_ | refine zw_lastn rfl (by assumption) (by omega) ?_ | refine zw_iald0 rfl (by assumption) (by omega) ?_ | refine zw_lald0 rfl (by assumption) (by omega) ?_ | refine zw_aaln rfl (by assumption) rfl (by omega) ?_ | refine zw_getR rfl (by assumption) (by assumption) ?_ | refine zw_alen rfl (by assumption) rfl ?_ | refine zw_iald rfl (by assumption) (by omega) (by omega) ?_ | refine zw_iast rfl (by omega) (by assumption) (by omega) (by omega) ?_ | refine zw_putI rfl (by assumption) ?_ | refine zw_lald rfl (by assumption) (by omega) (by omega) ?_ | refine zw_last rfl (by assumption) (by omega) (by omega) ?_ | refine zw_iadd rfl (by omega) (by omega) ?_ | refine zw_isub rfl (by omega) (by omega) ?_ | refine zw_iinc rfl rfl rfl (by omega) (by omega) ?_ | refine zw_imul rfl (by omega) (by omega) ?_)
      obtain ⟨F3, hF3⟩ : ∃ F3, F3 = z_u2 (z_u2 F 79 28 (p : Int)) 79 27 (u : Int) := ⟨_, rfl⟩
      rw [← hF3]
      have z3 : ZCu A F I L F3 I := by rw [hF3]; exact ((ZCu.start h).fld 28 _ (by omega)).fld 27 _ (by omega)
      have f27 : F3 79 27 = (u : Int) := by rw [hF3, z_u2_same]
      have f28 : F3 79 28 = (p : Int) := by rw [hF3, z_u2_nk _ _ _ _ (by omega), z_u2_same]
      have copy : ∀ (F4 I4 : Nat → Nat → Int), ZCu A F I L F4 I4 → F4 79 8 = (u : Int) → F4 79 9 = 0 → F4 79 29 = (z_gln p u : Int) → (∀ b, b < l.length → I4 94 b = (l.getD b 0 : Int)) → ∀ (c b : Nat) (f : Nat → Int), c + b = u → (∀ a, a < b → f a = (l.getD (u * j + a) 0 : Int)) → ZW (d + 29) 215 142 [some (.inr (.inr (some 79))), some (.inl (p : Int)), some (.inl (u : Int)), some (.inl (j : Int)), some (.inl (t : Int)), some (.inl (b : Int))] [] (k, F4, z_up I4 86 f, L, R) Q := by
        intro F4 I4 z4 f8 f9 f29 h94 c
        have hjp : u * j + u ≤ u * p := by
          have : u * (j + 1) ≤ u * p := Nat.mul_le_mul_left _ (by omega)
          rw [Nat.mul_add, Nat.mul_one] at this
          exact this
        obtain ⟨a0, ha0⟩ : ∃ a0, a0 = u * j := ⟨_, rfl⟩
        have ea0 : (u : Int) * (j : Int) = (a0 : Int) := by rw [ha0, Int.natCast_mul]
        rw [← ha0] at hjp
        induction c with
        | zero =>
          intro b f hb hf
          have hb : b = u := by omega
          subst hb
          have hmr := w6 j (by omega) f hf
          have hag : ZAgr f (z_row ((z_ggb p b).getD j 0)).1 b := hmr.agr y2
          repeat (first | refine zw_t rfl rfl ?_ | refine zw_jump rfl rfl ?_ | refine zw_getI rfl rfl (by assumption) ?_ | refine zw_ialn rfl (by assumption) (by omega) ?_ | refine zw_laln rfl (by assumption) (by omega) ?_ | refine zw_iastn rfl (by omega) (by assumption) (by omega) ?_ | refine zw_lastn rfl (by assumption) (by omega) ?_ | refine zw_iald0 rfl (by assumption) (by omega) ?_ | refine zw_lald0 rfl (by assumption) (by omega) ?_ | refine zw_aaln rfl (by assumption) rfl (by omega) ?_ | refine zw_getR rfl (by assumption) (by assumption) ?_ | refine zw_alen rfl (by assumption) rfl ?_ | refine zw_iald rfl (by assumption) (by omega) (by omega) ?_ | refine zw_iast rfl (by omega) (by assumption) (by omega) (by omega) ?_ | refine zw_putI rfl (by assumption) ?_ | refine zw_lald rfl (by assumption) (by omega) (by omega) ?_ | refine zw_last rfl (by assumption) (by omega) (by omega) ?_ | refine zw_iadd rfl (by omega) (by omega) ?_ | refine zw_isub rfl (by omega) (by omega) ?_ | refine zw_iinc rfl rfl rfl (by omega) (by omega) ?_ | refine zw_imul rfl (by omega) (by omega) ?_)
          refine zw_icmp_ge_t rfl (by omega) ?_
          repeat (first | refine zw_t rfl rfl ?_ | refine zw_jump rfl rfl ?_ | refine zw_getI rfl rfl (by assumption) ?_ | refine zw_ialn rfl (by assumption) (by omega) ?_ | refine zw_laln rfl (by assumption) (by omega) ?_ | refine zw_iastn rfl (by omega) (by assumption) (by omega) ?_ | refine zw_lastn rfl (by assumption) (by omega) ?_ | refine zw_iald0 rfl (by assumption) (by omega) ?_ | refine zw_lald0 rfl (by assumption) (by omega) ?_ | refine zw_aaln rfl (by assumption) rfl (by omega) ?_ | refine zw_getR rfl (by assumption) (by assumption) ?_ | refine zw_alen rfl (by assumption) rfl ?_ | refine zw_iald rfl (by assumption) (by omega) (by omega) ?_ | refine zw_iast rfl (by omega) (by assumption) (by omega) (by omega) ?_ | refine zw_putI rfl (by assumption) ?_ | refine zw_lald rfl (by assumption) (by omega) (by omega) ?_ | refine zw_last rfl (by assumption) (by omega) (by omega) ?_ | refine zw_iadd rfl (by omega) (by omega) ?_ | refine zw_isub rfl (by omega) (by omega) ?_ | refine zw_iinc rfl rfl rfl (by omega) (by omega) ?_ | refine zw_imul rfl (by omega) (by omega) ?_)
          refine zw_callv rfl rfl rfl rfl rfl rfl (by assumption) ?_
          refine ZC.le (show 0 + 1 ≤ _ by omega) ?_
          refine c_cgive hk0 (z4.row f (by omega)) ⟨f8, f9, by rw [z_up_same]; exact hag⟩ (hgr.zrow y2 (by omega) (by omega) (Or.inl rfl)) (by omega) (fun I5 _ z5 => ?_)
          repeat (first | refine zw_t rfl rfl ?_ | refine zw_jump rfl rfl ?_ | refine zw_getI rfl rfl (by assumption) ?_ | refine zw_ialn rfl (by assumption) (by omega) ?_ | refine zw_laln rfl (by assumption) (by omega) ?_ | refine zw_iastn rfl (by omega) (by assumption) (by omega) ?_ | refine zw_lastn rfl (by assumption) (by omega) ?_ | refine zw_iald0 rfl (by assumption) (by omega) ?_ | refine zw_lald0 rfl (by assumption) (by omega) ?_ | refine zw_aaln rfl (by assumption) rfl (by omega) ?_ | refine zw_getR rfl (by assumption) (by assumption) ?_ | refine zw_alen rfl (by assumption) rfl ?_ | refine zw_iald rfl (by assumption) (by omega) (by omega) ?_ | refine zw_iast rfl (by omega) (by assumption) (by omega) (by omega) ?_ | refine zw_putI rfl (by assumption) ?_ | refine zw_lald rfl (by assumption) (by omega) (by omega) ?_ | refine zw_last rfl (by assumption) (by omega) (by omega) ?_ | refine zw_iadd rfl (by omega) (by omega) ?_ | refine zw_isub rfl (by omega) (by omega) ?_ | refine zw_iinc rfl rfl rfl (by omega) (by omega) ?_ | refine zw_imul rfl (by omega) (by omega) ?_)
          rw [z_u2_nk _ _ _ _ (show (29 : Nat) ≠ 0 by omega), f29]
          exact zw_iret rfl (K _ _ _ (z5.stat 0).1 (z5.stat 0).2)
        | succ c ih =>
          intro b f hb hf
          rw [← ha0] at hf
          repeat (first | refine zw_t rfl rfl ?_ | refine zw_jump rfl rfl ?_ | refine zw_getI rfl rfl (by assumption) ?_ | refine zw_ialn rfl (by assumption) (by omega) ?_ | refine zw_laln rfl (by assumption) (by omega) ?_ | refine zw_iastn rfl (by omega) (by assumption) (by omega) ?_ | refine zw_lastn rfl (by assumption) (by omega) ?_ | refine zw_iald0 rfl (by assumption) (by omega) ?_ | refine zw_lald0 rfl (by assumption) (by omega) ?_ | refine zw_aaln rfl (by assumption) rfl (by omega) ?_ | refine zw_getR rfl (by assumption) (by assumption) ?_ | refine zw_alen rfl (by assumption) rfl ?_ | refine zw_iald rfl (by assumption) (by omega) (by omega) ?_ | refine zw_iast rfl (by omega) (by assumption) (by omega) (by omega) ?_ | refine zw_putI rfl (by assumption) ?_ | refine zw_lald rfl (by assumption) (by omega) (by omega) ?_ | refine zw_last rfl (by assumption) (by omega) (by omega) ?_ | refine zw_iadd rfl (by omega) (by omega) ?_ | refine zw_isub rfl (by omega) (by omega) ?_ | refine zw_iinc rfl rfl rfl (by omega) (by omega) ?_ | refine zw_imul rfl (by omega) (by omega) ?_)
          refine zw_icmp_ge_f rfl (by omega) ?_
          repeat (first | refine zw_t rfl rfl ?_ | refine zw_jump rfl rfl ?_ | refine zw_getI rfl rfl (by assumption) ?_ | refine zw_ialn rfl (by assumption) (by omega) ?_ | refine zw_laln rfl (by assumption) (by omega) ?_ | refine zw_iastn rfl (by omega) (by assumption) (by omega) ?_ | refine zw_lastn rfl (by assumption) (by omega) ?_ | refine zw_iald0 rfl (by assumption) (by omega) ?_ | refine zw_lald0 rfl (by assumption) (by omega) ?_ | refine zw_aaln rfl (by assumption) rfl (by omega) ?_ | refine zw_getR rfl (by assumption) (by assumption) ?_ | refine zw_alen rfl (by assumption) rfl ?_ | refine zw_iald rfl (by assumption) (by omega) (by omega) ?_ | refine zw_iast rfl (by omega) (by assumption) (by omega) (by omega) ?_ | refine zw_putI rfl (by assumption) ?_ | refine zw_lald rfl (by assumption) (by omega) (by omega) ?_ | refine zw_last rfl (by assumption) (by omega) (by omega) ?_ | refine zw_iadd rfl (by omega) (by omega) ?_ | refine zw_isub rfl (by omega) (by omega) ?_ | refine zw_iinc rfl rfl rfl (by omega) (by omega) ?_ | refine zw_imul rfl (by omega) (by omega) ?_)
          rw [← ha0, z_up_ne _ _ (show (94 : Nat) ≠ 86 by omega), h94 (a0 + b) (by omega), z_u2_up]
          refine zw_goto rfl ?_
          refine ih (b + 1) _ (by omega) (fun a ha => ?_)
          rw [← ha0]
          by_cases hab : a = b
          · rw [hab, z_up_same]
          · rw [z_up_ne _ _ hab]; exact hf a (by omega)
      have hunt : ∀ (c n : Nat) (F4 I4 : Nat → Nat → Int) (f : Nat → Int) (x5 : Option ZV), c + n = z_gln p u → qq / 2 ≤ n → ZCu A F I L F4 I4 → F4 79 27 = (u : Int) → F4 79 28 = (p : Int) → F4 79 29 = (n : Int) → I4 93 = f → (∀ a, a ≤ 1000 → f a = 0) → ZW (d + 29) 215 107 [some (.inr (.inr (some 79))), some (.inl (p : Int)), some (.inl (u : Int)), some (.inl (j : Int)), some (.inl (t : Int)), some (.inl 1001)] [] (k, F4, I4, L, R) Q := by
        intro c
        have d9 : p * (u + 1) ≤ 20 := by rw [Nat.mul_add, Nat.mul_one, ← hq]; omega
        have fr : ∀ {F4 I4 I5 : Nat → Nat → Int}, ZCu A F I L F4 I4 → (∀ b, b ≠ 93 → b ≠ 94 → I5 b = I4 b) → ZCu A F I L F4 I5 := fun z hI => z.scr (fun _ _ => rfl) rfl (fun a ha => hI a (by omega) (by omega))
        induction c with
        | zero =>
          intro n F4 I4 f x5 hc hn z4 f27 f28 f29 h93 hf0
          have hn : n = z_gln p u := by omega
          subst hn
          repeat (first | refine zw_t rfl rfl ?_ | refine zw_jump rfl rfl ?_ | refine zw_getI rfl rfl (by assumption) ?_ | refine zw_ialn rfl (by assumption) (by omega) ?_ | refine zw_laln rfl (by assumption) (by omega) ?_ | refine zw_iastn rfl (by omega) (by assumption) (by omega) ?_ | refine zw_lastn rfl (by assumption) (by omega) ?_ | refine zw_iald0 rfl (by assumption) (by omega) ?_ | refine zw_lald0 rfl (by assumption) (by omega) ?_ | refine zw_aaln rfl (by assumption) rfl (by omega) ?_ | refine zw_getR rfl (by assumption) (by assumption) ?_ | refine zw_alen rfl (by assumption) rfl ?_ | refine zw_iald rfl (by assumption) (by omega) (by omega) ?_ | refine zw_iast rfl (by omega) (by assumption) (by omega) (by omega) ?_ | refine zw_putI rfl (by assumption) ?_ | refine zw_lald rfl (by assumption) (by omega) (by omega) ?_ | refine zw_last rfl (by assumption) (by omega) (by omega) ?_ | refine zw_iadd rfl (by omega) (by omega) ?_ | refine zw_isub rfl (by omega) (by omega) ?_ | refine zw_iinc rfl rfl rfl (by omega) (by omega) ?_ | refine zw_imul rfl (by omega) (by omega) ?_)
          refine zw_callv rfl rfl rfl rfl rfl rfl (by assumption) ?_
          refine ZC.le (show 0 + p * (u + 1) + 2 ≤ _ by omega) ?_
          refine c_goGang hk0 hu hp.2 hq9 (by omega) f27 f28 f29 (p * (u + 1)) 0 0 0 p 0 [] f I4 _ (by omega) (by omega) (by omega) (by simp) (fun b hb => by simp at hb) (fun b hb => by simp at hb) (fun _ b _ hb => by omega) h93 (fun a ha => by rw [hf0 a ha]; unfold z_fb; rw [Nat.zero_testBit, if_neg (by decide)]) (fun a _ => Nat.zero_testBit a) (fun I5 l' s5 q1 q2 => ?_) (fun I5 s5 q1 q2 q3 => ?_)
          · rw [w4] at q1
            have q1 : l = l' := Option.some.inj q1
            subst q1
            have z5 := fr z4 s5
            refine zw_if_ne_t rfl (by decide) ?_
            repeat (refine zw_ne 142 rfl ?_; first | refine zw_t rfl rfl ?_ | refine zw_jump rfl rfl ?_ | refine zw_getI rfl rfl (by assumption) ?_ | refine zw_ialn rfl (by assumption) (by omega) ?_ | refine zw_laln rfl (by assumption) (by omega) ?_ | refine zw_iastn rfl (by omega) (by assumption) (by omega) ?_ | refine zw_lastn rfl (by assumption) (by omega) ?_ | refine zw_iald0 rfl (by assumption) (by omega) ?_ | refine zw_lald0 rfl (by assumption) (by omega) ?_ | refine zw_aaln rfl (by assumption) rfl (by omega) ?_ | refine zw_getR rfl (by assumption) (by assumption) ?_ | refine zw_alen rfl (by assumption) rfl ?_ | refine zw_iald rfl (by assumption) (by omega) (by omega) ?_ | refine zw_iast rfl (by omega) (by assumption) (by omega) (by omega) ?_ | refine zw_putI rfl (by assumption) ?_ | refine zw_lald rfl (by assumption) (by omega) (by omega) ?_ | refine zw_last rfl (by assumption) (by omega) (by omega) ?_ | refine zw_iadd rfl (by omega) (by omega) ?_ | refine zw_isub rfl (by omega) (by omega) ?_ | refine zw_iinc rfl rfl rfl (by omega) (by omega) ?_ | refine zw_imul rfl (by omega) (by omega) ?_)
            have cp := copy _ I5 ((z5.fld 8 (u : Int) (by omega)).fld 9 0 (by omega)) (by rw [z_u2_nk _ _ _ _ (by omega), z_u2_same]) (z_u2_same _ _ _ _) (by rw [z_u2_nk _ _ _ _ (by omega), z_u2_nk _ _ _ _ (by omega)]; exact f29) q2 u 0 (I5 86) (by omega) (fun a ha => by omega)
            rw [z_up_self] at cp
            exact cp
          · rw [w4] at q1; cases q1
        | succ c ih =>
          intro n F4 I4 f x5 hc hn z4 f27 f28 f29 h93 hf0
          have hno := w1 n hn (by omega)
          repeat (first | refine zw_t rfl rfl ?_ | refine zw_jump rfl rfl ?_ | refine zw_getI rfl rfl (by assumption) ?_ | refine zw_ialn rfl (by assumption) (by omega) ?_ | refine zw_laln rfl (by assumption) (by omega) ?_ | refine zw_iastn rfl (by omega) (by assumption) (by omega) ?_ | refine zw_lastn rfl (by assumption) (by omega) ?_ | refine zw_iald0 rfl (by assumption) (by omega) ?_ | refine zw_lald0 rfl (by assumption) (by omega) ?_ | refine zw_aaln rfl (by assumption) rfl (by omega) ?_ | refine zw_getR rfl (by assumption) (by assumption) ?_ | refine zw_alen rfl (by assumption) rfl ?_ | refine zw_iald rfl (by assumption) (by omega) (by omega) ?_ | refine zw_iast rfl (by omega) (by assumption) (by omega) (by omega) ?_ | refine zw_putI rfl (by assumption) ?_ | refine zw_lald rfl (by assumption) (by omega) (by omega) ?_ | refine zw_last rfl (by assumption) (by omega) (by omega) ?_ | refine zw_iadd rfl (by omega) (by omega) ?_ | refine zw_isub rfl (by omega) (by omega) ?_ | refine zw_iinc rfl rfl rfl (by omega) (by omega) ?_ | refine zw_imul rfl (by omega) (by omega) ?_)
          refine zw_callv rfl rfl rfl rfl rfl rfl (by assumption) ?_
          refine ZC.le (show 0 + p * (u + 1) + 2 ≤ _ by omega) ?_
          refine c_goGang hk0 hu hp.2 hq9 (by omega) f27 f28 f29 (p * (u + 1)) 0 0 0 p 0 [] f I4 _ (by omega) (by omega) (by omega) (by simp) (fun b hb => by simp at hb) (fun b hb => by simp at hb) (fun _ b _ hb => by omega) h93 (fun a ha => by rw [hf0 a ha]; unfold z_fb; rw [Nat.zero_testBit, if_neg (by decide)]) (fun a _ => Nat.zero_testBit a) (fun I5 l' s5 q1 q2 => ?_) (fun I5 s5 q1 q2 q3 => ?_)
          · rw [hno] at q1; cases q1
          · have z5 := fr z4 s5
            refine zw_if_ne_f rfl rfl ?_
            repeat (first | refine zw_t rfl rfl ?_ | refine zw_jump rfl rfl ?_ | refine zw_getI rfl rfl (by assumption) ?_ | refine zw_ialn rfl (by assumption) (by omega) ?_ | refine zw_laln rfl (by assumption) (by omega) ?_ | refine zw_iastn rfl (by omega) (by assumption) (by omega) ?_ | refine zw_lastn rfl (by assumption) (by omega) ?_ | refine zw_iald0 rfl (by assumption) (by omega) ?_ | refine zw_lald0 rfl (by assumption) (by omega) ?_ | refine zw_aaln rfl (by assumption) rfl (by omega) ?_ | refine zw_getR rfl (by assumption) (by assumption) ?_ | refine zw_alen rfl (by assumption) rfl ?_ | refine zw_iald rfl (by assumption) (by omega) (by omega) ?_ | refine zw_iast rfl (by omega) (by assumption) (by omega) (by omega) ?_ | refine zw_putI rfl (by assumption) ?_ | refine zw_lald rfl (by assumption) (by omega) (by omega) ?_ | refine zw_last rfl (by assumption) (by omega) (by omega) ?_ | refine zw_iadd rfl (by omega) (by omega) ?_ | refine zw_isub rfl (by omega) (by omega) ?_ | refine zw_iinc rfl rfl rfl (by omega) (by omega) ?_ | refine zw_imul rfl (by omega) (by omega) ?_)
            refine zw_goto rfl ?_
            exact ih (n + 1) _ I5 f none (by omega) (by omega) (z5.fld 29 _ (by omega)) (by rw [z_u2_nk _ _ _ _ (by omega)]; exact f27) (by rw [z_u2_nk _ _ _ _ (by omega)]; exact f28) (by rw [z_u2_same, f29]; omega) q2 hf0
      have fill : ∀ (c b : Nat) (f : Nat → Int), c + b = 1001 → (∀ a, a < b → f a = 0) → ZW (d + 29) 215 85 [some (.inr (.inr (some 79))), some (.inl (p : Int)), some (.inl (u : Int)), some (.inl (j : Int)), some (.inl (t : Int)), some (.inl (b : Int))] [] (k, z_u2 F3 79 29 ((qq / 2 : Nat) : Int), z_up I 93 f, L, R) Q := by
        intro c
        induction c with
        | zero =>
          intro b f hb hf
          have hb : b = 1001 := by omega
          subst hb
          repeat (first | refine zw_t rfl rfl ?_ | refine zw_jump rfl rfl ?_ | refine zw_getI rfl rfl (by assumption) ?_ | refine zw_ialn rfl (by assumption) (by omega) ?_ | refine zw_laln rfl (by assumption) (by omega) ?_ | refine zw_iastn rfl (by omega) (by assumption) (by omega) ?_ | refine zw_lastn rfl (by assumption) (by omega) ?_ | refine zw_iald0 rfl (by assumption) (by omega) ?_ | refine zw_lald0 rfl (by assumption) (by omega) ?_ | refine zw_aaln rfl (by assumption) rfl (by omega) ?_ | refine zw_getR rfl (by assumption) (by assumption) ?_ | refine zw_alen rfl (by assumption) rfl ?_ | refine zw_iald rfl (by assumption) (by omega) (by omega) ?_ | refine zw_iast rfl (by omega) (by assumption) (by omega) (by omega) ?_ | refine zw_putI rfl (by assumption) ?_ | refine zw_lald rfl (by assumption) (by omega) (by omega) ?_ | refine zw_last rfl (by assumption) (by omega) (by omega) ?_ | refine zw_iadd rfl (by omega) (by omega) ?_ | refine zw_isub rfl (by omega) (by omega) ?_ | refine zw_iinc rfl rfl rfl (by omega) (by omega) ?_ | refine zw_imul rfl (by omega) (by omega) ?_)
          refine zw_icmp_gt_t rfl (by omega) ?_
          exact hunt (z_gln p u - qq / 2) (qq / 2) _ _ f none (by omega) (Nat.le_refl _) ((z3.fld 29 _ (by omega)).row f (by omega)) (by rw [z_u2_nk _ _ _ _ (by omega)]; exact f27) (by rw [z_u2_nk _ _ _ _ (by omega)]; exact f28) (z_u2_same _ _ _ _) (z_up_same _ _ _) (fun a ha => hf a (by omega))
        | succ c ih =>
          intro b f hb hf
          repeat (first | refine zw_t rfl rfl ?_ | refine zw_jump rfl rfl ?_ | refine zw_getI rfl rfl (by assumption) ?_ | refine zw_ialn rfl (by assumption) (by omega) ?_ | refine zw_laln rfl (by assumption) (by omega) ?_ | refine zw_iastn rfl (by omega) (by assumption) (by omega) ?_ | refine zw_lastn rfl (by assumption) (by omega) ?_ | refine zw_iald0 rfl (by assumption) (by omega) ?_ | refine zw_lald0 rfl (by assumption) (by omega) ?_ | refine zw_aaln rfl (by assumption) rfl (by omega) ?_ | refine zw_getR rfl (by assumption) (by assumption) ?_ | refine zw_alen rfl (by assumption) rfl ?_ | refine zw_iald rfl (by assumption) (by omega) (by omega) ?_ | refine zw_iast rfl (by omega) (by assumption) (by omega) (by omega) ?_ | refine zw_putI rfl (by assumption) ?_ | refine zw_lald rfl (by assumption) (by omega) (by omega) ?_ | refine zw_last rfl (by assumption) (by omega) (by omega) ?_ | refine zw_iadd rfl (by omega) (by omega) ?_ | refine zw_isub rfl (by omega) (by omega) ?_ | refine zw_iinc rfl rfl rfl (by omega) (by omega) ?_ | refine zw_imul rfl (by omega) (by omega) ?_)
          refine zw_icmp_gt_f rfl (by omega) ?_
          repeat (first | refine zw_t rfl rfl ?_ | refine zw_jump rfl rfl ?_ | refine zw_getI rfl rfl (by assumption) ?_ | refine zw_ialn rfl (by assumption) (by omega) ?_ | refine zw_laln rfl (by assumption) (by omega) ?_ | refine zw_iastn rfl (by omega) (by assumption) (by omega) ?_ | refine zw_lastn rfl (by assumption) (by omega) ?_ | refine zw_iald0 rfl (by assumption) (by omega) ?_ | refine zw_lald0 rfl (by assumption) (by omega) ?_ | refine zw_aaln rfl (by assumption) rfl (by omega) ?_ | refine zw_getR rfl (by assumption) (by assumption) ?_ | refine zw_alen rfl (by assumption) rfl ?_ | refine zw_iald rfl (by assumption) (by omega) (by omega) ?_ | refine zw_iast rfl (by omega) (by assumption) (by omega) (by omega) ?_ | refine zw_putI rfl (by assumption) ?_ | refine zw_lald rfl (by assumption) (by omega) (by omega) ?_ | refine zw_last rfl (by assumption) (by omega) (by omega) ?_ | refine zw_iadd rfl (by omega) (by omega) ?_ | refine zw_isub rfl (by omega) (by omega) ?_ | refine zw_iinc rfl rfl rfl (by omega) (by omega) ?_ | refine zw_imul rfl (by omega) (by omega) ?_)
          rw [z_u2_up]
          refine zw_goto rfl ?_
          refine ih (b + 1) _ (by omega) (fun a ha => ?_)
          rw [z_up_val]
          by_cases hab : a = b
          · rw [if_pos hab]
          · rw [if_neg hab]; exact hf a (by omega)
      have fl := fill 1001 0 (I 93) (by omega) (fun a ha => by omega)
      rw [z_up_self] at fl
      exact fl
    repeat (first | refine zw_t rfl rfl ?_ | refine zw_jump rfl rfl ?_ | refine zw_getI rfl rfl (by assumption) ?_ | refine zw_ialn rfl (by assumption) (by omega) ?_ | refine zw_laln rfl (by assumption) (by omega) ?_ | refine zw_iastn rfl (by omega) (by assumption) (by omega) ?_ | refine zw_lastn rfl (by assumption) (by omega) ?_ | refine zw_iald0 rfl (by assumption) (by omega) ?_ | refine zw_lald0 rfl (by assumption) (by omega) ?_ | refine zw_aaln rfl (by assumption) rfl (by omega) ?_ | refine zw_getR rfl (by assumption) (by assumption) ?_ | refine zw_alen rfl (by assumption) rfl ?_ | refine zw_iald rfl (by assumption) (by omega) (by omega) ?_ | refine zw_iast rfl (by omega) (by assumption) (by omega) (by omega) ?_ | refine zw_putI rfl (by assumption) ?_ | refine zw_lald rfl (by assumption) (by omega) (by omega) ?_ | refine zw_last rfl (by assumption) (by omega) (by omega) ?_ | refine zw_iadd rfl (by omega) (by omega) ?_ | refine zw_isub rfl (by omega) (by omega) ?_ | refine zw_iinc rfl rfl rfl (by omega) (by omega) ?_ | refine zw_imul rfl (by omega) (by omega) ?_)
    refine zw_icmp_lt rfl (fun h1 => five (by omega)) (fun h1 => ?_)
    repeat (first | refine zw_t rfl rfl ?_ | refine zw_jump rfl rfl ?_ | refine zw_getI rfl rfl (by assumption) ?_ | refine zw_ialn rfl (by assumption) (by omega) ?_ | refine zw_laln rfl (by assumption) (by omega) ?_ | refine zw_iastn rfl (by omega) (by assumption) (by omega) ?_ | refine zw_lastn rfl (by assumption) (by omega) ?_ | refine zw_iald0 rfl (by assumption) (by omega) ?_ | refine zw_lald0 rfl (by assumption) (by omega) ?_ | refine zw_aaln rfl (by assumption) rfl (by omega) ?_ | refine zw_getR rfl (by assumption) (by assumption) ?_ | refine zw_alen rfl (by assumption) rfl ?_ | refine zw_iald rfl (by assumption) (by omega) (by omega) ?_ | refine zw_iast rfl (by omega) (by assumption) (by omega) (by omega) ?_ | refine zw_putI rfl (by assumption) ?_ | refine zw_lald rfl (by assumption) (by omega) (by omega) ?_ | refine zw_last rfl (by assumption) (by omega) (by omega) ?_ | refine zw_iadd rfl (by omega) (by omega) ?_ | refine zw_isub rfl (by omega) (by omega) ?_ | refine zw_iinc rfl rfl rfl (by omega) (by omega) ?_ | refine zw_imul rfl (by omega) (by omega) ?_)
    refine zw_icmp_gt rfl (fun h2 => five (by omega)) (fun h2 => ?_)
    repeat (first | refine zw_t rfl rfl ?_ | refine zw_jump rfl rfl ?_ | refine zw_getI rfl rfl (by assumption) ?_ | refine zw_ialn rfl (by assumption) (by omega) ?_ | refine zw_laln rfl (by assumption) (by omega) ?_ | refine zw_iastn rfl (by omega) (by assumption) (by omega) ?_ | refine zw_lastn rfl (by assumption) (by omega) ?_ | refine zw_iald0 rfl (by assumption) (by omega) ?_ | refine zw_lald0 rfl (by assumption) (by omega) ?_ | refine zw_aaln rfl (by assumption) rfl (by omega) ?_ | refine zw_getR rfl (by assumption) (by assumption) ?_ | refine zw_alen rfl (by assumption) rfl ?_ | refine zw_iald rfl (by assumption) (by omega) (by omega) ?_ | refine zw_iast rfl (by omega) (by assumption) (by omega) (by omega) ?_ | refine zw_putI rfl (by assumption) ?_ | refine zw_lald rfl (by assumption) (by omega) (by omega) ?_ | refine zw_last rfl (by assumption) (by omega) (by omega) ?_ | refine zw_iadd rfl (by omega) (by omega) ?_ | refine zw_isub rfl (by omega) (by omega) ?_ | refine zw_iinc rfl rfl rfl (by omega) (by omega) ?_ | refine zw_imul rfl (by omega) (by omega) ?_)
    refine zw_icmp_lt rfl (fun h3 => five (by omega)) (fun h3 => ?_)
    repeat (first | refine zw_t rfl rfl ?_ | refine zw_jump rfl rfl ?_ | refine zw_getI rfl rfl (by assumption) ?_ | refine zw_ialn rfl (by assumption) (by omega) ?_ | refine zw_laln rfl (by assumption) (by omega) ?_ | refine zw_iastn rfl (by omega) (by assumption) (by omega) ?_ | refine zw_lastn rfl (by assumption) (by omega) ?_ | refine zw_iald0 rfl (by assumption) (by omega) ?_ | refine zw_lald0 rfl (by assumption) (by omega) ?_ | refine zw_aaln rfl (by assumption) rfl (by omega) ?_ | refine zw_getR rfl (by assumption) (by assumption) ?_ | refine zw_alen rfl (by assumption) rfl ?_ | refine zw_iald rfl (by assumption) (by omega) (by omega) ?_ | refine zw_iast rfl (by omega) (by assumption) (by omega) (by omega) ?_ | refine zw_putI rfl (by assumption) ?_ | refine zw_lald rfl (by assumption) (by omega) (by omega) ?_ | refine zw_last rfl (by assumption) (by omega) (by omega) ?_ | refine zw_iadd rfl (by omega) (by omega) ?_ | refine zw_isub rfl (by omega) (by omega) ?_ | refine zw_iinc rfl rfl rfl (by omega) (by omega) ?_ | refine zw_imul rfl (by omega) (by omega) ?_)
    refine zw_icmp_gt rfl (fun h4 => five (by omega)) (fun h4 => ?_)
    repeat (first | refine zw_t rfl rfl ?_ | refine zw_jump rfl rfl ?_ | refine zw_getI rfl rfl (by assumption) ?_ | refine zw_ialn rfl (by assumption) (by omega) ?_ | refine zw_laln rfl (by assumption) (by omega) ?_ | refine zw_iastn rfl (by omega) (by assumption) (by omega) ?_ | refine zw_lastn rfl (by assumption) (by omega) ?_ | refine zw_iald0 rfl (by assumption) (by omega) ?_ | refine zw_lald0 rfl (by assumption) (by omega) ?_ | refine zw_aaln rfl (by assumption) rfl (by omega) ?_ | refine zw_getR rfl (by assumption) (by assumption) ?_ | refine zw_alen rfl (by assumption) rfl ?_ | refine zw_iald rfl (by assumption) (by omega) (by omega) ?_ | refine zw_iast rfl (by omega) (by assumption) (by omega) (by omega) ?_ | refine zw_putI rfl (by assumption) ?_ | refine zw_lald rfl (by assumption) (by omega) (by omega) ?_ | refine zw_last rfl (by assumption) (by omega) (by omega) ?_ | refine zw_iadd rfl (by omega) (by omega) ?_ | refine zw_isub rfl (by omega) (by omega) ?_ | refine zw_iinc rfl rfl rfl (by omega) (by omega) ?_ | refine zw_imul rfl (by omega) (by omega) ?_)
    refine zw_icmp_ne rfl (fun h5 => go (by omega)) (fun h5 => ?_)
    repeat (first | refine zw_t rfl rfl ?_ | refine zw_jump rfl rfl ?_ | refine zw_getI rfl rfl (by assumption) ?_ | refine zw_ialn rfl (by assumption) (by omega) ?_ | refine zw_laln rfl (by assumption) (by omega) ?_ | refine zw_iastn rfl (by omega) (by assumption) (by omega) ?_ | refine zw_lastn rfl (by assumption) (by omega) ?_ | refine zw_iald0 rfl (by assumption) (by omega) ?_ | refine zw_lald0 rfl (by assumption) (by omega) ?_ | refine zw_aaln rfl (by assumption) rfl (by omega) ?_ | refine zw_getR rfl (by assumption) (by assumption) ?_ | refine zw_alen rfl (by assumption) rfl ?_ | refine zw_iald rfl (by assumption) (by omega) (by omega) ?_ | refine zw_iast rfl (by omega) (by assumption) (by omega) (by omega) ?_ | refine zw_putI rfl (by assumption) ?_ | refine zw_lald rfl (by assumption) (by omega) (by omega) ?_ | refine zw_last rfl (by assumption) (by omega) (by omega) ?_ | refine zw_iadd rfl (by omega) (by omega) ?_ | refine zw_isub rfl (by omega) (by omega) ?_ | refine zw_iinc rfl rfl rfl (by omega) (by omega) ?_ | refine zw_imul rfl (by omega) (by omega) ?_)
    refine zw_icmp_eq rfl (fun h6 => five (by omega)) (fun h6 => go (by omega))
  · rw [if_neg hx] at K ⊢
    refine zw_if_ne_f rfl rfl ?_
    repeat (first | refine zw_t rfl rfl ?_ | refine zw_jump rfl rfl ?_ | refine zw_getI rfl rfl (by assumption) ?_ | refine zw_ialn rfl (by assumption) (by omega) ?_ | refine zw_laln rfl (by assumption) (by omega) ?_ | refine zw_iastn rfl (by omega) (by assumption) (by omega) ?_ | refine zw_lastn rfl (by assumption) (by omega) ?_ | refine zw_iald0 rfl (by assumption) (by omega) ?_ | refine zw_lald0 rfl (by assumption) (by omega) ?_ | refine zw_aaln rfl (by assumption) rfl (by omega) ?_ | refine zw_getR rfl (by assumption) (by assumption) ?_ | refine zw_alen rfl (by assumption) rfl ?_ | refine zw_iald rfl (by assumption) (by omega) (by omega) ?_ | refine zw_iast rfl (by omega) (by assumption) (by omega) (by omega) ?_ | refine zw_putI rfl (by assumption) ?_ | refine zw_lald rfl (by assumption) (by omega) (by omega) ?_ | refine zw_last rfl (by assumption) (by omega) (by omega) ?_ | refine zw_iadd rfl (by omega) (by omega) ?_ | refine zw_isub rfl (by omega) (by omega) ?_ | refine zw_iinc rfl rfl rfl (by omega) (by omega) ?_ | refine zw_imul rfl (by omega) (by omega) ?_)
    refine zw_callv rfl rfl rfl rfl rfl rfl (by assumption) ?_
    refine c_mnone hT ?_
    exact zw_iret rfl (K _ _ _ (z_mref h 2).1 (z_mref h 2).2)
end ZRef24
