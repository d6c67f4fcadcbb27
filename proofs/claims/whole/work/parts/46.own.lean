/-! OWN FORMS of masks -/
/-- bit x of a mask turned at n -/
def z_tb2 (w : Int64) (n x : Nat) : Bool := decide (x ≤ n) && zbit w (n - x)
/-- of the least bit that the mask and the turned one do not share, it is the mask that has it -/
def ZOwn (w : Int64) (n : Nat) : Prop := ∀ x, x < 64 → zbit w x ≠ z_tb2 w n x → (∀ y, y < x → zbit w y = z_tb2 w n y) → zbit w x = true
theorem zbit_neg (u : Int64) (x : Nat) (hx : x < 64) : zbit (-u) x = (zbit u x ^^ decide (∃ j, j < x ∧ zbit u j = true)) := by
  unfold zbit
  rw [Int64.toBitVec_neg, BitVec.getLsbD_neg]
  simp [hx]
theorem zbit_far (u : Int64) {x : Nat} (hx : 64 ≤ x) : zbit u x = false := BitVec.getLsbD_of_ge _ _ hx
theorem z_low_bit (u : Int64) (x : Nat) (hx : x < 64) : zbit (u &&& -u) x = (zbit u x && !decide (∃ j, j < x ∧ zbit u j = true)) := by
  rw [zbit_and, zbit_neg u x hx]
  cases zbit u x <;> simp
theorem z_own_iff {w u : Int64} {n : Nat} (hu : ∀ x, x < 64 → zbit u x = (zbit w x != z_tb2 w n x)) : (u = 0 ∨ (w &&& u &&& -u) ≠ 0) ↔ ZOwn w n := by
  have z0 : ∀ x, zbit 0 x = false := fun x => by unfold zbit; exact BitVec.getLsbD_zero
  have hne : ∀ x, x < 64 → (zbit u x = true ↔ zbit w x ≠ z_tb2 w n x) := fun x hx => by rw [hu x hx]; simp
  have hb : ∀ x, x < 64 → zbit (w &&& u &&& -u) x = (zbit w x && (zbit u x && !decide (∃ j, j < x ∧ zbit u j = true))) := fun x hx => by
    rw [zbit_and, zbit_and, zbit_neg u x hx]
    cases zbit u x <;> cases zbit w x <;> simp
  constructor
  · rintro (h | h) x hx h1 h2
    · exact absurd ((hne x hx).2 h1) (by rw [h, z0]; decide)
    · have hex : ∃ y, y < 64 ∧ zbit (w &&& u &&& -u) y = true := by
        refine Classical.byContradiction (fun hn => h (zbit_ext (fun y hy => ?_)))
        rw [z0]
        cases hc : zbit (w &&& u &&& -u) y with
        | false => rfl
        | true => exact absurd ⟨y, hy, hc⟩ hn
      obtain ⟨y, hy, hyb⟩ := hex
      rw [hb y hy] at hyb
      simp only [Bool.and_eq_true, Bool.not_eq_true', decide_eq_false_iff_not] at hyb
      obtain ⟨q1, q2, q3⟩ := hyb
      rcases Nat.lt_trichotomy x y with q | q | q
      · exact absurd ⟨x, q, (hne x hx).2 h1⟩ q3
      · rw [q]; exact q1
      · exact absurd (h2 y q) ((hne y hy).1 q2)
  · intro h
    by_cases h0 : u = 0
    · exact Or.inl h0
    · refine Or.inr (fun hz => ?_)
      have hex : ∃ y, y < 64 ∧ zbit u y = true := by
        refine Classical.byContradiction (fun hn => h0 (zbit_ext (fun y hy => ?_)))
        rw [z0]
        cases hc : zbit u y with
        | false => rfl
        | true => exact absurd ⟨y, hy, hc⟩ hn
      have hmin : ∀ m y, y < m → y < 64 → zbit u y = true → ∃ x, x < 64 ∧ zbit u x = true ∧ ∀ j, j < x → zbit u j = false := by
        intro m
        induction m with
        | zero => intro y h1; omega
        | succ m ih =>
          intro y h1 h2 h3
          by_cases hj : ∃ j, j < y ∧ zbit u j = true
          · obtain ⟨j, j1, j2⟩ := hj
            exact ih j (by omega) (by omega) j2
          · refine ⟨y, h2, h3, fun j j1 => ?_⟩
            cases hc : zbit u j with
            | false => rfl
            | true => exact absurd ⟨j, j1, hc⟩ hj
      obtain ⟨y, hy, hyb⟩ := hex
      obtain ⟨x, x1, x2, x3⟩ := hmin (y + 1) y (by omega) hy hyb
      have hw := h x x1 ((hne x x1).1 x2) (fun j hj => by
        have := x3 j hj
        rw [hu j (by omega)] at this
        simpa using this)
      have e := hb x x1
      rw [hz, z0, hw, x2] at e
      have : ¬ ∃ j, j < x ∧ zbit u j = true := fun ⟨j, j1, j2⟩ => by rw [x3 j j1] at j2; cases j2
      simp [this] at e
theorem c_isOwnForm {d n : Nat} {w : Int64} {h : ZH} {Q : Option ZV → ZH → Prop} (hn : n < 64) (K1 : ZOwn w n → Q (some (.inl 1)) h) (K0 : ¬ ZOwn w n → Q (some (.inl 0)) h) : ZC (d + 1) 141 [.inr (.inl w), .inl (n : Int)] h Q := by
  refine ze_B_isOwnForm ?_
  have fin : ∀ t : Int64, (∀ y, y < 64 → zbit t y = z_tb2 w n y) → ∀ x5 x6, ZW d 141 31 [some (.inr (.inl w)), none, some (.inl (n : Int)), some (.inr (.inl t)), none, x5, x6] [] h Q := by
    intro t ht x5 x6
    have hu : ∀ x, x < 64 → zbit (w ^^^ t) x = (zbit w x != z_tb2 w n x) := fun x hx => by rw [zbit_xor, ht x hx]
    have iff := z_own_iff hu
    repeat (first | refine zw_t rfl rfl ?_ | refine zw_jump rfl rfl ?_ | refine zw_getI rfl rfl (by assumption) ?_ | refine zw_ialn rfl (by assumption) (by omega) ?_ | refine zw_laln rfl (by assumption) (by omega) ?_ | refine zw_iastn rfl (by omega) (by assumption) (by omega) ?_ | refine zw_lastn rfl (by assumption) (by omega) ?_ | refine zw_iald0 rfl (by assumption) (by omega) ?_ | refine zw_lald0 rfl (by assumption) (by omega) ?_ | refine zw_aaln rfl (by assumption) rfl (by omega) ?_ | refine zw_getR rfl (by assumption) (by assumption) ?_ | refine zw_alen rfl (by assumption) rfl ?_ | refine zw_iald rfl (by assumption) (by omega) (by omega) ?_ | refine zw_iast rfl (by omega) (by assumption) (by omega) (by omega) ?_ | refine zw_putI rfl (by assumption) ?_ | refine zw_lald rfl (by assumption) (by omega) (by omega) ?_ | refine zw_last rfl (by assumption) (by omega) (by omega) ?_ | refine zw_iadd rfl (by omega) (by omega) ?_ | refine zw_isub rfl (by omega) (by omega) ?_ | refine zw_iinc rfl rfl rfl (by omega) (by omega) ?_)
    refine zw_if_eq rfl (fun h1 => ?_) (fun h1 => ?_)
    · repeat (first | refine zw_t rfl rfl ?_ | refine zw_jump rfl rfl ?_ | refine zw_getI rfl rfl (by assumption) ?_ | refine zw_ialn rfl (by assumption) (by omega) ?_ | refine zw_laln rfl (by assumption) (by omega) ?_ | refine zw_iastn rfl (by omega) (by assumption) (by omega) ?_ | refine zw_lastn rfl (by assumption) (by omega) ?_ | refine zw_iald0 rfl (by assumption) (by omega) ?_ | refine zw_lald0 rfl (by assumption) (by omega) ?_ | refine zw_aaln rfl (by assumption) rfl (by omega) ?_ | refine zw_getR rfl (by assumption) (by assumption) ?_ | refine zw_alen rfl (by assumption) rfl ?_ | refine zw_iald rfl (by assumption) (by omega) (by omega) ?_ | refine zw_iast rfl (by omega) (by assumption) (by omega) (by omega) ?_ | refine zw_putI rfl (by assumption) ?_ | refine zw_lald rfl (by assumption) (by omega) (by omega) ?_ | refine zw_last rfl (by assumption) (by omega) (by omega) ?_ | refine zw_iadd rfl (by omega) (by omega) ?_ | refine zw_isub rfl (by omega) (by omega) ?_ | refine zw_iinc rfl rfl rfl (by omega) (by omega) ?_)
      exact zw_zret rfl (Or.inr rfl) (K1 (iff.1 (Or.inl (z_lcmp_zero.1 h1))))
    · repeat (first | refine zw_t rfl rfl ?_ | refine zw_jump rfl rfl ?_ | refine zw_getI rfl rfl (by assumption) ?_ | refine zw_ialn rfl (by assumption) (by omega) ?_ | refine zw_laln rfl (by assumption) (by omega) ?_ | refine zw_iastn rfl (by omega) (by assumption) (by omega) ?_ | refine zw_lastn rfl (by assumption) (by omega) ?_ | refine zw_iald0 rfl (by assumption) (by omega) ?_ | refine zw_lald0 rfl (by assumption) (by omega) ?_ | refine zw_aaln rfl (by assumption) rfl (by omega) ?_ | refine zw_getR rfl (by assumption) (by assumption) ?_ | refine zw_alen rfl (by assumption) rfl ?_ | refine zw_iald rfl (by assumption) (by omega) (by omega) ?_ | refine zw_iast rfl (by omega) (by assumption) (by omega) (by omega) ?_ | refine zw_putI rfl (by assumption) ?_ | refine zw_lald rfl (by assumption) (by omega) (by omega) ?_ | refine zw_last rfl (by assumption) (by omega) (by omega) ?_ | refine zw_iadd rfl (by omega) (by omega) ?_ | refine zw_isub rfl (by omega) (by omega) ?_ | refine zw_iinc rfl rfl rfl (by omega) (by omega) ?_)
      refine zw_if_eq rfl (fun h2 => ?_) (fun h2 => ?_)
      · repeat (first | refine zw_t rfl rfl ?_ | refine zw_jump rfl rfl ?_ | refine zw_getI rfl rfl (by assumption) ?_ | refine zw_ialn rfl (by assumption) (by omega) ?_ | refine zw_laln rfl (by assumption) (by omega) ?_ | refine zw_iastn rfl (by omega) (by assumption) (by omega) ?_ | refine zw_lastn rfl (by assumption) (by omega) ?_ | refine zw_iald0 rfl (by assumption) (by omega) ?_ | refine zw_lald0 rfl (by assumption) (by omega) ?_ | refine zw_aaln rfl (by assumption) rfl (by omega) ?_ | refine zw_getR rfl (by assumption) (by assumption) ?_ | refine zw_alen rfl (by assumption) rfl ?_ | refine zw_iald rfl (by assumption) (by omega) (by omega) ?_ | refine zw_iast rfl (by omega) (by assumption) (by omega) (by omega) ?_ | refine zw_putI rfl (by assumption) ?_ | refine zw_lald rfl (by assumption) (by omega) (by omega) ?_ | refine zw_last rfl (by assumption) (by omega) (by omega) ?_ | refine zw_iadd rfl (by omega) (by omega) ?_ | refine zw_isub rfl (by omega) (by omega) ?_ | refine zw_iinc rfl rfl rfl (by omega) (by omega) ?_)
        refine zw_zret rfl (Or.inl rfl) (K0 (fun ho => ?_))
        rcases iff.2 ho with q | q
        · exact h1 (z_lcmp_zero.2 q)
        · exact q (z_lcmp_zero.1 h2)
      · repeat (first | refine zw_t rfl rfl ?_ | refine zw_jump rfl rfl ?_ | refine zw_getI rfl rfl (by assumption) ?_ | refine zw_ialn rfl (by assumption) (by omega) ?_ | refine zw_laln rfl (by assumption) (by omega) ?_ | refine zw_iastn rfl (by omega) (by assumption) (by omega) ?_ | refine zw_lastn rfl (by assumption) (by omega) ?_ | refine zw_iald0 rfl (by assumption) (by omega) ?_ | refine zw_lald0 rfl (by assumption) (by omega) ?_ | refine zw_aaln rfl (by assumption) rfl (by omega) ?_ | refine zw_getR rfl (by assumption) (by assumption) ?_ | refine zw_alen rfl (by assumption) rfl ?_ | refine zw_iald rfl (by assumption) (by omega) (by omega) ?_ | refine zw_iast rfl (by omega) (by assumption) (by omega) (by omega) ?_ | refine zw_putI rfl (by assumption) ?_ | refine zw_lald rfl (by assumption) (by omega) (by omega) ?_ | refine zw_last rfl (by assumption) (by omega) (by omega) ?_ | refine zw_iadd rfl (by omega) (by omega) ?_ | refine zw_isub rfl (by omega) (by omega) ?_ | refine zw_iinc rfl rfl rfl (by omega) (by omega) ?_)
        exact zw_zret rfl (Or.inr rfl) (K1 (iff.1 (Or.inr (fun q => h2 (z_lcmp_zero.2 q)))))
  have loop : ∀ (m i : Nat) (t : Int64) (x6 : Option ZV), m + i = n + 1 → (∀ y, y < 64 → zbit t y = (decide (y ≤ n) && decide (n < y + i) && zbit w (n - y))) → ZW d 141 5 [some (.inr (.inl w)), none, some (.inl (n : Int)), some (.inr (.inl t)), none, some (.inl (i : Int)), x6] [] h Q := by
    intro m
    induction m with
    | zero =>
      intro i t x6 hi ht
      repeat (first | refine zw_t rfl rfl ?_ | refine zw_jump rfl rfl ?_ | refine zw_getI rfl rfl (by assumption) ?_ | refine zw_ialn rfl (by assumption) (by omega) ?_ | refine zw_laln rfl (by assumption) (by omega) ?_ | refine zw_iastn rfl (by omega) (by assumption) (by omega) ?_ | refine zw_lastn rfl (by assumption) (by omega) ?_ | refine zw_iald0 rfl (by assumption) (by omega) ?_ | refine zw_lald0 rfl (by assumption) (by omega) ?_ | refine zw_aaln rfl (by assumption) rfl (by omega) ?_ | refine zw_getR rfl (by assumption) (by assumption) ?_ | refine zw_alen rfl (by assumption) rfl ?_ | refine zw_iald rfl (by assumption) (by omega) (by omega) ?_ | refine zw_iast rfl (by omega) (by assumption) (by omega) (by omega) ?_ | refine zw_putI rfl (by assumption) ?_ | refine zw_lald rfl (by assumption) (by omega) (by omega) ?_ | refine zw_last rfl (by assumption) (by omega) (by omega) ?_ | refine zw_iadd rfl (by omega) (by omega) ?_ | refine zw_isub rfl (by omega) (by omega) ?_ | refine zw_iinc rfl rfl rfl (by omega) (by omega) ?_)
      refine zw_icmp_gt_t rfl (by omega) ?_
      refine fin t (fun y hy => ?_) _ _
      rw [ht y hy]
      unfold z_tb2
      by_cases hyn : y ≤ n
      · rw [decide_eq_true (show n < y + i by omega)]; simp
      · simp [hyn]
    | succ m ih =>
      intro i t x6 hi ht
      repeat (first | refine zw_t rfl rfl ?_ | refine zw_jump rfl rfl ?_ | refine zw_getI rfl rfl (by assumption) ?_ | refine zw_ialn rfl (by assumption) (by omega) ?_ | refine zw_laln rfl (by assumption) (by omega) ?_ | refine zw_iastn rfl (by omega) (by assumption) (by omega) ?_ | refine zw_lastn rfl (by assumption) (by omega) ?_ | refine zw_iald0 rfl (by assumption) (by omega) ?_ | refine zw_lald0 rfl (by assumption) (by omega) ?_ | refine zw_aaln rfl (by assumption) rfl (by omega) ?_ | refine zw_getR rfl (by assumption) (by assumption) ?_ | refine zw_alen rfl (by assumption) rfl ?_ | refine zw_iald rfl (by assumption) (by omega) (by omega) ?_ | refine zw_iast rfl (by omega) (by assumption) (by omega) (by omega) ?_ | refine zw_putI rfl (by assumption) ?_ | refine zw_lald rfl (by assumption) (by omega) (by omega) ?_ | refine zw_last rfl (by assumption) (by omega) (by omega) ?_ | refine zw_iadd rfl (by omega) (by omega) ?_ | refine zw_isub rfl (by omega) (by omega) ?_ | refine zw_iinc rfl rfl rfl (by omega) (by omega) ?_)
      refine zw_icmp_gt_f rfl (by omega) ?_
      repeat (first | refine zw_t rfl rfl ?_ | refine zw_jump rfl rfl ?_ | refine zw_getI rfl rfl (by assumption) ?_ | refine zw_ialn rfl (by assumption) (by omega) ?_ | refine zw_laln rfl (by assumption) (by omega) ?_ | refine zw_iastn rfl (by omega) (by assumption) (by omega) ?_ | refine zw_lastn rfl (by assumption) (by omega) ?_ | refine zw_iald0 rfl (by assumption) (by omega) ?_ | refine zw_lald0 rfl (by assumption) (by omega) ?_ | refine zw_aaln rfl (by assumption) rfl (by omega) ?_ | refine zw_getR rfl (by assumption) (by assumption) ?_ | refine zw_alen rfl (by assumption) rfl ?_ | refine zw_iald rfl (by assumption) (by omega) (by omega) ?_ | refine zw_iast rfl (by omega) (by assumption) (by omega) (by omega) ?_ | refine zw_putI rfl (by assumption) ?_ | refine zw_lald rfl (by assumption) (by omega) (by omega) ?_ | refine zw_last rfl (by assumption) (by omega) (by omega) ?_ | refine zw_iadd rfl (by omega) (by omega) ?_ | refine zw_isub rfl (by omega) (by omega) ?_ | refine zw_iinc rfl rfl rfl (by omega) (by omega) ?_)
      refine zw_goto rfl ?_
      refine ih (i + 1) _ _ (by omega) (fun y hy => ?_)
      have e : ((n : Int) - (i : Int)) = ((n - i : Nat) : Int) := by omega
      rw [e]
      show zbit (t ||| _) y = _
      rw [zbit_or, ht y hy, zbit_shl _ _ _ (by omega) hy, zbit_and, zbit_shr _ _ _ (by omega)]
      erw [zbit_one]
      by_cases hyn : y = n - i
      · subst hyn
        rw [show n - (n - i) = i by omega]
        simp [show ¬ (n < n - i + i) by omega, show n < n - i + (i + 1) by omega]
      · by_cases h1 : n - i ≤ y
        · by_cases h2 : y ≤ n
          · have h3 : n < y + i := by omega
            simp [h2, h3, show n < y + (i + 1) by omega, show ¬ (y - (n - i) = 0) by omega]
          · simp [h2, show ¬ (y - (n - i) = 0) by omega]
        · simp [h1, show ¬ (n < y + i) by omega, show ¬ (n < y + (i + 1)) by omega]
  repeat (refine zw_ne 5 rfl ?_; first | refine zw_t rfl rfl ?_ | refine zw_jump rfl rfl ?_ | refine zw_getI rfl rfl (by assumption) ?_ | refine zw_ialn rfl (by assumption) (by omega) ?_ | refine zw_laln rfl (by assumption) (by omega) ?_ | refine zw_iastn rfl (by omega) (by assumption) (by omega) ?_ | refine zw_lastn rfl (by assumption) (by omega) ?_ | refine zw_iald0 rfl (by assumption) (by omega) ?_ | refine zw_lald0 rfl (by assumption) (by omega) ?_ | refine zw_aaln rfl (by assumption) rfl (by omega) ?_ | refine zw_getR rfl (by assumption) (by assumption) ?_ | refine zw_alen rfl (by assumption) rfl ?_ | refine zw_iald rfl (by assumption) (by omega) (by omega) ?_ | refine zw_iast rfl (by omega) (by assumption) (by omega) (by omega) ?_ | refine zw_putI rfl (by assumption) ?_ | refine zw_lald rfl (by assumption) (by omega) (by omega) ?_ | refine zw_last rfl (by assumption) (by omega) (by omega) ?_ | refine zw_iadd rfl (by omega) (by omega) ?_ | refine zw_isub rfl (by omega) (by omega) ?_ | refine zw_iinc rfl rfl rfl (by omega) (by omega) ?_)
  refine loop (n + 1) 0 _ _ (by omega) (fun y hy => ?_)
  have z0 : zbit (Int64.ofNat 0) y = false := by unfold zbit; exact BitVec.getLsbD_zero
  refine Eq.trans z0 ?_
  by_cases h1 : y ≤ n
  · simp [show ¬ (n < y) by omega]
  · simp [h1]
