/-! FIELDS: lines and powers of the class -/
theorem z_fp_succ (g p a b c w m i t o n : Nat) : z_fp g p a b c w (m + 1) i t o n = (bif Nat.beq (bif Nat.beq g 3 then t else o) w then [i] else []) ++ z_fp g p a b c w m (i + 1) (z_n2 g p a t o) (z_n1 g p b t o n) (z_n0 g p c t o) := by
  show _ ++ z_fc _ _ = _
  simp only [z_fc_eq]
theorem z_fp_spec {g p a b c w : Nat} : ∀ (m i t o n : Nat), (∀ x ∈ z_fp g p a b c w m i t o n, i ≤ x ∧ x < i + m) ∧ List.Pairwise (fun x y => x < y) (z_fp g p a b c w m i t o n)
  | 0, i, t, o, n => ⟨fun x hx => (by cases hx), List.Pairwise.nil⟩
  | m + 1, i, t, o, n => by
    obtain ⟨h1, h2⟩ := z_fp_spec (g := g) (p := p) (a := a) (b := b) (c := c) (w := w) m (i + 1) (z_n2 g p a t o) (z_n1 g p b t o n) (z_n0 g p c t o)
    rw [z_fp_succ]
    cases Nat.beq (bif Nat.beq g 3 then t else o) w with
    | true =>
      rw [cond_true, List.singleton_append]
      refine ⟨fun x hx => ?_, List.pairwise_cons.2 ⟨fun y hy => by have := h1 y hy; omega, h2⟩⟩
      rcases List.mem_cons.1 hx with e | e
      · omega
      · have := h1 x e; omega
    | false =>
      rw [cond_false, List.nil_append]
      exact ⟨fun x hx => by have := h1 x hx; omega, h2⟩
/-- a rising row of numbers less its first one -/
def z_lsf (l : List Nat) (j : Nat) : Int := (l.getD j 0 : Int) - (l.headD 0 : Int)
theorem z_getD_lt {l : List Nat} (h : List.Pairwise (fun x y => x < y) l) {i j : Nat} (hij : i < j) (hj : j < l.length) : l.getD i 0 < l.getD j 0 := by
  rw [List.getD_eq_getElem?_getD, List.getD_eq_getElem?_getD, List.getElem?_eq_getElem hj, List.getElem?_eq_getElem (show i < l.length by omega)]
  exact List.pairwise_iff_getElem.1 h i j (by omega) hj hij
theorem z_headD {l : List Nat} : l.headD 0 = l.getD 0 0 := by cases l <;> rfl
theorem z_lsf_row {l : List Nat} {e : Nat} (h : List.Pairwise (fun x y => x < y) l) (hb : ∀ x ∈ l, x < e) (hl : l.length ≤ 24) (he : 2 ≤ e ∧ e ≤ 400) : ZRow (z_lsf l) l.length (e : Int) := by
  have hm : ∀ j, j < l.length → l.headD 0 ≤ l.getD j 0 ∧ l.getD j 0 < e := fun j hj => by
    refine ⟨?_, hb _ (by rw [List.getD_eq_getElem?_getD, List.getElem?_eq_getElem hj]; exact List.getElem_mem hj)⟩
    rw [z_headD]
    by_cases h0 : j = 0
    · rw [h0]; exact Nat.le_refl _
    · exact Nat.le_of_lt (z_getD_lt h (by omega) hj)
  refine ⟨hl, fun i j hij hj => ?_, fun j hj => ?_, by omega, fun _ => ⟨by omega, fun j hj => ?_⟩, fun _ => ?_⟩
  · have := z_getD_lt h hij hj
    unfold z_lsf
    omega
  · have := hm j hj
    unfold z_lsf
    omega
  · have := hm j hj
    unfold z_lsf
    omega
  · unfold z_lsf
    rw [z_headD]
    omega
theorem z_fck_facts {g p : Nat} (h : z_fck g p = true) : ∃ r : Nat, z_rul (20 * g + p) = (r : Int) ∧ 1 ≤ r ∧ r < z_all g p ∧ (∀ x, 1 ≤ x → x < r → z_whr g p x = false) ∧ z_whr g p r = true ∧ (z_fpl g p).length ≤ 24 ∧ z_fpl g p ≠ [] ∧ (z_rul (20 * g + p)).toNat = r := by
  unfold z_fck at h
  simp only [Bool.and_eq_true] at h
  obtain ⟨⟨⟨⟨⟨h1, h2⟩, h3⟩, h4⟩, h5⟩, h6⟩ := h
  have h3 := Nat.le_of_ble_eq_true h3
  have h4 : (z_rul (20 * g + p)).toNat + 1 ≤ z_all g p := Nat.le_of_ble_eq_true h4
  refine ⟨(z_rul (20 * g + p)).toNat, by omega, h3, by omega, fun x x1 x2 => ?_, h2, Nat.le_of_ble_eq_true h5, fun q => ?_, rfl⟩
  · have := z_al_iff _ _ h1 x x1 (by omega)
    cases hz : z_whr g p x with
    | false => rfl
    | true => rw [hz] at this; cases this
  · rw [q] at h6; cases h6
theorem z_all_le {g p : Nat} (hg : g = 2 ∨ g = 3) (hp : 2 ≤ p ∧ p ≤ 19) : z_all g p ≤ 6859 ∧ p * p ≤ 361 ∧ p * p * p ≤ 6859 ∧ 4 ≤ p * p := by
  have h1 : p * p ≤ 361 := z_mul_le (c := 19) (d := 19) (by omega) (by omega)
  have h2 : p * p * p ≤ 6859 := z_mul_le (c := 361) (d := 19) h1 (by omega)
  refine ⟨?_, h1, h2, z_mul_le (a := 2) (b := 2) (by omega) (by omega)⟩
  unfold z_all
  cases Nat.beq g 3
  · rw [cond_false]; omega
  · rw [cond_true]; omega
section ZField2
variable {d g p : Nat} {A : ZA} {k : ZK} {F I : Nat → Nat → Int} {L : Nat → Nat → Int64} {R : Nat → Nat → Option Nat} {Q : Option ZV → ZH → Prop}
theorem c_firstRule (hk : ZFk k) (hg : g = 2 ∨ g = 3) (hp : 2 ≤ p ∧ p ≤ 19) (hck : z_fck g p = true)
    (K : ∀ I', (∀ x, x ≠ 19 → x ≠ 20 → I' x = I x) → Q (some (.inl (z_rul (20 * g + p)))) (k, F, I', L, R)) : ZC (d + 4) 11 [.inr (.inr (some 18)), .inl (p : Int), .inl (g : Int)] (k, F, I, L, R) Q := by
  obtain ⟨r, r1, r2, r3, r4, r5, _⟩ := z_fck_facts hck
  obtain ⟨b1, b2, b3, b4⟩ := z_all_le hg hp
  rw [r1] at K
  have hk0 := hk
  obtain ⟨k1, k2, k3, k4, k5, k6, k7⟩ := hk
  have c1 : (p : Int) * (p : Int) = ((p * p : Nat) : Int) := by rw [Int.natCast_mul]
  have c2 : ((p * p : Nat) : Int) * (p : Int) = ((p * p * p : Nat) : Int) := by rw [Int.natCast_mul (p * p)]
  have loop : ∀ (m i : Nat) (I1 : Nat → Nat → Int), m + i = r → 1 ≤ i → (∀ x, x ≠ 19 → x ≠ 20 → I1 x = I x) → ZW (d + 3) 11 20 [some (.inr (.inr (some 18))), some (.inl (p : Int)), some (.inl (g : Int)), some (.inl (z_all g p : Int)), some (.inl (i : Int))] [] (k, F, I1, L, R) Q := by
    intro m
    induction m with
    | zero =>
      intro i I1 hi h1 hI
      have hi : i = r := by omega
      repeat (first | refine zw_t rfl rfl ?_ | refine zw_jump rfl rfl ?_ | refine zw_getI rfl rfl (by assumption) ?_ | refine zw_ialn rfl (by assumption) (by omega) ?_ | refine zw_laln rfl (by assumption) (by omega) ?_ | refine zw_iastn rfl (by omega) (by assumption) (by omega) ?_ | refine zw_lastn rfl (by assumption) (by omega) ?_ | refine zw_iald0 rfl (by assumption) (by omega) ?_ | refine zw_lald0 rfl (by assumption) (by omega) ?_ | refine zw_aaln rfl (by assumption) rfl (by omega) ?_ | refine zw_getR rfl (by assumption) (by assumption) ?_ | refine zw_alen rfl (by assumption) rfl ?_ | refine zw_iald rfl (by assumption) (by omega) (by omega) ?_ | refine zw_iast rfl (by omega) (by assumption) (by omega) (by omega) ?_ | refine zw_putI rfl (by assumption) ?_ | refine zw_lald rfl (by assumption) (by omega) (by omega) ?_ | refine zw_last rfl (by assumption) (by omega) (by omega) ?_ | refine zw_iadd rfl (by omega) (by omega) ?_ | refine zw_isub rfl (by omega) (by omega) ?_ | refine zw_iinc rfl rfl rfl (by omega) (by omega) ?_)
      refine zw_icmp_ge_f rfl (by omega) ?_
      repeat (first | refine zw_t rfl rfl ?_ | refine zw_jump rfl rfl ?_ | refine zw_getI rfl rfl (by assumption) ?_ | refine zw_ialn rfl (by assumption) (by omega) ?_ | refine zw_laln rfl (by assumption) (by omega) ?_ | refine zw_iastn rfl (by omega) (by assumption) (by omega) ?_ | refine zw_lastn rfl (by assumption) (by omega) ?_ | refine zw_iald0 rfl (by assumption) (by omega) ?_ | refine zw_lald0 rfl (by assumption) (by omega) ?_ | refine zw_aaln rfl (by assumption) rfl (by omega) ?_ | refine zw_getR rfl (by assumption) (by assumption) ?_ | refine zw_alen rfl (by assumption) rfl ?_ | refine zw_iald rfl (by assumption) (by omega) (by omega) ?_ | refine zw_iast rfl (by omega) (by assumption) (by omega) (by omega) ?_ | refine zw_putI rfl (by assumption) ?_ | refine zw_lald rfl (by assumption) (by omega) (by omega) ?_ | refine zw_last rfl (by assumption) (by omega) (by omega) ?_ | refine zw_iadd rfl (by omega) (by omega) ?_ | refine zw_isub rfl (by omega) (by omega) ?_ | refine zw_iinc rfl rfl rfl (by omega) (by omega) ?_)
      refine zw_callv rfl rfl rfl rfl rfl rfl (by assumption) ?_
      refine ZC.le (show d + 1 ≤ _ by omega) ?_
      refine c_readRule hk0 hg hp (fun I2 h2 rl => ?_)
      repeat (first | refine zw_t rfl rfl ?_ | refine zw_jump rfl rfl ?_ | refine zw_getI rfl rfl (by assumption) ?_ | refine zw_ialn rfl (by assumption) (by omega) ?_ | refine zw_laln rfl (by assumption) (by omega) ?_ | refine zw_iastn rfl (by omega) (by assumption) (by omega) ?_ | refine zw_lastn rfl (by assumption) (by omega) ?_ | refine zw_iald0 rfl (by assumption) (by omega) ?_ | refine zw_lald0 rfl (by assumption) (by omega) ?_ | refine zw_aaln rfl (by assumption) rfl (by omega) ?_ | refine zw_getR rfl (by assumption) (by assumption) ?_ | refine zw_alen rfl (by assumption) rfl ?_ | refine zw_iald rfl (by assumption) (by omega) (by omega) ?_ | refine zw_iast rfl (by omega) (by assumption) (by omega) (by omega) ?_ | refine zw_putI rfl (by assumption) ?_ | refine zw_lald rfl (by assumption) (by omega) (by omega) ?_ | refine zw_last rfl (by assumption) (by omega) (by omega) ?_ | refine zw_iadd rfl (by omega) (by omega) ?_ | refine zw_isub rfl (by omega) (by omega) ?_ | refine zw_iinc rfl rfl rfl (by omega) (by omega) ?_)
      rw [show (z_all g p : Int) - 1 = ((z_all g p - 1 : Nat) : Int) by omega]
      refine zw_callv rfl rfl rfl rfl rfl rfl (by assumption) ?_
      refine c_isWhole hk0 hg hp rl ⟨Nat.mod_lt _ (by omega), Nat.mod_lt _ (by omega), Nat.mod_lt _ (by omega)⟩ (by omega) (fun I3 h3 => ?_)
      have e : (!(Nat.beq (i % p) 0) && z_wh g p (i / p / p % p) (i / p % p) (i % p) (z_all g p - 1) 0 0 1) = true := by rw [hi]; exact r5
      rw [e]
      refine zw_if_eq_f rfl (by decide) ?_
      repeat (first | refine zw_t rfl rfl ?_ | refine zw_jump rfl rfl ?_ | refine zw_getI rfl rfl (by assumption) ?_ | refine zw_ialn rfl (by assumption) (by omega) ?_ | refine zw_laln rfl (by assumption) (by omega) ?_ | refine zw_iastn rfl (by omega) (by assumption) (by omega) ?_ | refine zw_lastn rfl (by assumption) (by omega) ?_ | refine zw_iald0 rfl (by assumption) (by omega) ?_ | refine zw_lald0 rfl (by assumption) (by omega) ?_ | refine zw_aaln rfl (by assumption) rfl (by omega) ?_ | refine zw_getR rfl (by assumption) (by assumption) ?_ | refine zw_alen rfl (by assumption) rfl ?_ | refine zw_iald rfl (by assumption) (by omega) (by omega) ?_ | refine zw_iast rfl (by omega) (by assumption) (by omega) (by omega) ?_ | refine zw_putI rfl (by assumption) ?_ | refine zw_lald rfl (by assumption) (by omega) (by omega) ?_ | refine zw_last rfl (by assumption) (by omega) (by omega) ?_ | refine zw_iadd rfl (by omega) (by omega) ?_ | refine zw_isub rfl (by omega) (by omega) ?_ | refine zw_iinc rfl rfl rfl (by omega) (by omega) ?_)
      rw [hi]
      exact zw_iret rfl (K I3 (fun x x1 x2 => (h3 x x2).trans ((h2 x x1).trans (hI x x1 x2))))
    | succ m ih =>
      intro i I1 hi h1 hI
      repeat (first | refine zw_t rfl rfl ?_ | refine zw_jump rfl rfl ?_ | refine zw_getI rfl rfl (by assumption) ?_ | refine zw_ialn rfl (by assumption) (by omega) ?_ | refine zw_laln rfl (by assumption) (by omega) ?_ | refine zw_iastn rfl (by omega) (by assumption) (by omega) ?_ | refine zw_lastn rfl (by assumption) (by omega) ?_ | refine zw_iald0 rfl (by assumption) (by omega) ?_ | refine zw_lald0 rfl (by assumption) (by omega) ?_ | refine zw_aaln rfl (by assumption) rfl (by omega) ?_ | refine zw_getR rfl (by assumption) (by assumption) ?_ | refine zw_alen rfl (by assumption) rfl ?_ | refine zw_iald rfl (by assumption) (by omega) (by omega) ?_ | refine zw_iast rfl (by omega) (by assumption) (by omega) (by omega) ?_ | refine zw_putI rfl (by assumption) ?_ | refine zw_lald rfl (by assumption) (by omega) (by omega) ?_ | refine zw_last rfl (by assumption) (by omega) (by omega) ?_ | refine zw_iadd rfl (by omega) (by omega) ?_ | refine zw_isub rfl (by omega) (by omega) ?_ | refine zw_iinc rfl rfl rfl (by omega) (by omega) ?_)
      refine zw_icmp_ge_f rfl (by omega) ?_
      repeat (first | refine zw_t rfl rfl ?_ | refine zw_jump rfl rfl ?_ | refine zw_getI rfl rfl (by assumption) ?_ | refine zw_ialn rfl (by assumption) (by omega) ?_ | refine zw_laln rfl (by assumption) (by omega) ?_ | refine zw_iastn rfl (by omega) (by assumption) (by omega) ?_ | refine zw_lastn rfl (by assumption) (by omega) ?_ | refine zw_iald0 rfl (by assumption) (by omega) ?_ | refine zw_lald0 rfl (by assumption) (by omega) ?_ | refine zw_aaln rfl (by assumption) rfl (by omega) ?_ | refine zw_getR rfl (by assumption) (by assumption) ?_ | refine zw_alen rfl (by assumption) rfl ?_ | refine zw_iald rfl (by assumption) (by omega) (by omega) ?_ | refine zw_iast rfl (by omega) (by assumption) (by omega) (by omega) ?_ | refine zw_putI rfl (by assumption) ?_ | refine zw_lald rfl (by assumption) (by omega) (by omega) ?_ | refine zw_last rfl (by assumption) (by omega) (by omega) ?_ | refine zw_iadd rfl (by omega) (by omega) ?_ | refine zw_isub rfl (by omega) (by omega) ?_ | refine zw_iinc rfl rfl rfl (by omega) (by omega) ?_)
      refine zw_callv rfl rfl rfl rfl rfl rfl (by assumption) ?_
      refine ZC.le (show d + 1 ≤ _ by omega) ?_
      refine c_readRule hk0 hg hp (fun I2 h2 rl => ?_)
      repeat (first | refine zw_t rfl rfl ?_ | refine zw_jump rfl rfl ?_ | refine zw_getI rfl rfl (by assumption) ?_ | refine zw_ialn rfl (by assumption) (by omega) ?_ | refine zw_laln rfl (by assumption) (by omega) ?_ | refine zw_iastn rfl (by omega) (by assumption) (by omega) ?_ | refine zw_lastn rfl (by assumption) (by omega) ?_ | refine zw_iald0 rfl (by assumption) (by omega) ?_ | refine zw_lald0 rfl (by assumption) (by omega) ?_ | refine zw_aaln rfl (by assumption) rfl (by omega) ?_ | refine zw_getR rfl (by assumption) (by assumption) ?_ | refine zw_alen rfl (by assumption) rfl ?_ | refine zw_iald rfl (by assumption) (by omega) (by omega) ?_ | refine zw_iast rfl (by omega) (by assumption) (by omega) (by omega) ?_ | refine zw_putI rfl (by assumption) ?_ | refine zw_lald rfl (by assumption) (by omega) (by omega) ?_ | refine zw_last rfl (by assumption) (by omega) (by omega) ?_ | refine zw_iadd rfl (by omega) (by omega) ?_ | refine zw_isub rfl (by omega) (by omega) ?_ | refine zw_iinc rfl rfl rfl (by omega) (by omega) ?_)
      rw [show (z_all g p : Int) - 1 = ((z_all g p - 1 : Nat) : Int) by omega]
      refine zw_callv rfl rfl rfl rfl rfl rfl (by assumption) ?_
      refine c_isWhole hk0 hg hp rl ⟨Nat.mod_lt _ (by omega), Nat.mod_lt _ (by omega), Nat.mod_lt _ (by omega)⟩ (by omega) (fun I3 h3 => ?_)
      have e : (!(Nat.beq (i % p) 0) && z_wh g p (i / p / p % p) (i / p % p) (i % p) (z_all g p - 1) 0 0 1) = false := r4 i h1 (by omega)
      rw [e]
      refine zw_if_eq_t rfl rfl ?_
      repeat (first | refine zw_t rfl rfl ?_ | refine zw_jump rfl rfl ?_ | refine zw_getI rfl rfl (by assumption) ?_ | refine zw_ialn rfl (by assumption) (by omega) ?_ | refine zw_laln rfl (by assumption) (by omega) ?_ | refine zw_iastn rfl (by omega) (by assumption) (by omega) ?_ | refine zw_lastn rfl (by assumption) (by omega) ?_ | refine zw_iald0 rfl (by assumption) (by omega) ?_ | refine zw_lald0 rfl (by assumption) (by omega) ?_ | refine zw_aaln rfl (by assumption) rfl (by omega) ?_ | refine zw_getR rfl (by assumption) (by assumption) ?_ | refine zw_alen rfl (by assumption) rfl ?_ | refine zw_iald rfl (by assumption) (by omega) (by omega) ?_ | refine zw_iast rfl (by omega) (by assumption) (by omega) (by omega) ?_ | refine zw_putI rfl (by assumption) ?_ | refine zw_lald rfl (by assumption) (by omega) (by omega) ?_ | refine zw_last rfl (by assumption) (by omega) (by omega) ?_ | refine zw_iadd rfl (by omega) (by omega) ?_ | refine zw_isub rfl (by omega) (by omega) ?_ | refine zw_iinc rfl rfl rfl (by omega) (by omega) ?_)
      refine zw_goto rfl ?_
      exact ih (i + 1) I3 (by omega) (by omega) (fun x x1 x2 => (h3 x x2).trans ((h2 x x1).trans (hI x x1 x2)))
  refine ze_Field_firstRule ?_
  repeat (first | refine zw_t rfl rfl ?_ | refine zw_jump rfl rfl ?_ | refine zw_getI rfl rfl (by assumption) ?_ | refine zw_ialn rfl (by assumption) (by omega) ?_ | refine zw_laln rfl (by assumption) (by omega) ?_ | refine zw_iastn rfl (by omega) (by assumption) (by omega) ?_ | refine zw_lastn rfl (by assumption) (by omega) ?_ | refine zw_iald0 rfl (by assumption) (by omega) ?_ | refine zw_lald0 rfl (by assumption) (by omega) ?_ | refine zw_aaln rfl (by assumption) rfl (by omega) ?_ | refine zw_getR rfl (by assumption) (by assumption) ?_ | refine zw_alen rfl (by assumption) rfl ?_ | refine zw_iald rfl (by assumption) (by omega) (by omega) ?_ | refine zw_iast rfl (by omega) (by assumption) (by omega) (by omega) ?_ | refine zw_putI rfl (by assumption) ?_ | refine zw_lald rfl (by assumption) (by omega) (by omega) ?_ | refine zw_last rfl (by assumption) (by omega) (by omega) ?_ | refine zw_iadd rfl (by omega) (by omega) ?_ | refine zw_isub rfl (by omega) (by omega) ?_ | refine zw_iinc rfl rfl rfl (by omega) (by omega) ?_)
  rcases hg with hg | hg
  · subst hg
    refine zw_icmp_ne_t rfl (by omega) ?_
    repeat (first | refine zw_t rfl rfl ?_ | refine zw_jump rfl rfl ?_ | refine zw_getI rfl rfl (by assumption) ?_ | refine zw_ialn rfl (by assumption) (by omega) ?_ | refine zw_laln rfl (by assumption) (by omega) ?_ | refine zw_iastn rfl (by omega) (by assumption) (by omega) ?_ | refine zw_lastn rfl (by assumption) (by omega) ?_ | refine zw_iald0 rfl (by assumption) (by omega) ?_ | refine zw_lald0 rfl (by assumption) (by omega) ?_ | refine zw_aaln rfl (by assumption) rfl (by omega) ?_ | refine zw_getR rfl (by assumption) (by assumption) ?_ | refine zw_alen rfl (by assumption) rfl ?_ | refine zw_iald rfl (by assumption) (by omega) (by omega) ?_ | refine zw_iast rfl (by omega) (by assumption) (by omega) (by omega) ?_ | refine zw_putI rfl (by assumption) ?_ | refine zw_lald rfl (by assumption) (by omega) (by omega) ?_ | refine zw_last rfl (by assumption) (by omega) (by omega) ?_ | refine zw_iadd rfl (by omega) (by omega) ?_ | refine zw_isub rfl (by omega) (by omega) ?_ | refine zw_iinc rfl rfl rfl (by omega) (by omega) ?_)
    refine zw_imul rfl (by rw [c1]; omega) (by rw [c1]; omega) ?_
    rw [c1]
    repeat (refine zw_ne 20 rfl ?_; first | refine zw_t rfl rfl ?_ | refine zw_jump rfl rfl ?_ | refine zw_getI rfl rfl (by assumption) ?_ | refine zw_ialn rfl (by assumption) (by omega) ?_ | refine zw_laln rfl (by assumption) (by omega) ?_ | refine zw_iastn rfl (by omega) (by assumption) (by omega) ?_ | refine zw_lastn rfl (by assumption) (by omega) ?_ | refine zw_iald0 rfl (by assumption) (by omega) ?_ | refine zw_lald0 rfl (by assumption) (by omega) ?_ | refine zw_aaln rfl (by assumption) rfl (by omega) ?_ | refine zw_getR rfl (by assumption) (by assumption) ?_ | refine zw_alen rfl (by assumption) rfl ?_ | refine zw_iald rfl (by assumption) (by omega) (by omega) ?_ | refine zw_iast rfl (by omega) (by assumption) (by omega) (by omega) ?_ | refine zw_putI rfl (by assumption) ?_ | refine zw_lald rfl (by assumption) (by omega) (by omega) ?_ | refine zw_last rfl (by assumption) (by omega) (by omega) ?_ | refine zw_iadd rfl (by omega) (by omega) ?_ | refine zw_isub rfl (by omega) (by omega) ?_ | refine zw_iinc rfl rfl rfl (by omega) (by omega) ?_)
    exact loop (r - 1) 1 I (by omega) (by omega) (fun _ _ _ => rfl)
  · subst hg
    refine zw_icmp_ne_f rfl (by omega) ?_
    repeat (first | refine zw_t rfl rfl ?_ | refine zw_jump rfl rfl ?_ | refine zw_getI rfl rfl (by assumption) ?_ | refine zw_ialn rfl (by assumption) (by omega) ?_ | refine zw_laln rfl (by assumption) (by omega) ?_ | refine zw_iastn rfl (by omega) (by assumption) (by omega) ?_ | refine zw_lastn rfl (by assumption) (by omega) ?_ | refine zw_iald0 rfl (by assumption) (by omega) ?_ | refine zw_lald0 rfl (by assumption) (by omega) ?_ | refine zw_aaln rfl (by assumption) rfl (by omega) ?_ | refine zw_getR rfl (by assumption) (by assumption) ?_ | refine zw_alen rfl (by assumption) rfl ?_ | refine zw_iald rfl (by assumption) (by omega) (by omega) ?_ | refine zw_iast rfl (by omega) (by assumption) (by omega) (by omega) ?_ | refine zw_putI rfl (by assumption) ?_ | refine zw_lald rfl (by assumption) (by omega) (by omega) ?_ | refine zw_last rfl (by assumption) (by omega) (by omega) ?_ | refine zw_iadd rfl (by omega) (by omega) ?_ | refine zw_isub rfl (by omega) (by omega) ?_ | refine zw_iinc rfl rfl rfl (by omega) (by omega) ?_)
    refine zw_imul rfl (by rw [c1]; omega) (by rw [c1]; omega) ?_
    rw [c1]
    repeat (first | refine zw_t rfl rfl ?_ | refine zw_jump rfl rfl ?_ | refine zw_getI rfl rfl (by assumption) ?_ | refine zw_ialn rfl (by assumption) (by omega) ?_ | refine zw_laln rfl (by assumption) (by omega) ?_ | refine zw_iastn rfl (by omega) (by assumption) (by omega) ?_ | refine zw_lastn rfl (by assumption) (by omega) ?_ | refine zw_iald0 rfl (by assumption) (by omega) ?_ | refine zw_lald0 rfl (by assumption) (by omega) ?_ | refine zw_aaln rfl (by assumption) rfl (by omega) ?_ | refine zw_getR rfl (by assumption) (by assumption) ?_ | refine zw_alen rfl (by assumption) rfl ?_ | refine zw_iald rfl (by assumption) (by omega) (by omega) ?_ | refine zw_iast rfl (by omega) (by assumption) (by omega) (by omega) ?_ | refine zw_putI rfl (by assumption) ?_ | refine zw_lald rfl (by assumption) (by omega) (by omega) ?_ | refine zw_last rfl (by assumption) (by omega) (by omega) ?_ | refine zw_iadd rfl (by omega) (by omega) ?_ | refine zw_isub rfl (by omega) (by omega) ?_ | refine zw_iinc rfl rfl rfl (by omega) (by omega) ?_)
    refine zw_imul rfl (by rw [c2]; omega) (by rw [c2]; omega) ?_
    rw [c2]
    repeat (refine zw_ne 20 rfl ?_; first | refine zw_t rfl rfl ?_ | refine zw_jump rfl rfl ?_ | refine zw_getI rfl rfl (by assumption) ?_ | refine zw_ialn rfl (by assumption) (by omega) ?_ | refine zw_laln rfl (by assumption) (by omega) ?_ | refine zw_iastn rfl (by omega) (by assumption) (by omega) ?_ | refine zw_lastn rfl (by assumption) (by omega) ?_ | refine zw_iald0 rfl (by assumption) (by omega) ?_ | refine zw_lald0 rfl (by assumption) (by omega) ?_ | refine zw_aaln rfl (by assumption) rfl (by omega) ?_ | refine zw_getR rfl (by assumption) (by assumption) ?_ | refine zw_alen rfl (by assumption) rfl ?_ | refine zw_iald rfl (by assumption) (by omega) (by omega) ?_ | refine zw_iast rfl (by omega) (by assumption) (by omega) (by omega) ?_ | refine zw_putI rfl (by assumption) ?_ | refine zw_lald rfl (by assumption) (by omega) (by omega) ?_ | refine zw_last rfl (by assumption) (by omega) (by omega) ?_ | refine zw_iadd rfl (by omega) (by omega) ?_ | refine zw_isub rfl (by omega) (by omega) ?_ | refine zw_iinc rfl rfl rfl (by omega) (by omega) ?_)
    exact loop (r - 1) 1 I (by omega) (by omega) (fun _ _ _ => rfl)
theorem c_fwrite {t : Nat} (h : ZB A k F I L R) (ht : t < 16) (hg : g = 2 ∨ g = 3) (hp : 2 ≤ p ∧ p ≤ 19) (hck : z_fck g p = true) (hrd : 2 ≤ z_rnd g p ∧ z_rnd g p ≤ 400)
    (K : ∀ F' I', ZKp F I L F' I' L → ZB (A.1, z_up A.2.1 t ((z_fpl g p).length, (z_rnd g p : Int), z_lsf (z_fpl g p)), A.2.2) k F' I' L R → Q none (k, F', I', L, R)) : ZC (d + 5) 10 [.inr (.inr (some 18)), .inl (p : Int), .inl (g : Int), .inl (z_wan g : Int), .inl (z_rnd g p : Int), .inr (.inr (some (34 + 2 * t)))] (k, F, I, L, R) Q := by
  obtain ⟨r, r1, r2, r3, r4, r5, r6, r7, r8⟩ := z_fck_facts hck
  have hk : ZFk k := h.2.1.2.2.2.1
  have hru := h.2.1.2.2.2.2.2.1 t ht
  have hk0 := hk
  obtain ⟨k1, k2, k3, k4, k5, k6, k7⟩ := hk
  have Tt := hru.2.1
  have c21 := h.2.2.2.2.2.1.2.1 (20 * g + p) (by omega)
  rw [r1] at c21
  have ek : (g : Int) * 20 + (p : Int) = ((20 * g + p : Nat) : Int) := by omega
  obtain ⟨s1, s2⟩ := z_fp_spec (g := g) (p := p) (a := r / p / p % p) (b := r / p % p) (c := r % p) (w := z_wan g) (z_rnd g p) 0 0 0 1
  have efp : z_fpl g p = z_fp g p (r / p / p % p) (r / p % p) (r % p) (z_wan g) (z_rnd g p) 0 0 0 1 := by unfold z_fpl; rw [r8]
  rw [← efp] at s1 s2
  have hrow := z_lsf_row (e := z_rnd g p) s2 (fun x hx => by have := s1 x hx; omega) r6 hrd
  have go : ∀ (I1 : Nat → Nat → Int), I1 21 (20 * g + p) = (r : Int) → (∀ x, x ≠ 19 → x ≠ 20 → x ≠ 21 → I1 x = I x) → (∀ j, j < 80 → I1 21 j = 0 ∨ I1 21 j = z_rul j) → ZW (d + 4) 10 43 [some (.inr (.inr (some 18))), some (.inl (p : Int)), some (.inl (g : Int)), some (.inl (z_wan g : Int)), some (.inl (z_rnd g p : Int)), some (.inr (.inr (some (34 + 2 * t)))), some (.inl ((20 * g + p : Nat) : Int)), none, none] [] (k, F, I1, L, R) Q := by
    intro I1 hI1 hIr hI21
    repeat (first | refine zw_t rfl rfl ?_ | refine zw_jump rfl rfl ?_ | refine zw_getI rfl rfl (by assumption) ?_ | refine zw_ialn rfl (by assumption) (by omega) ?_ | refine zw_laln rfl (by assumption) (by omega) ?_ | refine zw_iastn rfl (by omega) (by assumption) (by omega) ?_ | refine zw_lastn rfl (by assumption) (by omega) ?_ | refine zw_iald0 rfl (by assumption) (by omega) ?_ | refine zw_lald0 rfl (by assumption) (by omega) ?_ | refine zw_aaln rfl (by assumption) rfl (by omega) ?_ | refine zw_getR rfl (by assumption) (by assumption) ?_ | refine zw_alen rfl (by assumption) rfl ?_ | refine zw_iald rfl (by assumption) (by omega) (by omega) ?_ | refine zw_iast rfl (by omega) (by assumption) (by omega) (by omega) ?_ | refine zw_putI rfl (by assumption) ?_ | refine zw_lald rfl (by assumption) (by omega) (by omega) ?_ | refine zw_last rfl (by assumption) (by omega) (by omega) ?_ | refine zw_iadd rfl (by omega) (by omega) ?_ | refine zw_isub rfl (by omega) (by omega) ?_ | refine zw_iinc rfl rfl rfl (by omega) (by omega) ?_)
    rw [hI1]
    refine zw_callv rfl rfl rfl rfl rfl rfl (by assumption) ?_
    refine ZC.le (show d + 1 ≤ _ by omega) ?_
    refine c_readRule hk0 hg hp (fun I2 h2 rl => ?_)
    repeat (first | refine zw_t rfl rfl ?_ | refine zw_jump rfl rfl ?_ | refine zw_getI rfl rfl (by assumption) ?_ | refine zw_ialn rfl (by assumption) (by omega) ?_ | refine zw_laln rfl (by assumption) (by omega) ?_ | refine zw_iastn rfl (by omega) (by assumption) (by omega) ?_ | refine zw_lastn rfl (by assumption) (by omega) ?_ | refine zw_iald0 rfl (by assumption) (by omega) ?_ | refine zw_lald0 rfl (by assumption) (by omega) ?_ | refine zw_aaln rfl (by assumption) rfl (by omega) ?_ | refine zw_getR rfl (by assumption) (by assumption) ?_ | refine zw_alen rfl (by assumption) rfl ?_ | refine zw_iald rfl (by assumption) (by omega) (by omega) ?_ | refine zw_iast rfl (by omega) (by assumption) (by omega) (by omega) ?_ | refine zw_putI rfl (by assumption) ?_ | refine zw_lald rfl (by assumption) (by omega) (by omega) ?_ | refine zw_last rfl (by assumption) (by omega) (by omega) ?_ | refine zw_iadd rfl (by omega) (by omega) ?_ | refine zw_isub rfl (by omega) (by omega) ?_ | refine zw_iinc rfl rfl rfl (by omega) (by omega) ?_)
    refine zw_callv rfl rfl rfl rfl rfl rfl (by assumption) ?_
    refine ZC.le (show d + 1 ≤ _ by omega) ?_
    refine c_begin hru ?_
    repeat (first | refine zw_t rfl rfl ?_ | refine zw_jump rfl rfl ?_ | refine zw_getI rfl rfl (by assumption) ?_ | refine zw_ialn rfl (by assumption) (by omega) ?_ | refine zw_laln rfl (by assumption) (by omega) ?_ | refine zw_iastn rfl (by omega) (by assumption) (by omega) ?_ | refine zw_lastn rfl (by assumption) (by omega) ?_ | refine zw_iald0 rfl (by assumption) (by omega) ?_ | refine zw_lald0 rfl (by assumption) (by omega) ?_ | refine zw_aaln rfl (by assumption) rfl (by omega) ?_ | refine zw_getR rfl (by assumption) (by assumption) ?_ | refine zw_alen rfl (by assumption) rfl ?_ | refine zw_iald rfl (by assumption) (by omega) (by omega) ?_ | refine zw_iast rfl (by omega) (by assumption) (by omega) (by omega) ?_ | refine zw_putI rfl (by assumption) ?_ | refine zw_lald rfl (by assumption) (by omega) (by omega) ?_ | refine zw_last rfl (by assumption) (by omega) (by omega) ?_ | refine zw_iadd rfl (by omega) (by omega) ?_ | refine zw_isub rfl (by omega) (by omega) ?_ | refine zw_iinc rfl rfl rfl (by omega) (by omega) ?_)
    refine zw_callv rfl rfl rfl rfl rfl rfl (by assumption) ?_
    refine ZC.le (show d + 2 ≤ _ by omega) ?_
    refine c_beginPowers hk0 (fun I3 h3 pw => ?_)
    obtain ⟨F1, hF1⟩ : ∃ F1, F1 = z_u2 (z_u2 F (34 + 2 * t) 1 0) (34 + 2 * t) 2 (z_rnd g p : Int) := ⟨_, rfl⟩
    rw [← hF1]
    have loop : ∀ (m i tt o n : Nat) (l : List Nat) (ls : Int) (F2 I3 : Nat → Nat → Int), m + i = z_rnd g p → z_fpl g p = l ++ z_fp g p (r / p / p % p) (r / p % p) (r % p) (z_wan g) m i tt o n → (ls = if l = [] then -1 else (l.headD 0 : Int)) → F2 (34 + 2 * t) 1 = (l.length : Int) → F2 (34 + 2 * t) 2 = (z_rnd g p : Int) → (∀ x, x ≠ 34 + 2 * t → F2 x = F x) → (∀ x, x ≠ 19 → x ≠ 20 → x ≠ 21 → x ≠ 34 + 2 * t + 1 → I3 x = I x) → I3 21 = I1 21 → ZRl I3 g (r / p / p % p) (r / p % p) (r % p) → (∀ j, j < l.length → I3 (34 + 2 * t + 1) j = z_lsf l j) → ZPw I3 tt o n → (tt < p ∧ o < p ∧ n < p) → (g = 2 → tt = 0) → ZW (d + 4) 10 73 [some (.inr (.inr (some 18))), some (.inl (p : Int)), some (.inl (g : Int)), some (.inl (z_wan g : Int)), some (.inl (z_rnd g p : Int)), some (.inr (.inr (some (34 + 2 * t)))), some (.inl ((20 * g + p : Nat) : Int)), some (.inl ls), some (.inl (i : Int))] [] (k, F2, I3, L, R) Q := by
      intro m
      induction m with
      | zero =>
        intro i tt o n l ls F2 I3 hi hl hls f1 f2 fr ir i21 rl row pw bt h0
        have hl : z_fpl g p = l := by rw [hl]; exact List.append_nil l
        repeat (first | refine zw_t rfl rfl ?_ | refine zw_jump rfl rfl ?_ | refine zw_getI rfl rfl (by assumption) ?_ | refine zw_ialn rfl (by assumption) (by omega) ?_ | refine zw_laln rfl (by assumption) (by omega) ?_ | refine zw_iastn rfl (by omega) (by assumption) (by omega) ?_ | refine zw_lastn rfl (by assumption) (by omega) ?_ | refine zw_iald0 rfl (by assumption) (by omega) ?_ | refine zw_lald0 rfl (by assumption) (by omega) ?_ | refine zw_aaln rfl (by assumption) rfl (by omega) ?_ | refine zw_getR rfl (by assumption) (by assumption) ?_ | refine zw_alen rfl (by assumption) rfl ?_ | refine zw_iald rfl (by assumption) (by omega) (by omega) ?_ | refine zw_iast rfl (by omega) (by assumption) (by omega) (by omega) ?_ | refine zw_putI rfl (by assumption) ?_ | refine zw_lald rfl (by assumption) (by omega) (by omega) ?_ | refine zw_last rfl (by assumption) (by omega) (by omega) ?_ | refine zw_iadd rfl (by omega) (by omega) ?_ | refine zw_isub rfl (by omega) (by omega) ?_ | refine zw_iinc rfl rfl rfl (by omega) (by omega) ?_)
        refine zw_icmp_ge_t rfl (by omega) ?_
        refine zw_vret rfl (K F2 I3 (fun a a1 a2 => ⟨fr a (by omega), ir a (by omega) (by omega) (by omega) (by omega), rfl⟩) ⟨?_, h.2.1, h.2.2.1, ?_, ?_, ?_, ?_⟩)
        · have st : ZBA A F I1 L := h.1.scr (fun a _ => rfl) (fun a a1 a2 => hIr a (by omega) (by omega) (by omega))
          have st2 : ZBA A F (z_up I (34 + 2 * t + 1) (I (34 + 2 * t + 1))) L := by rw [z_up_self]; exact h.1
          refine ZBA.scr (F := F2) (I := z_up I (34 + 2 * t + 1) (I3 (34 + 2 * t + 1))) ?_ (fun a _ => rfl) (fun a a1 a2 => ?_)
          · refine h.1.shelf (fun a ha => fr a ha) (fun a ha => z_up_ne _ _ ha) ⟨?_, ?_, hrow, fun j hj => ?_⟩
            · rw [hl]; exact f1
            · exact f2
            · rw [z_up_same, hl]
              rw [hl] at hj
              exact row j hj
          · by_cases ha : a = 34 + 2 * t + 1
            · rw [ha, z_up_same]
            · rw [z_up_ne _ _ ha]; exact ir a (by omega) (by omega) (by omega) ha
        · rw [ir 8 (by omega) (by omega) (by omega) (by omega)]; exact h.2.2.2.1
        · obtain ⟨u, p1, p2, p3⟩ := h.2.2.2.2.1
          unfold ZFoI
          rw [fr 9 (by omega), ir (9 + 5) (by omega) (by omega) (by omega) (by omega)]
          exact ⟨u, p1, p2, p3⟩
        · obtain ⟨y1, y2, y3⟩ := h.2.2.2.2.2.1
          refine ⟨?_, ?_, y3⟩
          · rw [ir 16 (by omega) (by omega) (by omega) (by omega), ir 17 (by omega) (by omega) (by omega) (by omega)]; exact y1
          · rw [i21]; exact hI21
        · rw [ir 1 (by omega) (by omega) (by omega) (by omega)]; exact h.2.2.2.2.2.2
      | succ m ih =>
        intro i tt o n l ls F2 I3 hi hl hls f1 f2 fr ir i21 rl row pw bt h0
        rw [z_fp_succ] at hl
        have hll : l.length ≤ (z_fpl g p).length := by rw [hl, List.length_append]; omega
        have etop : I3 20 ((g : Int) - 1).toNat = (((bif Nat.beq g 3 then tt else o) : Nat) : Int) := by
          rcases hg with q | q
          · subst q; exact pw.2.1
          · subst q; exact pw.2.2
        have h02 : g = 2 → z_n2 g p (r / p / p % p) tt o = 0 := fun q => by subst q; rfl
        have next : ∀ (l' : List Nat) (ls' : Int) (F4 I4 : Nat → Nat → Int), z_fpl g p = l' ++ z_fp g p (r / p / p % p) (r / p % p) (r % p) (z_wan g) m (i + 1) (z_n2 g p (r / p / p % p) tt o) (z_n1 g p (r / p % p) tt o n) (z_n0 g p (r % p) tt o) → (ls' = if l' = [] then -1 else (l'.headD 0 : Int)) → F4 (34 + 2 * t) 1 = (l'.length : Int) → F4 (34 + 2 * t) 2 = (z_rnd g p : Int) → (∀ x, x ≠ 34 + 2 * t → F4 x = F x) → (∀ x, x ≠ 19 → x ≠ 20 → x ≠ 21 → x ≠ 34 + 2 * t + 1 → I4 x = I x) → I4 21 = I1 21 → ZRl I4 g (r / p / p % p) (r / p % p) (r % p) → (∀ j, j < l'.length → I4 (34 + 2 * t + 1) j = z_lsf l' j) → ZPw I4 tt o n → ZW (d + 4) 10 117 [some (.inr (.inr (some 18))), some (.inl (p : Int)), some (.inl (g : Int)), some (.inl (z_wan g : Int)), some (.inl (z_rnd g p : Int)), some (.inr (.inr (some (34 + 2 * t)))), some (.inl ((20 * g + p : Nat) : Int)), some (.inl ls'), some (.inl (i : Int))] [] (k, F4, I4, L, R) Q := by
          intro l' ls' F4 I4 hl hls f1 f2 fr ir i21 rl row pw
          repeat (first | refine zw_t rfl rfl ?_ | refine zw_jump rfl rfl ?_ | refine zw_getI rfl rfl (by assumption) ?_ | refine zw_ialn rfl (by assumption) (by omega) ?_ | refine zw_laln rfl (by assumption) (by omega) ?_ | refine zw_iastn rfl (by omega) (by assumption) (by omega) ?_ | refine zw_lastn rfl (by assumption) (by omega) ?_ | refine zw_iald0 rfl (by assumption) (by omega) ?_ | refine zw_lald0 rfl (by assumption) (by omega) ?_ | refine zw_aaln rfl (by assumption) rfl (by omega) ?_ | refine zw_getR rfl (by assumption) (by assumption) ?_ | refine zw_alen rfl (by assumption) rfl ?_ | refine zw_iald rfl (by assumption) (by omega) (by omega) ?_ | refine zw_iast rfl (by omega) (by assumption) (by omega) (by omega) ?_ | refine zw_putI rfl (by assumption) ?_ | refine zw_lald rfl (by assumption) (by omega) (by omega) ?_ | refine zw_last rfl (by assumption) (by omega) (by omega) ?_ | refine zw_iadd rfl (by omega) (by omega) ?_ | refine zw_isub rfl (by omega) (by omega) ?_ | refine zw_iinc rfl rfl rfl (by omega) (by omega) ?_)
          refine zw_callv rfl rfl rfl rfl rfl rfl (by assumption) ?_
          refine ZC.le (show d + 1 ≤ _ by omega) ?_
          refine c_nextPower hk0 hg hp pw rl bt ⟨Nat.mod_lt _ (by omega), Nat.mod_lt _ (by omega), Nat.mod_lt _ (by omega)⟩ h0 (fun I5 h5 pw5 => ?_)
          repeat (first | refine zw_t rfl rfl ?_ | refine zw_jump rfl rfl ?_ | refine zw_getI rfl rfl (by assumption) ?_ | refine zw_ialn rfl (by assumption) (by omega) ?_ | refine zw_laln rfl (by assumption) (by omega) ?_ | refine zw_iastn rfl (by omega) (by assumption) (by omega) ?_ | refine zw_lastn rfl (by assumption) (by omega) ?_ | refine zw_iald0 rfl (by assumption) (by omega) ?_ | refine zw_lald0 rfl (by assumption) (by omega) ?_ | refine zw_aaln rfl (by assumption) rfl (by omega) ?_ | refine zw_getR rfl (by assumption) (by assumption) ?_ | refine zw_alen rfl (by assumption) rfl ?_ | refine zw_iald rfl (by assumption) (by omega) (by omega) ?_ | refine zw_iast rfl (by omega) (by assumption) (by omega) (by omega) ?_ | refine zw_putI rfl (by assumption) ?_ | refine zw_lald rfl (by assumption) (by omega) (by omega) ?_ | refine zw_last rfl (by assumption) (by omega) (by omega) ?_ | refine zw_iadd rfl (by omega) (by omega) ?_ | refine zw_isub rfl (by omega) (by omega) ?_ | refine zw_iinc rfl rfl rfl (by omega) (by omega) ?_)
          refine zw_goto rfl ?_
          exact ih (i + 1) _ _ _ l' ls' F4 I5 (by omega) hl hls f1 f2 fr (fun x x1 x2 x3 x4 => (h5 x x2).trans (ir x x1 x2 x3 x4)) ((h5 21 (by omega)).trans i21) (rl.frame (h5 19 (by omega))) (fun j hj => by rw [h5 _ (by omega)]; exact row j hj) pw5 (z_n_lt hp.1) h02
        repeat (first | refine zw_t rfl rfl ?_ | refine zw_jump rfl rfl ?_ | refine zw_getI rfl rfl (by assumption) ?_ | refine zw_ialn rfl (by assumption) (by omega) ?_ | refine zw_laln rfl (by assumption) (by omega) ?_ | refine zw_iastn rfl (by omega) (by assumption) (by omega) ?_ | refine zw_lastn rfl (by assumption) (by omega) ?_ | refine zw_iald0 rfl (by assumption) (by omega) ?_ | refine zw_lald0 rfl (by assumption) (by omega) ?_ | refine zw_aaln rfl (by assumption) rfl (by omega) ?_ | refine zw_getR rfl (by assumption) (by assumption) ?_ | refine zw_alen rfl (by assumption) rfl ?_ | refine zw_iald rfl (by assumption) (by omega) (by omega) ?_ | refine zw_iast rfl (by omega) (by assumption) (by omega) (by omega) ?_ | refine zw_putI rfl (by assumption) ?_ | refine zw_lald rfl (by assumption) (by omega) (by omega) ?_ | refine zw_last rfl (by assumption) (by omega) (by omega) ?_ | refine zw_iadd rfl (by omega) (by omega) ?_ | refine zw_isub rfl (by omega) (by omega) ?_ | refine zw_iinc rfl rfl rfl (by omega) (by omega) ?_)
        refine zw_icmp_ge_f rfl (by omega) ?_
        repeat (first | refine zw_t rfl rfl ?_ | refine zw_jump rfl rfl ?_ | refine zw_getI rfl rfl (by assumption) ?_ | refine zw_ialn rfl (by assumption) (by omega) ?_ | refine zw_laln rfl (by assumption) (by omega) ?_ | refine zw_iastn rfl (by omega) (by assumption) (by omega) ?_ | refine zw_lastn rfl (by assumption) (by omega) ?_ | refine zw_iald0 rfl (by assumption) (by omega) ?_ | refine zw_lald0 rfl (by assumption) (by omega) ?_ | refine zw_aaln rfl (by assumption) rfl (by omega) ?_ | refine zw_getR rfl (by assumption) (by assumption) ?_ | refine zw_alen rfl (by assumption) rfl ?_ | refine zw_iald rfl (by assumption) (by omega) (by omega) ?_ | refine zw_iast rfl (by omega) (by assumption) (by omega) (by omega) ?_ | refine zw_putI rfl (by assumption) ?_ | refine zw_lald rfl (by assumption) (by omega) (by omega) ?_ | refine zw_last rfl (by assumption) (by omega) (by omega) ?_ | refine zw_iadd rfl (by omega) (by omega) ?_ | refine zw_isub rfl (by omega) (by omega) ?_ | refine zw_iinc rfl rfl rfl (by omega) (by omega) ?_)
        rw [etop]
        refine zw_icmp_ne rfl (fun h1 => ?_) (fun h1 => ?_)
        · rw [show Nat.beq (bif Nat.beq g 3 then tt else o) (z_wan g) = false from Bool.eq_false_iff.2 (fun q => h1 (by rw [Nat.eq_of_beq_eq_true q])), cond_false, List.nil_append] at hl
          exact next l ls F2 I3 hl hls f1 f2 fr ir i21 rl row pw
        · rw [show Nat.beq (bif Nat.beq g 3 then tt else o) (z_wan g) = true from by
            have : (bif Nat.beq g 3 then tt else o) = z_wan g := by omega
            rw [this]; exact Nat.beq_refl _, cond_true, ← List.append_assoc] at hl
          have hlt : l.length < 24 := by
            rw [hl, List.length_append, List.length_append, List.length_singleton] at r6
            omega
          have hmem : ∀ x ∈ l, x < i := fun x hx => by
            have q := s2
            rw [hl, List.append_assoc] at q
            exact (List.pairwise_append.1 q).2.2 x hx i (List.mem_append_left _ (List.mem_singleton.2 rfl))
          have hhead : (l ++ [i]).headD 0 = if l = [] then i else l.headD 0 := by
            cases l with
            | nil => rfl
            | cons x y => rfl
          have ins : ∀ ls2 : Int, ls2 = ((l ++ [i]).headD 0 : Int) → ZW (d + 4) 10 105 [some (.inr (.inr (some 18))), some (.inl (p : Int)), some (.inl (g : Int)), some (.inl (z_wan g : Int)), some (.inl (z_rnd g p : Int)), some (.inr (.inr (some (34 + 2 * t)))), some (.inl ((20 * g + p : Nat) : Int)), some (.inl ls), some (.inl (i : Int))] [.inl ls2] (k, F2, I3, L, R) Q := by
            intro ls2 hls2
            have hb : 0 ≤ ls2 ∧ ls2 ≤ (i : Int) := by
              rw [hls2, hhead]
              by_cases hln : l = []
              · rw [if_pos hln]; omega
              · rw [if_neg hln]
                have := hmem (l.headD 0) (by rw [z_headD]; exact z_ngd hln)
                omega
            repeat (first | refine zw_t rfl rfl ?_ | refine zw_jump rfl rfl ?_ | refine zw_getI rfl rfl (by assumption) ?_ | refine zw_ialn rfl (by assumption) (by omega) ?_ | refine zw_laln rfl (by assumption) (by omega) ?_ | refine zw_iastn rfl (by omega) (by assumption) (by omega) ?_ | refine zw_lastn rfl (by assumption) (by omega) ?_ | refine zw_iald0 rfl (by assumption) (by omega) ?_ | refine zw_lald0 rfl (by assumption) (by omega) ?_ | refine zw_aaln rfl (by assumption) rfl (by omega) ?_ | refine zw_getR rfl (by assumption) (by assumption) ?_ | refine zw_alen rfl (by assumption) rfl ?_ | refine zw_iald rfl (by assumption) (by omega) (by omega) ?_ | refine zw_iast rfl (by omega) (by assumption) (by omega) (by omega) ?_ | refine zw_putI rfl (by assumption) ?_ | refine zw_lald rfl (by assumption) (by omega) (by omega) ?_ | refine zw_last rfl (by assumption) (by omega) (by omega) ?_ | refine zw_iadd rfl (by omega) (by omega) ?_ | refine zw_isub rfl (by omega) (by omega) ?_ | refine zw_iinc rfl rfl rfl (by omega) (by omega) ?_)
            refine zw_callv rfl rfl rfl rfl rfl rfl (by assumption) ?_
            refine ZC.le (show d + 1 ≤ _ by omega) ?_
            refine c_insert (c := l.length) hru f1 hlt ?_
            have hz : z_ins ((i : Int) - ls2) (I3 (34 + 2 * t + 1)) l.length = z_up (I3 (34 + 2 * t + 1)) l.length ((i : Int) - ls2) := by
              cases hll : l.length with
              | zero => rfl
              | succ c =>
                show (if _ then _ else _) = _
                refine if_neg ?_
                have hc := row c (by omega)
                have hln : l ≠ [] := fun q => by rw [q] at hll; cases hll
                rw [hc, hls2, hhead, if_neg hln]
                have := hmem (l.getD c 0) (by rw [List.getD_eq_getElem?_getD, List.getElem?_eq_getElem (show c < l.length by omega)]; exact List.getElem_mem _)
                unfold z_lsf
                omega
            rw [hz]
            refine next (l ++ [i]) ls2 _ _ hl ?_ ?_ ?_ ?_ ?_ ?_ ?_ ?_ ?_
            · rw [if_neg (by simp), hls2]
            · rw [z_u2_same, List.length_append]; rfl
            · rw [z_u2_nk _ _ _ _ (by omega)]; exact f2
            · exact fun x hx => by rw [z_u2_ad _ _ _ hx]; exact fr x hx
            · exact fun x x1 x2 x3 x4 => by rw [z_up_ne _ _ x4]; exact ir x x1 x2 x3 x4
            · rw [z_up_ne _ _ (by omega)]; exact i21
            · exact rl.frame (z_up_ne _ _ (by omega))
            · intro j hj
              rw [List.length_append, List.length_singleton] at hj
              rw [z_up_same]
              by_cases hjl : j = l.length
              · rw [hjl, z_up_same]
                unfold z_lsf
                rw [List.getD_eq_getElem?_getD, List.getElem?_append_right (Nat.le_refl _), Nat.sub_self, hls2]
                rfl
              · rw [z_up_ne _ _ hjl, row j (by omega)]
                unfold z_lsf
                have hln : l ≠ [] := fun q => by rw [q] at hj hjl; simp at hj hjl; omega
                rw [hhead, if_neg hln, List.getD_eq_getElem?_getD, List.getD_eq_getElem?_getD, List.getElem?_append_left (by omega)]
            · exact ⟨by rw [z_up_ne _ _ (by omega)]; exact pw.1, by rw [z_up_ne _ _ (by omega)]; exact pw.2.1, by rw [z_up_ne _ _ (by omega)]; exact pw.2.2⟩
          repeat (first | refine zw_t rfl rfl ?_ | refine zw_jump rfl rfl ?_ | refine zw_getI rfl rfl (by assumption) ?_ | refine zw_ialn rfl (by assumption) (by omega) ?_ | refine zw_laln rfl (by assumption) (by omega) ?_ | refine zw_iastn rfl (by omega) (by assumption) (by omega) ?_ | refine zw_lastn rfl (by assumption) (by omega) ?_ | refine zw_iald0 rfl (by assumption) (by omega) ?_ | refine zw_lald0 rfl (by assumption) (by omega) ?_ | refine zw_aaln rfl (by assumption) rfl (by omega) ?_ | refine zw_getR rfl (by assumption) (by assumption) ?_ | refine zw_alen rfl (by assumption) rfl ?_ | refine zw_iald rfl (by assumption) (by omega) (by omega) ?_ | refine zw_iast rfl (by omega) (by assumption) (by omega) (by omega) ?_ | refine zw_putI rfl (by assumption) ?_ | refine zw_lald rfl (by assumption) (by omega) (by omega) ?_ | refine zw_last rfl (by assumption) (by omega) (by omega) ?_ | refine zw_iadd rfl (by omega) (by omega) ?_ | refine zw_isub rfl (by omega) (by omega) ?_ | refine zw_iinc rfl rfl rfl (by omega) (by omega) ?_)
          refine zw_icmp_ne rfl (fun h2 => ?_) (fun h2 => ?_)
          · have hln : l ≠ [] := fun q => by rw [if_pos q] at hls; exact h2 hls
            rw [if_neg hln] at hls
            repeat (refine zw_ne 105 rfl ?_; first | refine zw_t rfl rfl ?_ | refine zw_jump rfl rfl ?_ | refine zw_getI rfl rfl (by assumption) ?_ | refine zw_ialn rfl (by assumption) (by omega) ?_ | refine zw_laln rfl (by assumption) (by omega) ?_ | refine zw_iastn rfl (by omega) (by assumption) (by omega) ?_ | refine zw_lastn rfl (by assumption) (by omega) ?_ | refine zw_iald0 rfl (by assumption) (by omega) ?_ | refine zw_lald0 rfl (by assumption) (by omega) ?_ | refine zw_aaln rfl (by assumption) rfl (by omega) ?_ | refine zw_getR rfl (by assumption) (by assumption) ?_ | refine zw_alen rfl (by assumption) rfl ?_ | refine zw_iald rfl (by assumption) (by omega) (by omega) ?_ | refine zw_iast rfl (by omega) (by assumption) (by omega) (by omega) ?_ | refine zw_putI rfl (by assumption) ?_ | refine zw_lald rfl (by assumption) (by omega) (by omega) ?_ | refine zw_last rfl (by assumption) (by omega) (by omega) ?_ | refine zw_iadd rfl (by omega) (by omega) ?_ | refine zw_isub rfl (by omega) (by omega) ?_ | refine zw_iinc rfl rfl rfl (by omega) (by omega) ?_)
            exact ins ls (by rw [hhead, if_neg hln]; exact hls)
          · have hln : l = [] := Classical.byContradiction (fun q => by rw [if_neg q] at hls; omega)
            repeat (refine zw_ne 105 rfl ?_; first | refine zw_t rfl rfl ?_ | refine zw_jump rfl rfl ?_ | refine zw_getI rfl rfl (by assumption) ?_ | refine zw_ialn rfl (by assumption) (by omega) ?_ | refine zw_laln rfl (by assumption) (by omega) ?_ | refine zw_iastn rfl (by omega) (by assumption) (by omega) ?_ | refine zw_lastn rfl (by assumption) (by omega) ?_ | refine zw_iald0 rfl (by assumption) (by omega) ?_ | refine zw_lald0 rfl (by assumption) (by omega) ?_ | refine zw_aaln rfl (by assumption) rfl (by omega) ?_ | refine zw_getR rfl (by assumption) (by assumption) ?_ | refine zw_alen rfl (by assumption) rfl ?_ | refine zw_iald rfl (by assumption) (by omega) (by omega) ?_ | refine zw_iast rfl (by omega) (by assumption) (by omega) (by omega) ?_ | refine zw_putI rfl (by assumption) ?_ | refine zw_lald rfl (by assumption) (by omega) (by omega) ?_ | refine zw_last rfl (by assumption) (by omega) (by omega) ?_ | refine zw_iadd rfl (by omega) (by omega) ?_ | refine zw_isub rfl (by omega) (by omega) ?_ | refine zw_iinc rfl rfl rfl (by omega) (by omega) ?_)
            exact ins (i : Int) (by rw [hhead, if_pos hln])
    repeat (refine zw_ne 73 rfl ?_; first | refine zw_t rfl rfl ?_ | refine zw_jump rfl rfl ?_ | refine zw_getI rfl rfl (by assumption) ?_ | refine zw_ialn rfl (by assumption) (by omega) ?_ | refine zw_laln rfl (by assumption) (by omega) ?_ | refine zw_iastn rfl (by omega) (by assumption) (by omega) ?_ | refine zw_lastn rfl (by assumption) (by omega) ?_ | refine zw_iald0 rfl (by assumption) (by omega) ?_ | refine zw_lald0 rfl (by assumption) (by omega) ?_ | refine zw_aaln rfl (by assumption) rfl (by omega) ?_ | refine zw_getR rfl (by assumption) (by assumption) ?_ | refine zw_alen rfl (by assumption) rfl ?_ | refine zw_iald rfl (by assumption) (by omega) (by omega) ?_ | refine zw_iast rfl (by omega) (by assumption) (by omega) (by omega) ?_ | refine zw_putI rfl (by assumption) ?_ | refine zw_lald rfl (by assumption) (by omega) (by omega) ?_ | refine zw_last rfl (by assumption) (by omega) (by omega) ?_ | refine zw_iadd rfl (by omega) (by omega) ?_ | refine zw_isub rfl (by omega) (by omega) ?_ | refine zw_iinc rfl rfl rfl (by omega) (by omega) ?_)
    have i3r : ∀ x, x ≠ 19 → x ≠ 20 → I3 x = I1 x := fun x x1 x2 => (h3 x x2).trans (h2 x x1)
    refine loop (z_rnd g p) 0 0 0 1 [] (-1) F1 I3 (by omega) (by rw [efp]; rfl) (by rw [if_pos rfl]) ?_ ?_ (fun x hx => by rw [hF1, z_u2_ad _ _ _ hx, z_u2_ad _ _ _ hx]) (fun x x1 x2 x3 x4 => (i3r x x1 x2).trans (hIr x x1 x2 x3)) (i3r 21 (by omega) (by omega)) (rl.frame (h3 19 (by omega))) (fun j hj => by simp at hj) pw (by omega) (fun _ => rfl)
    · rw [hF1, z_u2_nk _ _ _ _ (by omega), z_u2_same]; rfl
    · rw [hF1, z_u2_same]
  refine ze_Field_write ?_
  repeat (first | refine zw_t rfl rfl ?_ | refine zw_jump rfl rfl ?_ | refine zw_getI rfl rfl (by assumption) ?_ | refine zw_ialn rfl (by assumption) (by omega) ?_ | refine zw_laln rfl (by assumption) (by omega) ?_ | refine zw_iastn rfl (by omega) (by assumption) (by omega) ?_ | refine zw_lastn rfl (by assumption) (by omega) ?_ | refine zw_iald0 rfl (by assumption) (by omega) ?_ | refine zw_lald0 rfl (by assumption) (by omega) ?_ | refine zw_aaln rfl (by assumption) rfl (by omega) ?_ | refine zw_getR rfl (by assumption) (by assumption) ?_ | refine zw_alen rfl (by assumption) rfl ?_ | refine zw_iald rfl (by assumption) (by omega) (by omega) ?_ | refine zw_iast rfl (by omega) (by assumption) (by omega) (by omega) ?_ | refine zw_putI rfl (by assumption) ?_ | refine zw_lald rfl (by assumption) (by omega) (by omega) ?_ | refine zw_last rfl (by assumption) (by omega) (by omega) ?_ | refine zw_iadd rfl (by omega) (by omega) ?_ | refine zw_isub rfl (by omega) (by omega) ?_ | refine zw_iinc rfl rfl rfl (by omega) (by omega) ?_)
  refine zw_icmp_lt_f rfl (by omega) ?_
  repeat (first | refine zw_t rfl rfl ?_ | refine zw_jump rfl rfl ?_ | refine zw_getI rfl rfl (by assumption) ?_ | refine zw_ialn rfl (by assumption) (by omega) ?_ | refine zw_laln rfl (by assumption) (by omega) ?_ | refine zw_iastn rfl (by omega) (by assumption) (by omega) ?_ | refine zw_lastn rfl (by assumption) (by omega) ?_ | refine zw_iald0 rfl (by assumption) (by omega) ?_ | refine zw_lald0 rfl (by assumption) (by omega) ?_ | refine zw_aaln rfl (by assumption) rfl (by omega) ?_ | refine zw_getR rfl (by assumption) (by assumption) ?_ | refine zw_alen rfl (by assumption) rfl ?_ | refine zw_iald rfl (by assumption) (by omega) (by omega) ?_ | refine zw_iast rfl (by omega) (by assumption) (by omega) (by omega) ?_ | refine zw_putI rfl (by assumption) ?_ | refine zw_lald rfl (by assumption) (by omega) (by omega) ?_ | refine zw_last rfl (by assumption) (by omega) (by omega) ?_ | refine zw_iadd rfl (by omega) (by omega) ?_ | refine zw_isub rfl (by omega) (by omega) ?_ | refine zw_iinc rfl rfl rfl (by omega) (by omega) ?_)
  refine zw_icmp_le_t rfl (by omega) ?_
  repeat (first | refine zw_t rfl rfl ?_ | refine zw_jump rfl rfl ?_ | refine zw_getI rfl rfl (by assumption) ?_ | refine zw_ialn rfl (by assumption) (by omega) ?_ | refine zw_laln rfl (by assumption) (by omega) ?_ | refine zw_iastn rfl (by omega) (by assumption) (by omega) ?_ | refine zw_lastn rfl (by assumption) (by omega) ?_ | refine zw_iald0 rfl (by assumption) (by omega) ?_ | refine zw_lald0 rfl (by assumption) (by omega) ?_ | refine zw_aaln rfl (by assumption) rfl (by omega) ?_ | refine zw_getR rfl (by assumption) (by assumption) ?_ | refine zw_alen rfl (by assumption) rfl ?_ | refine zw_iald rfl (by assumption) (by omega) (by omega) ?_ | refine zw_iast rfl (by omega) (by assumption) (by omega) (by omega) ?_ | refine zw_putI rfl (by assumption) ?_ | refine zw_lald rfl (by assumption) (by omega) (by omega) ?_ | refine zw_last rfl (by assumption) (by omega) (by omega) ?_ | refine zw_iadd rfl (by omega) (by omega) ?_ | refine zw_isub rfl (by omega) (by omega) ?_ | refine zw_iinc rfl rfl rfl (by omega) (by omega) ?_)
  refine zw_imul rfl (by omega) (by omega) ?_
  repeat (first | refine zw_t rfl rfl ?_ | refine zw_jump rfl rfl ?_ | refine zw_getI rfl rfl (by assumption) ?_ | refine zw_ialn rfl (by assumption) (by omega) ?_ | refine zw_laln rfl (by assumption) (by omega) ?_ | refine zw_iastn rfl (by omega) (by assumption) (by omega) ?_ | refine zw_lastn rfl (by assumption) (by omega) ?_ | refine zw_iald0 rfl (by assumption) (by omega) ?_ | refine zw_lald0 rfl (by assumption) (by omega) ?_ | refine zw_aaln rfl (by assumption) rfl (by omega) ?_ | refine zw_getR rfl (by assumption) (by assumption) ?_ | refine zw_alen rfl (by assumption) rfl ?_ | refine zw_iald rfl (by assumption) (by omega) (by omega) ?_ | refine zw_iast rfl (by omega) (by assumption) (by omega) (by omega) ?_ | refine zw_putI rfl (by assumption) ?_ | refine zw_lald rfl (by assumption) (by omega) (by omega) ?_ | refine zw_last rfl (by assumption) (by omega) (by omega) ?_ | refine zw_iadd rfl (by omega) (by omega) ?_ | refine zw_isub rfl (by omega) (by omega) ?_ | refine zw_iinc rfl rfl rfl (by omega) (by omega) ?_)
  rw [ek]
  repeat (first | refine zw_t rfl rfl ?_ | refine zw_jump rfl rfl ?_ | refine zw_getI rfl rfl (by assumption) ?_ | refine zw_ialn rfl (by assumption) (by omega) ?_ | refine zw_laln rfl (by assumption) (by omega) ?_ | refine zw_iastn rfl (by omega) (by assumption) (by omega) ?_ | refine zw_lastn rfl (by assumption) (by omega) ?_ | refine zw_iald0 rfl (by assumption) (by omega) ?_ | refine zw_lald0 rfl (by assumption) (by omega) ?_ | refine zw_aaln rfl (by assumption) rfl (by omega) ?_ | refine zw_getR rfl (by assumption) (by assumption) ?_ | refine zw_alen rfl (by assumption) rfl ?_ | refine zw_iald rfl (by assumption) (by omega) (by omega) ?_ | refine zw_iast rfl (by omega) (by assumption) (by omega) (by omega) ?_ | refine zw_putI rfl (by assumption) ?_ | refine zw_lald rfl (by assumption) (by omega) (by omega) ?_ | refine zw_last rfl (by assumption) (by omega) (by omega) ?_ | refine zw_iadd rfl (by omega) (by omega) ?_ | refine zw_isub rfl (by omega) (by omega) ?_ | refine zw_iinc rfl rfl rfl (by omega) (by omega) ?_)
  refine zw_if_ne rfl (fun h1 => ?_) (fun h1 => ?_)
  · rcases c21 with q | q
    · exact absurd q h1
    · exact go I q (fun _ _ _ _ => rfl) h.2.2.2.2.2.1.2.1
  · repeat (first | refine zw_t rfl rfl ?_ | refine zw_jump rfl rfl ?_ | refine zw_getI rfl rfl (by assumption) ?_ | refine zw_ialn rfl (by assumption) (by omega) ?_ | refine zw_laln rfl (by assumption) (by omega) ?_ | refine zw_iastn rfl (by omega) (by assumption) (by omega) ?_ | refine zw_lastn rfl (by assumption) (by omega) ?_ | refine zw_iald0 rfl (by assumption) (by omega) ?_ | refine zw_lald0 rfl (by assumption) (by omega) ?_ | refine zw_aaln rfl (by assumption) rfl (by omega) ?_ | refine zw_getR rfl (by assumption) (by assumption) ?_ | refine zw_alen rfl (by assumption) rfl ?_ | refine zw_iald rfl (by assumption) (by omega) (by omega) ?_ | refine zw_iast rfl (by omega) (by assumption) (by omega) (by omega) ?_ | refine zw_putI rfl (by assumption) ?_ | refine zw_lald rfl (by assumption) (by omega) (by omega) ?_ | refine zw_last rfl (by assumption) (by omega) (by omega) ?_ | refine zw_iadd rfl (by omega) (by omega) ?_ | refine zw_isub rfl (by omega) (by omega) ?_ | refine zw_iinc rfl rfl rfl (by omega) (by omega) ?_)
    refine zw_callv rfl rfl rfl rfl rfl rfl (by assumption) ?_
    refine c_firstRule hk0 hg hp hck (fun I2 h2 => ?_)
    rw [r1]
    repeat (refine zw_ne 43 rfl ?_; first | refine zw_t rfl rfl ?_ | refine zw_jump rfl rfl ?_ | refine zw_getI rfl rfl (by assumption) ?_ | refine zw_ialn rfl (by assumption) (by omega) ?_ | refine zw_laln rfl (by assumption) (by omega) ?_ | refine zw_iastn rfl (by omega) (by assumption) (by omega) ?_ | refine zw_lastn rfl (by assumption) (by omega) ?_ | refine zw_iald0 rfl (by assumption) (by omega) ?_ | refine zw_lald0 rfl (by assumption) (by omega) ?_ | refine zw_aaln rfl (by assumption) rfl (by omega) ?_ | refine zw_getR rfl (by assumption) (by assumption) ?_ | refine zw_alen rfl (by assumption) rfl ?_ | refine zw_iald rfl (by assumption) (by omega) (by omega) ?_ | refine zw_iast rfl (by omega) (by assumption) (by omega) (by omega) ?_ | refine zw_putI rfl (by assumption) ?_ | refine zw_lald rfl (by assumption) (by omega) (by omega) ?_ | refine zw_last rfl (by assumption) (by omega) (by omega) ?_ | refine zw_iadd rfl (by omega) (by omega) ?_ | refine zw_isub rfl (by omega) (by omega) ?_ | refine zw_iinc rfl rfl rfl (by omega) (by omega) ?_)
    refine go _ (z_u2_same _ _ _ _) (fun x x1 x2 x3 => by rw [z_u2_ad _ _ _ x3]; exact h2 x x1 x2) (fun j hj => ?_)
    by_cases hj2 : j = 20 * g + p
    · rw [hj2, z_u2_same, r1]; exact Or.inr rfl
    · rw [z_u2_nk _ _ _ _ hj2, h2 21 (by omega) (by omega)]
      exact h.2.2.2.2.2.1.2.1 j hj
theorem z_prm_cases {x : Int} (h : z_prm x = true) : ∃ p : Nat, x = (p : Int) ∧ p ∈ [2, 3, 5, 7, 11, 13, 17, 19] := by
  unfold z_prm at h
  simp only [Bool.or_eq_true, decide_eq_true_iff] at h
  rcases h with ((((((h | h) | h) | h) | h) | h) | h) | h <;> subst h
  · exact ⟨2, rfl, by decide⟩
  · exact ⟨3, rfl, by decide⟩
  · exact ⟨5, rfl, by decide⟩
  · exact ⟨7, rfl, by decide⟩
  · exact ⟨11, rfl, by decide⟩
  · exact ⟨13, rfl, by decide⟩
  · exact ⟨17, rfl, by decide⟩
  · exact ⟨19, rfl, by decide⟩
theorem z_prm_lt {p : Nat} (h : p ∈ [2, 3, 5, 7, 11, 13, 17, 19]) : 2 ≤ p ∧ p ≤ 19 := by
  have : ∀ x ∈ [2, 3, 5, 7, 11, 13, 17, 19], 2 ≤ x ∧ x ≤ 19 := by decide
  exact this p h
def sp_lines (A : ZA) (p to : Int) : Int × ZA := if 0 ≤ to ∧ to < 16 then (if z_prm p = true then (1, A.1, z_up A.2.1 to.toNat ((z_fpl 3 p.toNat).length, (z_rnd 3 p.toNat : Int), z_lsf (z_fpl 3 p.toNat)), 0) else (0, A.1, A.2.1, 5)) else (0, A.1, A.2.1, 2)
def sp_powers (A : ZA) (p to : Int) : Int × ZA := if 0 ≤ to ∧ to < 16 then (if z_prm p = true ∧ p ≠ 2 then (1, A.1, z_up A.2.1 to.toNat ((z_fpl 2 p.toNat).length, (z_rnd 2 p.toNat : Int), z_lsf (z_fpl 2 p.toNat)), 0) else (0, A.1, A.2.1, 5)) else (0, A.1, A.2.1, 2)
theorem b_lines {x to : Int} (h : ZB A k F I L R) (K : ∀ F' I', ZKp F I L F' I' L → ZB (sp_lines A x to).2 k F' I' L R → Q (some (.inl (sp_lines A x to).1)) (k, F', I', L, R)) : ZC (d + 10) 119 [.inr (.inr (some 2)), .inl x, .inl to] (k, F, I, L, R) Q := by
  obtain ⟨⟨a1, a2, a3, a4, a5, a6, a7, a8, a9, a10, a11, a12, a13, a14⟩, _, _, f1, _, hs, _, _, _, _, _, T1⟩ := h.2.1
  have hR := h.2.2.1
  have T18 := f1.1
  unfold sp_lines at K
  refine ze_B_lines ?_
  repeat (first | refine zw_t rfl rfl ?_ | refine zw_jump rfl rfl ?_ | refine zw_getI rfl rfl (by assumption) ?_ | refine zw_ialn rfl (by assumption) (by omega) ?_ | refine zw_laln rfl (by assumption) (by omega) ?_ | refine zw_iastn rfl (by omega) (by assumption) (by omega) ?_ | refine zw_lastn rfl (by assumption) (by omega) ?_ | refine zw_iald0 rfl (by assumption) (by omega) ?_ | refine zw_lald0 rfl (by assumption) (by omega) ?_ | refine zw_aaln rfl (by assumption) rfl (by omega) ?_ | refine zw_getR rfl (by assumption) (by assumption) ?_ | refine zw_alen rfl (by assumption) rfl ?_ | refine zw_iald rfl (by assumption) (by omega) (by omega) ?_ | refine zw_iast rfl (by omega) (by assumption) (by omega) (by omega) ?_ | refine zw_putI rfl (by assumption) ?_ | refine zw_lald rfl (by assumption) (by omega) (by omega) ?_ | refine zw_last rfl (by assumption) (by omega) (by omega) ?_ | refine zw_iadd rfl (by omega) (by omega) ?_ | refine zw_isub rfl (by omega) (by omega) ?_ | refine zw_iinc rfl rfl rfl (by omega) (by omega) ?_)
  refine zw_calls rfl rfl rfl rfl rfl rfl ?_
  refine c_isPrime T1 h.2.2.2.2.2.2 ?_
  repeat (first | refine zw_t rfl rfl ?_ | refine zw_jump rfl rfl ?_ | refine zw_getI rfl rfl (by assumption) ?_ | refine zw_ialn rfl (by assumption) (by omega) ?_ | refine zw_laln rfl (by assumption) (by omega) ?_ | refine zw_iastn rfl (by omega) (by assumption) (by omega) ?_ | refine zw_lastn rfl (by assumption) (by omega) ?_ | refine zw_iald0 rfl (by assumption) (by omega) ?_ | refine zw_lald0 rfl (by assumption) (by omega) ?_ | refine zw_aaln rfl (by assumption) rfl (by omega) ?_ | refine zw_getR rfl (by assumption) (by assumption) ?_ | refine zw_alen rfl (by assumption) rfl ?_ | refine zw_iald rfl (by assumption) (by omega) (by omega) ?_ | refine zw_iast rfl (by omega) (by assumption) (by omega) (by omega) ?_ | refine zw_putI rfl (by assumption) ?_ | refine zw_lald rfl (by assumption) (by omega) (by omega) ?_ | refine zw_last rfl (by assumption) (by omega) (by omega) ?_ | refine zw_iadd rfl (by omega) (by omega) ?_ | refine zw_isub rfl (by omega) (by omega) ?_ | refine zw_iinc rfl rfl rfl (by omega) (by omega) ?_)
  refine zw_calls rfl rfl rfl rfl rfl rfl ?_
  refine c_searchFault ?_
  have no : ∀ f : Int, f ≠ 0 → (∀ F' I', ZKp F I L F' I' L → ZB (A.1, A.2.1, f) k F' I' L R → Q (some (.inl 0)) (k, F', I', L, R)) → ZW (d + 9) 119 9 [some (.inr (.inr (some 2))), some (.inl x), some (.inl to)] [.inl f, .inr (.inr (some 2))] (k, F, I, L, R) Q := by
    intro f hf K
    refine zw_callv rfl rfl rfl rfl rfl rfl (by assumption) ?_
    refine c_passes a1 ?_
    rw [if_neg hf]
    refine zw_if_ne_f rfl rfl ?_
    repeat (first | refine zw_t rfl rfl ?_ | refine zw_jump rfl rfl ?_ | refine zw_getI rfl rfl (by assumption) ?_ | refine zw_ialn rfl (by assumption) (by omega) ?_ | refine zw_laln rfl (by assumption) (by omega) ?_ | refine zw_iastn rfl (by omega) (by assumption) (by omega) ?_ | refine zw_lastn rfl (by assumption) (by omega) ?_ | refine zw_iald0 rfl (by assumption) (by omega) ?_ | refine zw_lald0 rfl (by assumption) (by omega) ?_ | refine zw_aaln rfl (by assumption) rfl (by omega) ?_ | refine zw_getR rfl (by assumption) (by assumption) ?_ | refine zw_alen rfl (by assumption) rfl ?_ | refine zw_iald rfl (by assumption) (by omega) (by omega) ?_ | refine zw_iast rfl (by omega) (by assumption) (by omega) (by omega) ?_ | refine zw_putI rfl (by assumption) ?_ | refine zw_lald rfl (by assumption) (by omega) (by omega) ?_ | refine zw_last rfl (by assumption) (by omega) (by omega) ?_ | refine zw_iadd rfl (by omega) (by omega) ?_ | refine zw_isub rfl (by omega) (by omega) ?_ | refine zw_iinc rfl rfl rfl (by omega) (by omega) ?_)
    exact zw_zret rfl (Or.inl rfl) (K _ _ (z_refused h f).1 (z_refused h f).2)
  by_cases ht : 0 ≤ to ∧ to < 16
  · rw [if_pos ht] at K ⊢
    obtain ⟨t, rfl⟩ : ∃ t : Nat, to = (t : Int) := ⟨to.toNat, by omega⟩
    cases hx : z_prm x with
    | false =>
      rw [if_neg (by rw [hx]; decide)] at K
      exact no 5 (by decide) K
    | true =>
      rw [if_pos hx] at K
      obtain ⟨p, rfl, hpm⟩ := z_prm_cases hx
      have hp := z_prm_lt hpm
      rw [Int.toNat_natCast, Int.toNat_natCast] at K
      obtain ⟨b1, b2, b3, b4⟩ := z_all_le (g := 3) (Or.inr rfl) hp
      have c1 : (p : Int) * (p : Int) = ((p * p : Nat) : Int) := by rw [Int.natCast_mul]
      have hrd : z_rnd 3 p = p * p + p + 1 := rfl
      have hck : z_fck 3 p = true := List.all_eq_true.1 z_fd_ev3 p hpm
      show ZW _ _ _ _ [.inl 0, _] _ _
      refine zw_callv rfl rfl rfl rfl rfl rfl (by assumption) ?_
      refine c_passes a1 ?_
      rw [if_pos rfl]
      refine zw_if_ne_t rfl (by decide) ?_
      repeat (first | refine zw_t rfl rfl ?_ | refine zw_jump rfl rfl ?_ | refine zw_getI rfl rfl (by assumption) ?_ | refine zw_ialn rfl (by assumption) (by omega) ?_ | refine zw_laln rfl (by assumption) (by omega) ?_ | refine zw_iastn rfl (by omega) (by assumption) (by omega) ?_ | refine zw_lastn rfl (by assumption) (by omega) ?_ | refine zw_iald0 rfl (by assumption) (by omega) ?_ | refine zw_lald0 rfl (by assumption) (by omega) ?_ | refine zw_aaln rfl (by assumption) rfl (by omega) ?_ | refine zw_getR rfl (by assumption) (by assumption) ?_ | refine zw_alen rfl (by assumption) rfl ?_ | refine zw_iald rfl (by assumption) (by omega) (by omega) ?_ | refine zw_iast rfl (by omega) (by assumption) (by omega) (by omega) ?_ | refine zw_putI rfl (by assumption) ?_ | refine zw_lald rfl (by assumption) (by omega) (by omega) ?_ | refine zw_last rfl (by assumption) (by omega) (by omega) ?_ | refine zw_iadd rfl (by omega) (by omega) ?_ | refine zw_isub rfl (by omega) (by omega) ?_ | refine zw_iinc rfl rfl rfl (by omega) (by omega) ?_)
      rw [hR.2 t (by omega)]
      refine zw_callv rfl rfl rfl rfl rfl rfl (by assumption) ?_
      refine ze_Field_writeLines ?_
      repeat (first | refine zw_t rfl rfl ?_ | refine zw_jump rfl rfl ?_ | refine zw_getI rfl rfl (by assumption) ?_ | refine zw_ialn rfl (by assumption) (by omega) ?_ | refine zw_laln rfl (by assumption) (by omega) ?_ | refine zw_iastn rfl (by omega) (by assumption) (by omega) ?_ | refine zw_lastn rfl (by assumption) (by omega) ?_ | refine zw_iald0 rfl (by assumption) (by omega) ?_ | refine zw_lald0 rfl (by assumption) (by omega) ?_ | refine zw_aaln rfl (by assumption) rfl (by omega) ?_ | refine zw_getR rfl (by assumption) (by assumption) ?_ | refine zw_alen rfl (by assumption) rfl ?_ | refine zw_iald rfl (by assumption) (by omega) (by omega) ?_ | refine zw_iast rfl (by omega) (by assumption) (by omega) (by omega) ?_ | refine zw_putI rfl (by assumption) ?_ | refine zw_lald rfl (by assumption) (by omega) (by omega) ?_ | refine zw_last rfl (by assumption) (by omega) (by omega) ?_ | refine zw_iadd rfl (by omega) (by omega) ?_ | refine zw_isub rfl (by omega) (by omega) ?_ | refine zw_iinc rfl rfl rfl (by omega) (by omega) ?_)
      refine zw_imul rfl (by rw [c1]; omega) (by rw [c1]; omega) ?_
      rw [c1]
      repeat (first | refine zw_t rfl rfl ?_ | refine zw_jump rfl rfl ?_ | refine zw_getI rfl rfl (by assumption) ?_ | refine zw_ialn rfl (by assumption) (by omega) ?_ | refine zw_laln rfl (by assumption) (by omega) ?_ | refine zw_iastn rfl (by omega) (by assumption) (by omega) ?_ | refine zw_lastn rfl (by assumption) (by omega) ?_ | refine zw_iald0 rfl (by assumption) (by omega) ?_ | refine zw_lald0 rfl (by assumption) (by omega) ?_ | refine zw_aaln rfl (by assumption) rfl (by omega) ?_ | refine zw_getR rfl (by assumption) (by assumption) ?_ | refine zw_alen rfl (by assumption) rfl ?_ | refine zw_iald rfl (by assumption) (by omega) (by omega) ?_ | refine zw_iast rfl (by omega) (by assumption) (by omega) (by omega) ?_ | refine zw_putI rfl (by assumption) ?_ | refine zw_lald rfl (by assumption) (by omega) (by omega) ?_ | refine zw_last rfl (by assumption) (by omega) (by omega) ?_ | refine zw_iadd rfl (by omega) (by omega) ?_ | refine zw_isub rfl (by omega) (by omega) ?_ | refine zw_iinc rfl rfl rfl (by omega) (by omega) ?_)
      rw [show ((p * p : Nat) : Int) + (p : Int) + 1 = (z_rnd 3 p : Int) by rw [hrd]; omega]
      refine zw_callv rfl rfl rfl rfl rfl rfl (by assumption) ?_
      refine ZC.le (show d + 5 ≤ _ by omega) ?_
      refine c_fwrite (g := 3) (z_refused h 0).2 (by omega) (Or.inr rfl) hp hck (by rw [hrd]; omega) (fun F' I' kp hB => ?_)
      refine zw_vret rfl ?_
      repeat (first | refine zw_t rfl rfl ?_ | refine zw_jump rfl rfl ?_ | refine zw_getI rfl rfl (by assumption) ?_ | refine zw_ialn rfl (by assumption) (by omega) ?_ | refine zw_laln rfl (by assumption) (by omega) ?_ | refine zw_iastn rfl (by omega) (by assumption) (by omega) ?_ | refine zw_lastn rfl (by assumption) (by omega) ?_ | refine zw_iald0 rfl (by assumption) (by omega) ?_ | refine zw_lald0 rfl (by assumption) (by omega) ?_ | refine zw_aaln rfl (by assumption) rfl (by omega) ?_ | refine zw_getR rfl (by assumption) (by assumption) ?_ | refine zw_alen rfl (by assumption) rfl ?_ | refine zw_iald rfl (by assumption) (by omega) (by omega) ?_ | refine zw_iast rfl (by omega) (by assumption) (by omega) (by omega) ?_ | refine zw_putI rfl (by assumption) ?_ | refine zw_lald rfl (by assumption) (by omega) (by omega) ?_ | refine zw_last rfl (by assumption) (by omega) (by omega) ?_ | refine zw_iadd rfl (by omega) (by omega) ?_ | refine zw_isub rfl (by omega) (by omega) ?_ | refine zw_iinc rfl rfl rfl (by omega) (by omega) ?_)
      exact zw_zret rfl (Or.inr rfl) (K _ _ ((z_refused h 0).1.trans kp) hB)
  · rw [if_neg ht] at K ⊢
    exact no 2 (by decide) K
theorem b_powers {x to : Int} (h : ZB A k F I L R) (K : ∀ F' I', ZKp F I L F' I' L → ZB (sp_powers A x to).2 k F' I' L R → Q (some (.inl (sp_powers A x to).1)) (k, F', I', L, R)) : ZC (d + 10) 120 [.inr (.inr (some 2)), .inl x, .inl to] (k, F, I, L, R) Q := by
  obtain ⟨⟨a1, a2, a3, a4, a5, a6, a7, a8, a9, a10, a11, a12, a13, a14⟩, _, _, f1, _, hs, _, _, _, _, _, T1⟩ := h.2.1
  have hR := h.2.2.1
  have T18 := f1.1
  unfold sp_powers at K
  have no : ∀ f : Int, f ≠ 0 → (∀ F' I', ZKp F I L F' I' L → ZB (A.1, A.2.1, f) k F' I' L R → Q (some (.inl 0)) (k, F', I', L, R)) → ZW (d + 9) 120 22 [some (.inr (.inr (some 2))), some (.inl x), some (.inl to)] [.inl f, .inr (.inr (some 2))] (k, F, I, L, R) Q := by
    intro f hf K
    refine zw_callv rfl rfl rfl rfl rfl rfl (by assumption) ?_
    refine c_passes a1 ?_
    rw [if_neg hf]
    refine zw_if_ne_f rfl rfl ?_
    repeat (first | refine zw_t rfl rfl ?_ | refine zw_jump rfl rfl ?_ | refine zw_getI rfl rfl (by assumption) ?_ | refine zw_ialn rfl (by assumption) (by omega) ?_ | refine zw_laln rfl (by assumption) (by omega) ?_ | refine zw_iastn rfl (by omega) (by assumption) (by omega) ?_ | refine zw_lastn rfl (by assumption) (by omega) ?_ | refine zw_iald0 rfl (by assumption) (by omega) ?_ | refine zw_lald0 rfl (by assumption) (by omega) ?_ | refine zw_aaln rfl (by assumption) rfl (by omega) ?_ | refine zw_getR rfl (by assumption) (by assumption) ?_ | refine zw_alen rfl (by assumption) rfl ?_ | refine zw_iald rfl (by assumption) (by omega) (by omega) ?_ | refine zw_iast rfl (by omega) (by assumption) (by omega) (by omega) ?_ | refine zw_putI rfl (by assumption) ?_ | refine zw_lald rfl (by assumption) (by omega) (by omega) ?_ | refine zw_last rfl (by assumption) (by omega) (by omega) ?_ | refine zw_iadd rfl (by omega) (by omega) ?_ | refine zw_isub rfl (by omega) (by omega) ?_ | refine zw_iinc rfl rfl rfl (by omega) (by omega) ?_)
    exact zw_zret rfl (Or.inl rfl) (K _ _ (z_refused h f).1 (z_refused h f).2)
  have go : ∀ (b : Int), (b = 1 ∧ (z_prm x = true ∧ x ≠ 2)) ∨ (b = 0 ∧ ¬ (z_prm x = true ∧ x ≠ 2)) → ZW (d + 9) 120 19 [some (.inr (.inr (some 2))), some (.inl x), some (.inl to)] [.inl b, .inl to, .inr (.inr (some 2))] (k, F, I, L, R) Q := by
    intro b hb
    refine zw_calls rfl rfl rfl rfl rfl rfl ?_
    refine c_searchFault ?_
    by_cases ht : 0 ≤ to ∧ to < 16
    · rw [if_pos ht] at K ⊢
      obtain ⟨t, rfl⟩ : ∃ t : Nat, to = (t : Int) := ⟨to.toNat, by omega⟩
      rcases hb with ⟨hb1, hb2⟩ | ⟨hb1, hb2⟩
      · subst hb1
        rw [if_pos hb2] at K
        obtain ⟨hx, hx2⟩ := hb2
        obtain ⟨p, rfl, hpm⟩ := z_prm_cases hx
        have hp := z_prm_lt hpm
        rw [Int.toNat_natCast, Int.toNat_natCast] at K
        obtain ⟨b1, b2, b3, b4⟩ := z_all_le (g := 2) (Or.inl rfl) hp
        have c1 : (p : Int) * (p : Int) = ((p * p : Nat) : Int) := by rw [Int.natCast_mul]
        have hrd : z_rnd 2 p = p * p - 1 := rfl
        have hck : z_fck 2 p = true := by
          refine List.all_eq_true.1 z_fd_ev2 p ?_
          have h2 : p ≠ 2 := fun q => hx2 (by omega)
          rcases List.mem_cons.1 hpm with q | q
          · exact absurd q h2
          · exact q
        rw [if_neg (by decide)]
        refine zw_callv rfl rfl rfl rfl rfl rfl (by assumption) ?_
        refine c_passes a1 ?_
        rw [if_pos rfl]
        refine zw_if_ne_t rfl (by decide) ?_
        repeat (first | refine zw_t rfl rfl ?_ | refine zw_jump rfl rfl ?_ | refine zw_getI rfl rfl (by assumption) ?_ | refine zw_ialn rfl (by assumption) (by omega) ?_ | refine zw_laln rfl (by assumption) (by omega) ?_ | refine zw_iastn rfl (by omega) (by assumption) (by omega) ?_ | refine zw_lastn rfl (by assumption) (by omega) ?_ | refine zw_iald0 rfl (by assumption) (by omega) ?_ | refine zw_lald0 rfl (by assumption) (by omega) ?_ | refine zw_aaln rfl (by assumption) rfl (by omega) ?_ | refine zw_getR rfl (by assumption) (by assumption) ?_ | refine zw_alen rfl (by assumption) rfl ?_ | refine zw_iald rfl (by assumption) (by omega) (by omega) ?_ | refine zw_iast rfl (by omega) (by assumption) (by omega) (by omega) ?_ | refine zw_putI rfl (by assumption) ?_ | refine zw_lald rfl (by assumption) (by omega) (by omega) ?_ | refine zw_last rfl (by assumption) (by omega) (by omega) ?_ | refine zw_iadd rfl (by omega) (by omega) ?_ | refine zw_isub rfl (by omega) (by omega) ?_ | refine zw_iinc rfl rfl rfl (by omega) (by omega) ?_)
        rw [hR.2 t (by omega)]
        refine zw_callv rfl rfl rfl rfl rfl rfl (by assumption) ?_
        refine ze_Field_writePowers ?_
        repeat (first | refine zw_t rfl rfl ?_ | refine zw_jump rfl rfl ?_ | refine zw_getI rfl rfl (by assumption) ?_ | refine zw_ialn rfl (by assumption) (by omega) ?_ | refine zw_laln rfl (by assumption) (by omega) ?_ | refine zw_iastn rfl (by omega) (by assumption) (by omega) ?_ | refine zw_lastn rfl (by assumption) (by omega) ?_ | refine zw_iald0 rfl (by assumption) (by omega) ?_ | refine zw_lald0 rfl (by assumption) (by omega) ?_ | refine zw_aaln rfl (by assumption) rfl (by omega) ?_ | refine zw_getR rfl (by assumption) (by assumption) ?_ | refine zw_alen rfl (by assumption) rfl ?_ | refine zw_iald rfl (by assumption) (by omega) (by omega) ?_ | refine zw_iast rfl (by omega) (by assumption) (by omega) (by omega) ?_ | refine zw_putI rfl (by assumption) ?_ | refine zw_lald rfl (by assumption) (by omega) (by omega) ?_ | refine zw_last rfl (by assumption) (by omega) (by omega) ?_ | refine zw_iadd rfl (by omega) (by omega) ?_ | refine zw_isub rfl (by omega) (by omega) ?_ | refine zw_iinc rfl rfl rfl (by omega) (by omega) ?_)
        refine zw_imul rfl (by rw [c1]; omega) (by rw [c1]; omega) ?_
        rw [c1]
        repeat (first | refine zw_t rfl rfl ?_ | refine zw_jump rfl rfl ?_ | refine zw_getI rfl rfl (by assumption) ?_ | refine zw_ialn rfl (by assumption) (by omega) ?_ | refine zw_laln rfl (by assumption) (by omega) ?_ | refine zw_iastn rfl (by omega) (by assumption) (by omega) ?_ | refine zw_lastn rfl (by assumption) (by omega) ?_ | refine zw_iald0 rfl (by assumption) (by omega) ?_ | refine zw_lald0 rfl (by assumption) (by omega) ?_ | refine zw_aaln rfl (by assumption) rfl (by omega) ?_ | refine zw_getR rfl (by assumption) (by assumption) ?_ | refine zw_alen rfl (by assumption) rfl ?_ | refine zw_iald rfl (by assumption) (by omega) (by omega) ?_ | refine zw_iast rfl (by omega) (by assumption) (by omega) (by omega) ?_ | refine zw_putI rfl (by assumption) ?_ | refine zw_lald rfl (by assumption) (by omega) (by omega) ?_ | refine zw_last rfl (by assumption) (by omega) (by omega) ?_ | refine zw_iadd rfl (by omega) (by omega) ?_ | refine zw_isub rfl (by omega) (by omega) ?_ | refine zw_iinc rfl rfl rfl (by omega) (by omega) ?_)
        rw [show ((p * p : Nat) : Int) - 1 = (z_rnd 2 p : Int) by rw [hrd]; omega]
        refine zw_callv rfl rfl rfl rfl rfl rfl (by assumption) ?_
        refine ZC.le (show d + 5 ≤ _ by omega) ?_
        refine c_fwrite (g := 2) (z_refused h 0).2 (by omega) (Or.inl rfl) hp hck (by rw [hrd]; omega) (fun F' I' kp hB => ?_)
        refine zw_vret rfl ?_
        repeat (first | refine zw_t rfl rfl ?_ | refine zw_jump rfl rfl ?_ | refine zw_getI rfl rfl (by assumption) ?_ | refine zw_ialn rfl (by assumption) (by omega) ?_ | refine zw_laln rfl (by assumption) (by omega) ?_ | refine zw_iastn rfl (by omega) (by assumption) (by omega) ?_ | refine zw_lastn rfl (by assumption) (by omega) ?_ | refine zw_iald0 rfl (by assumption) (by omega) ?_ | refine zw_lald0 rfl (by assumption) (by omega) ?_ | refine zw_aaln rfl (by assumption) rfl (by omega) ?_ | refine zw_getR rfl (by assumption) (by assumption) ?_ | refine zw_alen rfl (by assumption) rfl ?_ | refine zw_iald rfl (by assumption) (by omega) (by omega) ?_ | refine zw_iast rfl (by omega) (by assumption) (by omega) (by omega) ?_ | refine zw_putI rfl (by assumption) ?_ | refine zw_lald rfl (by assumption) (by omega) (by omega) ?_ | refine zw_last rfl (by assumption) (by omega) (by omega) ?_ | refine zw_iadd rfl (by omega) (by omega) ?_ | refine zw_isub rfl (by omega) (by omega) ?_ | refine zw_iinc rfl rfl rfl (by omega) (by omega) ?_)
        exact zw_zret rfl (Or.inr rfl) (K _ _ ((z_refused h 0).1.trans kp) hB)
      · subst hb1
        rw [if_neg hb2] at K
        rw [if_pos rfl]
        exact no 5 (by decide) K
    · rw [if_neg ht] at K ⊢
      exact no 2 (by decide) K
  refine ze_B_powers ?_
  repeat (first | refine zw_t rfl rfl ?_ | refine zw_jump rfl rfl ?_ | refine zw_getI rfl rfl (by assumption) ?_ | refine zw_ialn rfl (by assumption) (by omega) ?_ | refine zw_laln rfl (by assumption) (by omega) ?_ | refine zw_iastn rfl (by omega) (by assumption) (by omega) ?_ | refine zw_lastn rfl (by assumption) (by omega) ?_ | refine zw_iald0 rfl (by assumption) (by omega) ?_ | refine zw_lald0 rfl (by assumption) (by omega) ?_ | refine zw_aaln rfl (by assumption) rfl (by omega) ?_ | refine zw_getR rfl (by assumption) (by assumption) ?_ | refine zw_alen rfl (by assumption) rfl ?_ | refine zw_iald rfl (by assumption) (by omega) (by omega) ?_ | refine zw_iast rfl (by omega) (by assumption) (by omega) (by omega) ?_ | refine zw_putI rfl (by assumption) ?_ | refine zw_lald rfl (by assumption) (by omega) (by omega) ?_ | refine zw_last rfl (by assumption) (by omega) (by omega) ?_ | refine zw_iadd rfl (by omega) (by omega) ?_ | refine zw_isub rfl (by omega) (by omega) ?_ | refine zw_iinc rfl rfl rfl (by omega) (by omega) ?_)
  refine zw_calls rfl rfl rfl rfl rfl rfl ?_
  refine c_isPrime T1 h.2.2.2.2.2.2 ?_
  cases hx : z_prm x with
  | false =>
    refine zw_if_eq_t rfl rfl ?_
    repeat (refine zw_ne 19 rfl ?_; first | refine zw_t rfl rfl ?_ | refine zw_jump rfl rfl ?_ | refine zw_getI rfl rfl (by assumption) ?_ | refine zw_ialn rfl (by assumption) (by omega) ?_ | refine zw_laln rfl (by assumption) (by omega) ?_ | refine zw_iastn rfl (by omega) (by assumption) (by omega) ?_ | refine zw_lastn rfl (by assumption) (by omega) ?_ | refine zw_iald0 rfl (by assumption) (by omega) ?_ | refine zw_lald0 rfl (by assumption) (by omega) ?_ | refine zw_aaln rfl (by assumption) rfl (by omega) ?_ | refine zw_getR rfl (by assumption) (by assumption) ?_ | refine zw_alen rfl (by assumption) rfl ?_ | refine zw_iald rfl (by assumption) (by omega) (by omega) ?_ | refine zw_iast rfl (by omega) (by assumption) (by omega) (by omega) ?_ | refine zw_putI rfl (by assumption) ?_ | refine zw_lald rfl (by assumption) (by omega) (by omega) ?_ | refine zw_last rfl (by assumption) (by omega) (by omega) ?_ | refine zw_iadd rfl (by omega) (by omega) ?_ | refine zw_isub rfl (by omega) (by omega) ?_ | refine zw_iinc rfl rfl rfl (by omega) (by omega) ?_)
    exact go 0 (Or.inr ⟨rfl, fun q => by rw [hx] at q; exact absurd q.1 (by decide)⟩)
  | true =>
    refine zw_if_eq_f rfl (by decide) ?_
    repeat (first | refine zw_t rfl rfl ?_ | refine zw_jump rfl rfl ?_ | refine zw_getI rfl rfl (by assumption) ?_ | refine zw_ialn rfl (by assumption) (by omega) ?_ | refine zw_laln rfl (by assumption) (by omega) ?_ | refine zw_iastn rfl (by omega) (by assumption) (by omega) ?_ | refine zw_lastn rfl (by assumption) (by omega) ?_ | refine zw_iald0 rfl (by assumption) (by omega) ?_ | refine zw_lald0 rfl (by assumption) (by omega) ?_ | refine zw_aaln rfl (by assumption) rfl (by omega) ?_ | refine zw_getR rfl (by assumption) (by assumption) ?_ | refine zw_alen rfl (by assumption) rfl ?_ | refine zw_iald rfl (by assumption) (by omega) (by omega) ?_ | refine zw_iast rfl (by omega) (by assumption) (by omega) (by omega) ?_ | refine zw_putI rfl (by assumption) ?_ | refine zw_lald rfl (by assumption) (by omega) (by omega) ?_ | refine zw_last rfl (by assumption) (by omega) (by omega) ?_ | refine zw_iadd rfl (by omega) (by omega) ?_ | refine zw_isub rfl (by omega) (by omega) ?_ | refine zw_iinc rfl rfl rfl (by omega) (by omega) ?_)
    refine zw_icmp_eq rfl (fun h1 => ?_) (fun h1 => ?_)
    · repeat (refine zw_ne 19 rfl ?_; first | refine zw_t rfl rfl ?_ | refine zw_jump rfl rfl ?_ | refine zw_getI rfl rfl (by assumption) ?_ | refine zw_ialn rfl (by assumption) (by omega) ?_ | refine zw_laln rfl (by assumption) (by omega) ?_ | refine zw_iastn rfl (by omega) (by assumption) (by omega) ?_ | refine zw_lastn rfl (by assumption) (by omega) ?_ | refine zw_iald0 rfl (by assumption) (by omega) ?_ | refine zw_lald0 rfl (by assumption) (by omega) ?_ | refine zw_aaln rfl (by assumption) rfl (by omega) ?_ | refine zw_getR rfl (by assumption) (by assumption) ?_ | refine zw_alen rfl (by assumption) rfl ?_ | refine zw_iald rfl (by assumption) (by omega) (by omega) ?_ | refine zw_iast rfl (by omega) (by assumption) (by omega) (by omega) ?_ | refine zw_putI rfl (by assumption) ?_ | refine zw_lald rfl (by assumption) (by omega) (by omega) ?_ | refine zw_last rfl (by assumption) (by omega) (by omega) ?_ | refine zw_iadd rfl (by omega) (by omega) ?_ | refine zw_isub rfl (by omega) (by omega) ?_ | refine zw_iinc rfl rfl rfl (by omega) (by omega) ?_)
      exact go 0 (Or.inr ⟨rfl, fun q => q.2 h1⟩)
    · repeat (refine zw_ne 19 rfl ?_; first | refine zw_t rfl rfl ?_ | refine zw_jump rfl rfl ?_ | refine zw_getI rfl rfl (by assumption) ?_ | refine zw_ialn rfl (by assumption) (by omega) ?_ | refine zw_laln rfl (by assumption) (by omega) ?_ | refine zw_iastn rfl (by omega) (by assumption) (by omega) ?_ | refine zw_lastn rfl (by assumption) (by omega) ?_ | refine zw_iald0 rfl (by assumption) (by omega) ?_ | refine zw_lald0 rfl (by assumption) (by omega) ?_ | refine zw_aaln rfl (by assumption) rfl (by omega) ?_ | refine zw_getR rfl (by assumption) (by assumption) ?_ | refine zw_alen rfl (by assumption) rfl ?_ | refine zw_iald rfl (by assumption) (by omega) (by omega) ?_ | refine zw_iast rfl (by omega) (by assumption) (by omega) (by omega) ?_ | refine zw_putI rfl (by assumption) ?_ | refine zw_lald rfl (by assumption) (by omega) (by omega) ?_ | refine zw_last rfl (by assumption) (by omega) (by omega) ?_ | refine zw_iadd rfl (by omega) (by omega) ?_ | refine zw_isub rfl (by omega) (by omega) ?_ | refine zw_iinc rfl rfl rfl (by omega) (by omega) ?_)
      exact go 1 (Or.inl ⟨rfl, hx, h1⟩)
end ZField2
