/-! FORMS: lowerBy, findUnits, formOf -/
def ZUn (u : Nat → Int) (n e : Nat) : Prop := (∀ j, j < n → ∃ a : Nat, u j = (a : Int) ∧ 1 ≤ a ∧ a < e ∧ Nat.gcd a e = 1) ∧ (∀ a : Nat, 1 ≤ a → a < e → Nat.gcd a e = 1 → ∃ j, j < n ∧ u j = (a : Int))
def ZFoI (F I : Nat → Nat → Int) (f : Nat) : Prop := ∃ n : Nat, F f 3 = (n : Int) ∧ n ≤ 400 ∧ (∀ e : Nat, F f 4 = (e : Int) → 2 ≤ e → ZUn (I (f + 5)) n e)
section ZForms2
variable {d f r c : Nat} {k : ZK} {F I : Nat → Nat → Int} {L : Nat → Nat → Int64} {R : Nat → Nat → Option Nat} {Q : Option ZV → ZH → Prop}
theorem c_lowerBy {w g : Nat → Int} {a e : Nat} (hf : ZFo k f) (hr : ZRu k r) (hrf : r + 1 < f ∨ f + 5 < r) (hc1 : 0 < c) (hc2 : c ≤ 24) (he : 0 < e ∧ e ≤ 400) (ha : a < e) (hg : Nat.gcd a e = 1) (hrc : F r 1 = (c : Int)) (hrr : F r 2 = (e : Int)) (hw : I (r + 1) = w) (hwr : ZRise w c) (hww : ZWin w c e) (hfc : F (f + 3) 1 = (c : Int)) (hfr : F (f + 3) 2 = (e : Int)) (hI : I (f + 4) = g) (hgw : ∀ j, j < c → -1000 ≤ g j ∧ g j ≤ 1000)
    (K : ∀ (im g' : Nat → Int) (b : Int), ZLow w c e a g g' b → Q (some (.inl b)) (k, z_u2 (z_u2 F (f + 1) 1 c) (f + 1) 2 e, z_up (z_up I (f + 2) im) (f + 4) g', L, R)) : ZC (d + 3) 21 [.inr (.inr (some f)), .inr (.inr (some r)), .inl (a : Int)] (k, F, I, L, R) Q := by
  have hf0 := hf
  obtain ⟨h1, h2, h3, h4, h5, hi0, hu0, h2f⟩ := hf
  have hi := hi0
  obtain ⟨g1, g2, g3, g4⟩ := hi
  have hl := z_low_can (im := I (f + 2)) (g := g) hc1 (show 0 < e by omega) hwr hww hg
  have hd : ∀ i j, i < j → j < c → w i * (a : Int) % (e : Int) ≠ w j * (a : Int) % (e : Int) := fun i j hij hj h => by
    have := z_unit_inj hg (hww i (by omega)) (hww j hj) h
    have := hwr i j hij hj
    omega
  obtain ⟨v, hv⟩ : ∃ v, v = z_bld (fun j => w j * (a : Int) % (e : Int)) (I (f + 2)) 0 c := ⟨_, rfl⟩
  have hb := z_bld_all (v := fun j => w j * (a : Int) % (e : Int)) (f := I (f + 2)) hd
  rw [← hv] at hl hb
  have hvw : ZWin v c e := fun j hj => by
    obtain ⟨j', hj', e⟩ := (hb.2 _).1 ⟨j, hj, rfl⟩
    rw [← e]
    exact ⟨Int.emod_nonneg _ (by omega), Int.emod_lt_of_pos _ (by omega)⟩
  have hvm : ∀ j, j < c → 0 ≤ v j ∧ v j ≤ 1000 := fun j hj => by have := hvw j hj; omega
  obtain ⟨F1, hF1⟩ : ∃ F1, F1 = z_u2 (z_u2 F (f + 1) 1 c) (f + 1) 2 (e : Int) := ⟨_, rfl⟩
  have q1 : F1 (f + 1) 1 = (c : Int) := by rw [hF1, z_u2_nk _ _ _ _ (by omega), z_u2_same]
  have q2 : F1 (f + 1) 2 = (e : Int) := by rw [hF1, z_u2_same]
  have q3 : F1 (f + 3) 1 = (c : Int) := by rw [hF1, z_u2_na _ _ _ _ (by omega), z_u2_na _ _ _ _ (by omega)]; exact hfc
  have q4 : F1 (f + 3) 2 = (e : Int) := by rw [hF1, z_u2_na _ _ _ _ (by omega), z_u2_na _ _ _ _ (by omega)]; exact hfr
  have loop : ∀ (n s : Nat) (b : Int) (I : Nat → Nat → Int) (g : Nat → Int), n + s = c → (b = 0 ∨ b = 1) → I (f + 2) = v → I (f + 4) = g → (∀ j, j < c → -1000 ≤ g j ∧ g j ≤ 1000) → Q (some (.inl (z_low v c e g b s n).2)) (k, F1, z_up I (f + 4) (z_low v c e g b s n).1, L, R) → ZW (d + 2) 21 14 [some (.inr (.inr (some f))), some (.inr (.inr (some r))), some (.inl (a : Int)), some (.inl b), some (.inl (s : Int))] [] (k, F1, I, L, R) Q := by
    intro n
    induction n with
    | zero =>
      intro s b I g hs hb hv hg hgw K
      unfold z_low at K
      dsimp only at K
      rw [← hg, z_up_self] at K
      repeat (first | refine zw_t rfl rfl ?_ | refine zw_jump rfl rfl ?_ | refine zw_getI rfl rfl (by assumption) ?_ | refine zw_ialn rfl (by assumption) (by omega) ?_ | refine zw_laln rfl (by assumption) (by omega) ?_ | refine zw_iastn rfl (by omega) (by assumption) (by omega) ?_ | refine zw_lastn rfl (by assumption) (by omega) ?_ | refine zw_iald0 rfl (by assumption) (by omega) ?_ | refine zw_lald0 rfl (by assumption) (by omega) ?_ | refine zw_aaln rfl (by assumption) rfl (by omega) ?_ | refine zw_getR rfl (by assumption) (by assumption) ?_ | refine zw_alen rfl (by assumption) rfl ?_ | refine zw_iald rfl (by assumption) (by omega) (by omega) ?_ | refine zw_iast rfl (by omega) (by assumption) (by omega) (by omega) ?_ | refine zw_putI rfl (by assumption) ?_ | refine zw_lald rfl (by assumption) (by omega) (by omega) ?_ | refine zw_last rfl (by assumption) (by omega) (by omega) ?_ | refine zw_iadd rfl (by omega) (by omega) ?_ | refine zw_isub rfl (by omega) (by omega) ?_ | refine zw_iinc rfl rfl rfl (by omega) (by omega) ?_)
      refine zw_icmp_ge_t rfl (by omega) ?_
      repeat (first | refine zw_t rfl rfl ?_ | refine zw_jump rfl rfl ?_ | refine zw_getI rfl rfl (by assumption) ?_ | refine zw_ialn rfl (by assumption) (by omega) ?_ | refine zw_laln rfl (by assumption) (by omega) ?_ | refine zw_iastn rfl (by omega) (by assumption) (by omega) ?_ | refine zw_lastn rfl (by assumption) (by omega) ?_ | refine zw_iald0 rfl (by assumption) (by omega) ?_ | refine zw_lald0 rfl (by assumption) (by omega) ?_ | refine zw_aaln rfl (by assumption) rfl (by omega) ?_ | refine zw_getR rfl (by assumption) (by assumption) ?_ | refine zw_alen rfl (by assumption) rfl ?_ | refine zw_iald rfl (by assumption) (by omega) (by omega) ?_ | refine zw_iast rfl (by omega) (by assumption) (by omega) (by omega) ?_ | refine zw_putI rfl (by assumption) ?_ | refine zw_lald rfl (by assumption) (by omega) (by omega) ?_ | refine zw_last rfl (by assumption) (by omega) (by omega) ?_ | refine zw_iadd rfl (by omega) (by omega) ?_ | refine zw_isub rfl (by omega) (by omega) ?_ | refine zw_iinc rfl rfl rfl (by omega) (by omega) ?_)
      exact zw_zret rfl hb K
    | succ n ih =>
      intro s b I g hs hb2 hv hg hgw K
      repeat (first | refine zw_t rfl rfl ?_ | refine zw_jump rfl rfl ?_ | refine zw_getI rfl rfl (by assumption) ?_ | refine zw_ialn rfl (by assumption) (by omega) ?_ | refine zw_laln rfl (by assumption) (by omega) ?_ | refine zw_iastn rfl (by omega) (by assumption) (by omega) ?_ | refine zw_lastn rfl (by assumption) (by omega) ?_ | refine zw_iald0 rfl (by assumption) (by omega) ?_ | refine zw_lald0 rfl (by assumption) (by omega) ?_ | refine zw_aaln rfl (by assumption) rfl (by omega) ?_ | refine zw_getR rfl (by assumption) (by assumption) ?_ | refine zw_alen rfl (by assumption) rfl ?_ | refine zw_iald rfl (by assumption) (by omega) (by omega) ?_ | refine zw_iast rfl (by omega) (by assumption) (by omega) (by omega) ?_ | refine zw_putI rfl (by assumption) ?_ | refine zw_lald rfl (by assumption) (by omega) (by omega) ?_ | refine zw_last rfl (by assumption) (by omega) (by omega) ?_ | refine zw_iadd rfl (by omega) (by omega) ?_ | refine zw_isub rfl (by omega) (by omega) ?_ | refine zw_iinc rfl rfl rfl (by omega) (by omega) ?_)
      refine zw_icmp_ge_f rfl (by omega) ?_
      repeat (first | refine zw_t rfl rfl ?_ | refine zw_jump rfl rfl ?_ | refine zw_getI rfl rfl (by assumption) ?_ | refine zw_ialn rfl (by assumption) (by omega) ?_ | refine zw_laln rfl (by assumption) (by omega) ?_ | refine zw_iastn rfl (by omega) (by assumption) (by omega) ?_ | refine zw_lastn rfl (by assumption) (by omega) ?_ | refine zw_iald0 rfl (by assumption) (by omega) ?_ | refine zw_lald0 rfl (by assumption) (by omega) ?_ | refine zw_aaln rfl (by assumption) rfl (by omega) ?_ | refine zw_getR rfl (by assumption) (by assumption) ?_ | refine zw_alen rfl (by assumption) rfl ?_ | refine zw_iald rfl (by assumption) (by omega) (by omega) ?_ | refine zw_iast rfl (by omega) (by assumption) (by omega) (by omega) ?_ | refine zw_putI rfl (by assumption) ?_ | refine zw_lald rfl (by assumption) (by omega) (by omega) ?_ | refine zw_last rfl (by assumption) (by omega) (by omega) ?_ | refine zw_iadd rfl (by omega) (by omega) ?_ | refine zw_isub rfl (by omega) (by omega) ?_ | refine zw_iinc rfl rfl rfl (by omega) (by omega) ?_)
      refine zw_callv rfl rfl rfl rfl rfl rfl (by assumption) ?_
      refine c_isMovedBefore hf0 q1 hc2 q2 (by omega) hv hg hvm hgw (by omega) ?_
      unfold z_low at K
      cases hx : z_bef (z_mov v c e s) g (c - 1) 1 with
      | true =>
        rw [if_pos hx] at K
        refine zw_if_eq_f rfl (by decide) ?_
        repeat (first | refine zw_t rfl rfl ?_ | refine zw_jump rfl rfl ?_ | refine zw_getI rfl rfl (by assumption) ?_ | refine zw_ialn rfl (by assumption) (by omega) ?_ | refine zw_laln rfl (by assumption) (by omega) ?_ | refine zw_iastn rfl (by omega) (by assumption) (by omega) ?_ | refine zw_lastn rfl (by assumption) (by omega) ?_ | refine zw_iald0 rfl (by assumption) (by omega) ?_ | refine zw_lald0 rfl (by assumption) (by omega) ?_ | refine zw_aaln rfl (by assumption) rfl (by omega) ?_ | refine zw_getR rfl (by assumption) (by assumption) ?_ | refine zw_alen rfl (by assumption) rfl ?_ | refine zw_iald rfl (by assumption) (by omega) (by omega) ?_ | refine zw_iast rfl (by omega) (by assumption) (by omega) (by omega) ?_ | refine zw_putI rfl (by assumption) ?_ | refine zw_lald rfl (by assumption) (by omega) (by omega) ?_ | refine zw_last rfl (by assumption) (by omega) (by omega) ?_ | refine zw_iadd rfl (by omega) (by omega) ?_ | refine zw_isub rfl (by omega) (by omega) ?_ | refine zw_iinc rfl rfl rfl (by omega) (by omega) ?_)
        refine zw_callv rfl rfl rfl rfl rfl rfl (by assumption) ?_
        refine c_keepMoved hf0 q1 hc2 q2 (by omega) hv hvm (by omega) ?_
        rw [z_u2_self F1 q3, z_u2_self F1 q4]
        repeat (first | refine zw_t rfl rfl ?_ | refine zw_jump rfl rfl ?_ | refine zw_getI rfl rfl (by assumption) ?_ | refine zw_ialn rfl (by assumption) (by omega) ?_ | refine zw_laln rfl (by assumption) (by omega) ?_ | refine zw_iastn rfl (by omega) (by assumption) (by omega) ?_ | refine zw_lastn rfl (by assumption) (by omega) ?_ | refine zw_iald0 rfl (by assumption) (by omega) ?_ | refine zw_lald0 rfl (by assumption) (by omega) ?_ | refine zw_aaln rfl (by assumption) rfl (by omega) ?_ | refine zw_getR rfl (by assumption) (by assumption) ?_ | refine zw_alen rfl (by assumption) rfl ?_ | refine zw_iald rfl (by assumption) (by omega) (by omega) ?_ | refine zw_iast rfl (by omega) (by assumption) (by omega) (by omega) ?_ | refine zw_putI rfl (by assumption) ?_ | refine zw_lald rfl (by assumption) (by omega) (by omega) ?_ | refine zw_last rfl (by assumption) (by omega) (by omega) ?_ | refine zw_iadd rfl (by omega) (by omega) ?_ | refine zw_isub rfl (by omega) (by omega) ?_ | refine zw_iinc rfl rfl rfl (by omega) (by omega) ?_)
        refine zw_goto rfl ?_
        have ea : ZAgr (z_bld (z_mov v c e s) g 0 c) (z_mov v c e s) c := z_bld_rise (z_mov_rise hb.1 hvw (by omega))
        refine ih (s + 1) 1 _ (z_bld (z_mov v c e s) g 0 c) (by omega) (Or.inr rfl) (by rw [z_up_ne _ _ (by omega)]; exact hv) (by rw [z_up_same, hg]) (fun j hj => ?_) ?_
        · rw [ea j hj]
          exact z_mov_le (by omega) hvm (by omega) hj
        · rw [z_up_up]
          exact K
      | false =>
        rw [if_neg (by rw [hx]; decide)] at K
        refine zw_if_eq_t rfl rfl ?_
        repeat (first | refine zw_t rfl rfl ?_ | refine zw_jump rfl rfl ?_ | refine zw_getI rfl rfl (by assumption) ?_ | refine zw_ialn rfl (by assumption) (by omega) ?_ | refine zw_laln rfl (by assumption) (by omega) ?_ | refine zw_iastn rfl (by omega) (by assumption) (by omega) ?_ | refine zw_lastn rfl (by assumption) (by omega) ?_ | refine zw_iald0 rfl (by assumption) (by omega) ?_ | refine zw_lald0 rfl (by assumption) (by omega) ?_ | refine zw_aaln rfl (by assumption) rfl (by omega) ?_ | refine zw_getR rfl (by assumption) (by assumption) ?_ | refine zw_alen rfl (by assumption) rfl ?_ | refine zw_iald rfl (by assumption) (by omega) (by omega) ?_ | refine zw_iast rfl (by omega) (by assumption) (by omega) (by omega) ?_ | refine zw_putI rfl (by assumption) ?_ | refine zw_lald rfl (by assumption) (by omega) (by omega) ?_ | refine zw_last rfl (by assumption) (by omega) (by omega) ?_ | refine zw_iadd rfl (by omega) (by omega) ?_ | refine zw_isub rfl (by omega) (by omega) ?_ | refine zw_iinc rfl rfl rfl (by omega) (by omega) ?_)
        refine zw_goto rfl ?_
        exact ih (s + 1) b I g (by omega) hb2 hv hg hgw K
  refine ze_Forms_lowerBy ?_
  repeat (first | refine zw_t rfl rfl ?_ | refine zw_jump rfl rfl ?_ | refine zw_getI rfl rfl (by assumption) ?_ | refine zw_ialn rfl (by assumption) (by omega) ?_ | refine zw_laln rfl (by assumption) (by omega) ?_ | refine zw_iastn rfl (by omega) (by assumption) (by omega) ?_ | refine zw_lastn rfl (by assumption) (by omega) ?_ | refine zw_iald0 rfl (by assumption) (by omega) ?_ | refine zw_lald0 rfl (by assumption) (by omega) ?_ | refine zw_aaln rfl (by assumption) rfl (by omega) ?_ | refine zw_getR rfl (by assumption) (by assumption) ?_ | refine zw_alen rfl (by assumption) rfl ?_ | refine zw_iald rfl (by assumption) (by omega) (by omega) ?_ | refine zw_iast rfl (by omega) (by assumption) (by omega) (by omega) ?_ | refine zw_putI rfl (by assumption) ?_ | refine zw_lald rfl (by assumption) (by omega) (by omega) ?_ | refine zw_last rfl (by assumption) (by omega) (by omega) ?_ | refine zw_iadd rfl (by omega) (by omega) ?_ | refine zw_isub rfl (by omega) (by omega) ?_ | refine zw_iinc rfl rfl rfl (by omega) (by omega) ?_)
  refine zw_callv rfl rfl rfl rfl rfl rfl (by assumption) ?_
  refine c_multiplyFrom hi0 hr (by omega) hrc hc2 hrr (by omega) (by omega) (fun j hj => by have := hww j hj; rw [hw]; omega) ?_
  rw [hw, ← hF1]
  repeat (refine zw_ne 14 rfl ?_; first | refine zw_t rfl rfl ?_ | refine zw_jump rfl rfl ?_ | refine zw_getI rfl rfl (by assumption) ?_ | refine zw_ialn rfl (by assumption) (by omega) ?_ | refine zw_laln rfl (by assumption) (by omega) ?_ | refine zw_iastn rfl (by omega) (by assumption) (by omega) ?_ | refine zw_lastn rfl (by assumption) (by omega) ?_ | refine zw_iald0 rfl (by assumption) (by omega) ?_ | refine zw_lald0 rfl (by assumption) (by omega) ?_ | refine zw_aaln rfl (by assumption) rfl (by omega) ?_ | refine zw_getR rfl (by assumption) (by assumption) ?_ | refine zw_alen rfl (by assumption) rfl ?_ | refine zw_iald rfl (by assumption) (by omega) (by omega) ?_ | refine zw_iast rfl (by omega) (by assumption) (by omega) (by omega) ?_ | refine zw_putI rfl (by assumption) ?_ | refine zw_lald rfl (by assumption) (by omega) (by omega) ?_ | refine zw_last rfl (by assumption) (by omega) (by omega) ?_ | refine zw_iadd rfl (by omega) (by omega) ?_ | refine zw_isub rfl (by omega) (by omega) ?_ | refine zw_iinc rfl rfl rfl (by omega) (by omega) ?_)
  refine loop c 0 0 _ g (by omega) (Or.inl rfl) ?_ (by rw [z_up_ne _ _ (by omega)]; exact hI) hgw ?_
  · rw [z_up_same]; exact hv.symm
  · rw [hF1]
    exact K _ _ _ hl
theorem c_findUnits {e : Nat} (hf : ZFo k f) (hi : ZFoI F I f) (he : 2 ≤ e ∧ e ≤ 400)
    (K : ∀ (u : Nat → Int) (n : Nat), n ≤ 400 → ZUn u n e → Q none (k, z_u2 (z_u2 F f 3 n) f 4 e, z_up I (f + 5) u, L, R)) : ZC (d + 2) 20 [.inr (.inr (some f)), .inl (e : Int)] (k, F, I, L, R) Q := by
  obtain ⟨h1, h2, h3, h4, h5, hi0, hu0, h2f⟩ := hf
  obtain ⟨n0, i1, i2, i3⟩ := hi
  refine ze_Forms_findUnits ?_
  repeat (first | refine zw_t rfl rfl ?_ | refine zw_jump rfl rfl ?_ | refine zw_getI rfl rfl (by assumption) ?_ | refine zw_ialn rfl (by assumption) (by omega) ?_ | refine zw_laln rfl (by assumption) (by omega) ?_ | refine zw_iastn rfl (by omega) (by assumption) (by omega) ?_ | refine zw_lastn rfl (by assumption) (by omega) ?_ | refine zw_iald0 rfl (by assumption) (by omega) ?_ | refine zw_lald0 rfl (by assumption) (by omega) ?_ | refine zw_aaln rfl (by assumption) rfl (by omega) ?_ | refine zw_getR rfl (by assumption) (by assumption) ?_ | refine zw_alen rfl (by assumption) rfl ?_ | refine zw_iald rfl (by assumption) (by omega) (by omega) ?_ | refine zw_iast rfl (by omega) (by assumption) (by omega) (by omega) ?_ | refine zw_putI rfl (by assumption) ?_ | refine zw_lald rfl (by assumption) (by omega) (by omega) ?_ | refine zw_last rfl (by assumption) (by omega) (by omega) ?_ | refine zw_iadd rfl (by omega) (by omega) ?_ | refine zw_isub rfl (by omega) (by omega) ?_ | refine zw_iinc rfl rfl rfl (by omega) (by omega) ?_)
  refine zw_icmp_ne rfl (fun h => ?_) (fun h => ?_)
  · have loop : ∀ (m a n : Nat) (F I : Nat → Nat → Int), m + a = e → 1 ≤ a → n < a → F f 3 = (n : Int) → (∀ j, j < n → ∃ b : Nat, I (f + 5) j = (b : Int) ∧ 1 ≤ b ∧ b < e ∧ Nat.gcd b e = 1) → (∀ b : Nat, 1 ≤ b → b < a → Nat.gcd b e = 1 → ∃ j, j < n ∧ I (f + 5) j = (b : Int)) → (∀ (u : Nat → Int) (n : Nat), n ≤ 400 → ZUn u n e → Q none (k, z_u2 F f 3 n, z_up I (f + 5) u, L, R)) → ZW (d + 1) 20 21 [some (.inr (.inr (some f))), some (.inl (e : Int)), some (.inl (a : Int))] [] (k, F, I, L, R) Q := by
      intro m
      induction m with
      | zero =>
        intro a n F I ha ha1 hn f3 p1 p2 K
        repeat (first | refine zw_t rfl rfl ?_ | refine zw_jump rfl rfl ?_ | refine zw_getI rfl rfl (by assumption) ?_ | refine zw_ialn rfl (by assumption) (by omega) ?_ | refine zw_laln rfl (by assumption) (by omega) ?_ | refine zw_iastn rfl (by omega) (by assumption) (by omega) ?_ | refine zw_lastn rfl (by assumption) (by omega) ?_ | refine zw_iald0 rfl (by assumption) (by omega) ?_ | refine zw_lald0 rfl (by assumption) (by omega) ?_ | refine zw_aaln rfl (by assumption) rfl (by omega) ?_ | refine zw_getR rfl (by assumption) (by assumption) ?_ | refine zw_alen rfl (by assumption) rfl ?_ | refine zw_iald rfl (by assumption) (by omega) (by omega) ?_ | refine zw_iast rfl (by omega) (by assumption) (by omega) (by omega) ?_ | refine zw_putI rfl (by assumption) ?_ | refine zw_lald rfl (by assumption) (by omega) (by omega) ?_ | refine zw_last rfl (by assumption) (by omega) (by omega) ?_ | refine zw_iadd rfl (by omega) (by omega) ?_ | refine zw_isub rfl (by omega) (by omega) ?_ | refine zw_iinc rfl rfl rfl (by omega) (by omega) ?_)
        refine zw_icmp_ge_t rfl (by omega) ?_
        refine zw_vret rfl ?_
        have K := K (I (f + 5)) n (by omega) ⟨p1, fun b b1 b2 b3 => p2 b b1 (by omega) b3⟩
        rw [z_u2_self F f3, z_up_self] at K
        exact K
      | succ m ih =>
        intro a n F I ha ha1 hn f3 p1 p2 K
        repeat (first | refine zw_t rfl rfl ?_ | refine zw_jump rfl rfl ?_ | refine zw_getI rfl rfl (by assumption) ?_ | refine zw_ialn rfl (by assumption) (by omega) ?_ | refine zw_laln rfl (by assumption) (by omega) ?_ | refine zw_iastn rfl (by omega) (by assumption) (by omega) ?_ | refine zw_lastn rfl (by assumption) (by omega) ?_ | refine zw_iald0 rfl (by assumption) (by omega) ?_ | refine zw_lald0 rfl (by assumption) (by omega) ?_ | refine zw_aaln rfl (by assumption) rfl (by omega) ?_ | refine zw_getR rfl (by assumption) (by assumption) ?_ | refine zw_alen rfl (by assumption) rfl ?_ | refine zw_iald rfl (by assumption) (by omega) (by omega) ?_ | refine zw_iast rfl (by omega) (by assumption) (by omega) (by omega) ?_ | refine zw_putI rfl (by assumption) ?_ | refine zw_lald rfl (by assumption) (by omega) (by omega) ?_ | refine zw_last rfl (by assumption) (by omega) (by omega) ?_ | refine zw_iadd rfl (by omega) (by omega) ?_ | refine zw_isub rfl (by omega) (by omega) ?_ | refine zw_iinc rfl rfl rfl (by omega) (by omega) ?_)
        refine zw_icmp_ge_f rfl (by omega) ?_
        repeat (first | refine zw_t rfl rfl ?_ | refine zw_jump rfl rfl ?_ | refine zw_getI rfl rfl (by assumption) ?_ | refine zw_ialn rfl (by assumption) (by omega) ?_ | refine zw_laln rfl (by assumption) (by omega) ?_ | refine zw_iastn rfl (by omega) (by assumption) (by omega) ?_ | refine zw_lastn rfl (by assumption) (by omega) ?_ | refine zw_iald0 rfl (by assumption) (by omega) ?_ | refine zw_lald0 rfl (by assumption) (by omega) ?_ | refine zw_aaln rfl (by assumption) rfl (by omega) ?_ | refine zw_getR rfl (by assumption) (by assumption) ?_ | refine zw_alen rfl (by assumption) rfl ?_ | refine zw_iald rfl (by assumption) (by omega) (by omega) ?_ | refine zw_iast rfl (by omega) (by assumption) (by omega) (by omega) ?_ | refine zw_putI rfl (by assumption) ?_ | refine zw_lald rfl (by assumption) (by omega) (by omega) ?_ | refine zw_last rfl (by assumption) (by omega) (by omega) ?_ | refine zw_iadd rfl (by omega) (by omega) ?_ | refine zw_isub rfl (by omega) (by omega) ?_ | refine zw_iinc rfl rfl rfl (by omega) (by omega) ?_)
        refine zw_icmp_ge_f rfl (by omega) ?_
        repeat (first | refine zw_t rfl rfl ?_ | refine zw_jump rfl rfl ?_ | refine zw_getI rfl rfl (by assumption) ?_ | refine zw_ialn rfl (by assumption) (by omega) ?_ | refine zw_laln rfl (by assumption) (by omega) ?_ | refine zw_iastn rfl (by omega) (by assumption) (by omega) ?_ | refine zw_lastn rfl (by assumption) (by omega) ?_ | refine zw_iald0 rfl (by assumption) (by omega) ?_ | refine zw_lald0 rfl (by assumption) (by omega) ?_ | refine zw_aaln rfl (by assumption) rfl (by omega) ?_ | refine zw_getR rfl (by assumption) (by assumption) ?_ | refine zw_alen rfl (by assumption) rfl ?_ | refine zw_iald rfl (by assumption) (by omega) (by omega) ?_ | refine zw_iast rfl (by omega) (by assumption) (by omega) (by omega) ?_ | refine zw_putI rfl (by assumption) ?_ | refine zw_lald rfl (by assumption) (by omega) (by omega) ?_ | refine zw_last rfl (by assumption) (by omega) (by omega) ?_ | refine zw_iadd rfl (by omega) (by omega) ?_ | refine zw_isub rfl (by omega) (by omega) ?_ | refine zw_iinc rfl rfl rfl (by omega) (by omega) ?_)
        refine zw_calls rfl rfl rfl rfl rfl rfl ?_
        refine c_common (by omega) (by omega) ?_
        repeat (first | refine zw_t rfl rfl ?_ | refine zw_jump rfl rfl ?_ | refine zw_getI rfl rfl (by assumption) ?_ | refine zw_ialn rfl (by assumption) (by omega) ?_ | refine zw_laln rfl (by assumption) (by omega) ?_ | refine zw_iastn rfl (by omega) (by assumption) (by omega) ?_ | refine zw_lastn rfl (by assumption) (by omega) ?_ | refine zw_iald0 rfl (by assumption) (by omega) ?_ | refine zw_lald0 rfl (by assumption) (by omega) ?_ | refine zw_aaln rfl (by assumption) rfl (by omega) ?_ | refine zw_getR rfl (by assumption) (by assumption) ?_ | refine zw_alen rfl (by assumption) rfl ?_ | refine zw_iald rfl (by assumption) (by omega) (by omega) ?_ | refine zw_iast rfl (by omega) (by assumption) (by omega) (by omega) ?_ | refine zw_putI rfl (by assumption) ?_ | refine zw_lald rfl (by assumption) (by omega) (by omega) ?_ | refine zw_last rfl (by assumption) (by omega) (by omega) ?_ | refine zw_iadd rfl (by omega) (by omega) ?_ | refine zw_isub rfl (by omega) (by omega) ?_ | refine zw_iinc rfl rfl rfl (by omega) (by omega) ?_)
        refine zw_icmp_ne rfl (fun hg => ?_) (fun hg => ?_)
        · repeat (first | refine zw_t rfl rfl ?_ | refine zw_jump rfl rfl ?_ | refine zw_getI rfl rfl (by assumption) ?_ | refine zw_ialn rfl (by assumption) (by omega) ?_ | refine zw_laln rfl (by assumption) (by omega) ?_ | refine zw_iastn rfl (by omega) (by assumption) (by omega) ?_ | refine zw_lastn rfl (by assumption) (by omega) ?_ | refine zw_iald0 rfl (by assumption) (by omega) ?_ | refine zw_lald0 rfl (by assumption) (by omega) ?_ | refine zw_aaln rfl (by assumption) rfl (by omega) ?_ | refine zw_getR rfl (by assumption) (by assumption) ?_ | refine zw_alen rfl (by assumption) rfl ?_ | refine zw_iald rfl (by assumption) (by omega) (by omega) ?_ | refine zw_iast rfl (by omega) (by assumption) (by omega) (by omega) ?_ | refine zw_putI rfl (by assumption) ?_ | refine zw_lald rfl (by assumption) (by omega) (by omega) ?_ | refine zw_last rfl (by assumption) (by omega) (by omega) ?_ | refine zw_iadd rfl (by omega) (by omega) ?_ | refine zw_isub rfl (by omega) (by omega) ?_ | refine zw_iinc rfl rfl rfl (by omega) (by omega) ?_)
          refine zw_goto rfl ?_
          refine ih (a + 1) n F I (by omega) (by omega) (by omega) f3 p1 (fun b b1 b2 b3 => ?_) K
          by_cases hb : b = a
          · subst hb; omega
          · exact p2 b b1 (by omega) b3
        · have hg1 : Nat.gcd a e = 1 := by omega
          repeat (first | refine zw_t rfl rfl ?_ | refine zw_jump rfl rfl ?_ | refine zw_getI rfl rfl (by assumption) ?_ | refine zw_ialn rfl (by assumption) (by omega) ?_ | refine zw_laln rfl (by assumption) (by omega) ?_ | refine zw_iastn rfl (by omega) (by assumption) (by omega) ?_ | refine zw_lastn rfl (by assumption) (by omega) ?_ | refine zw_iald0 rfl (by assumption) (by omega) ?_ | refine zw_lald0 rfl (by assumption) (by omega) ?_ | refine zw_aaln rfl (by assumption) rfl (by omega) ?_ | refine zw_getR rfl (by assumption) (by assumption) ?_ | refine zw_alen rfl (by assumption) rfl ?_ | refine zw_iald rfl (by assumption) (by omega) (by omega) ?_ | refine zw_iast rfl (by omega) (by assumption) (by omega) (by omega) ?_ | refine zw_putI rfl (by assumption) ?_ | refine zw_lald rfl (by assumption) (by omega) (by omega) ?_ | refine zw_last rfl (by assumption) (by omega) (by omega) ?_ | refine zw_iadd rfl (by omega) (by omega) ?_ | refine zw_isub rfl (by omega) (by omega) ?_ | refine zw_iinc rfl rfl rfl (by omega) (by omega) ?_)
          rw [f3, Int.toNat_natCast]
          refine zw_goto rfl ?_
          refine ih (a + 1) (n + 1) _ _ (by omega) (by omega) (by omega) (z_u2_same _ _ _ _) (fun j hj => ?_) (fun b b1 b2 b3 => ?_) (fun u n' hn' hu => ?_)
          · by_cases hj2 : j = n
            · subst hj2
              exact ⟨a, z_u2_same _ _ _ _, ha1, by omega, hg1⟩
            · rw [z_u2_nk _ _ _ _ hj2]
              exact p1 j (by omega)
          · by_cases hb : b = a
            · subst hb
              exact ⟨n, by omega, z_u2_same _ _ _ _⟩
            · obtain ⟨j, hj, ej⟩ := p2 b b1 (by omega) b3
              exact ⟨j, by omega, by rw [z_u2_nk _ _ _ _ (by omega)]; exact ej⟩
          · have K := K u n' hn' hu
            rw [z_u2_u2, z_u2_row I, z_up_up]
            exact K
    repeat (refine zw_ne 21 rfl ?_; first | refine zw_t rfl rfl ?_ | refine zw_jump rfl rfl ?_ | refine zw_getI rfl rfl (by assumption) ?_ | refine zw_ialn rfl (by assumption) (by omega) ?_ | refine zw_laln rfl (by assumption) (by omega) ?_ | refine zw_iastn rfl (by omega) (by assumption) (by omega) ?_ | refine zw_lastn rfl (by assumption) (by omega) ?_ | refine zw_iald0 rfl (by assumption) (by omega) ?_ | refine zw_lald0 rfl (by assumption) (by omega) ?_ | refine zw_aaln rfl (by assumption) rfl (by omega) ?_ | refine zw_getR rfl (by assumption) (by assumption) ?_ | refine zw_alen rfl (by assumption) rfl ?_ | refine zw_iald rfl (by assumption) (by omega) (by omega) ?_ | refine zw_iast rfl (by omega) (by assumption) (by omega) (by omega) ?_ | refine zw_putI rfl (by assumption) ?_ | refine zw_lald rfl (by assumption) (by omega) (by omega) ?_ | refine zw_last rfl (by assumption) (by omega) (by omega) ?_ | refine zw_iadd rfl (by omega) (by omega) ?_ | refine zw_isub rfl (by omega) (by omega) ?_ | refine zw_iinc rfl rfl rfl (by omega) (by omega) ?_)
    refine loop (e - 1) 1 0 _ I (by omega) (by omega) (by omega) (z_u2_same _ _ _ _) (fun j hj => by omega) (fun b b1 b2 _ => by omega) (fun u n hn hu => ?_)
    rw [z_u2_u2, z_u2_comm _ (by omega)]
    exact K u n hn hu
  · refine zw_vret rfl ?_
    have K := K (I (f + 5)) n0 i2 (i3 e (by omega) he.1)
    rw [z_u2_self F i1, z_u2_self F (by omega), z_up_self] at K
    exact K
/-- no moved multiple is before g, and g is one of them -/
def ZBest (w : Nat → Int) (c e : Nat) (g : Nat → Int) : Prop := (∀ a : Nat, 1 ≤ a → a < e → Nat.gcd a e = 1 → ∀ h, ZCan w c e a h → z_bef h g (c - 1) 1 = false) ∧ (∃ a : Nat, 1 ≤ a ∧ a < e ∧ Nat.gcd a e = 1 ∧ ZCan w c e a g)
theorem z_can_self {w g : Nat → Int} {e : Nat} (hc : 0 < c) (he : 2 ≤ e) (hw : ZRise w c) (hww : ZWin w c e) (h0 : w 0 = 0) (hg : ZAgr g w c) : ZCan w c e 1 g := by
  refine ⟨0, hc, hg.symm.rise hw, fun y => ?_⟩
  rw [hg.mem y]
  have e1 : ∀ j, j < c → (1 * (w j - w 0)) % (e : Int) = w j := fun j hj => by
    have := hww j hj
    rw [h0, Int.one_mul, Int.sub_zero, Int.emod_eq_of_lt this.1 this.2]
  constructor
  · rintro ⟨j, hj, ej⟩; exact ⟨j, hj, by rw [e1 j hj]; exact ej⟩
  · rintro ⟨j, hj, ej⟩; exact ⟨j, hj, by rw [e1 j hj] at ej; exact ej⟩
/-- all but the bench's own places of forms are as they were -/
def ZFoK (f : Nat) (F I F' I' : Nat → Nat → Int) : Prop := (∀ a, a ≠ f → a ≠ f + 1 → a ≠ f + 3 → F' a = F a) ∧ (∀ a, a ≠ f + 2 → a ≠ f + 4 → a ≠ f + 5 → I' a = I a)
theorem c_formOf_ring {w : Nat → Int} {e : Nat} (hf : ZFo k f) (hi : ZFoI F I f) (hr : ZRu k r) (hrf : r + 1 < f ∨ f + 5 < r) (hc1 : 0 < c) (hc2 : c ≤ 24) (he : 2 ≤ e ∧ e ≤ 400) (hrc : F r 1 = (c : Int)) (hrr : F r 2 = (e : Int)) (hw : I (r + 1) = w) (hwr : ZRise w c) (hww : ZWin w c e) (h00 : w 0 = 0)
    (K : ∀ (F' I' : Nat → Nat → Int), ZFoK f F I F' I' → ZFoI F' I' f → F' (f + 3) 1 = (c : Int) → F' (f + 3) 2 = (e : Int) → ZBest w c e (I' (f + 4)) → Q (some (.inr (.inr (some (f + 3))))) (k, F', I', L, R)) : ZC (d + 4) 18 [.inr (.inr (some f)), .inr (.inr (some r))] (k, F, I, L, R) Q := by
  have hf0 := hf
  have hr0 := hr
  obtain ⟨h1, h2, h3, h4, h5, hi0, hu0, h2f⟩ := hf
  obtain ⟨r1, r2, r3, r4⟩ := hr
  have hu := hu0
  obtain ⟨u1, u2, u3, u4⟩ := hu
  refine ze_Forms_formOf ?_
  repeat (first | refine zw_t rfl rfl ?_ | refine zw_jump rfl rfl ?_ | refine zw_getI rfl rfl (by assumption) ?_ | refine zw_ialn rfl (by assumption) (by omega) ?_ | refine zw_laln rfl (by assumption) (by omega) ?_ | refine zw_iastn rfl (by omega) (by assumption) (by omega) ?_ | refine zw_lastn rfl (by assumption) (by omega) ?_ | refine zw_iald0 rfl (by assumption) (by omega) ?_ | refine zw_lald0 rfl (by assumption) (by omega) ?_ | refine zw_aaln rfl (by assumption) rfl (by omega) ?_ | refine zw_getR rfl (by assumption) (by assumption) ?_ | refine zw_alen rfl (by assumption) rfl ?_ | refine zw_iald rfl (by assumption) (by omega) (by omega) ?_ | refine zw_iast rfl (by omega) (by assumption) (by omega) (by omega) ?_ | refine zw_putI rfl (by assumption) ?_ | refine zw_lald rfl (by assumption) (by omega) (by omega) ?_ | refine zw_last rfl (by assumption) (by omega) (by omega) ?_ | refine zw_iadd rfl (by omega) (by omega) ?_ | refine zw_isub rfl (by omega) (by omega) ?_ | refine zw_iinc rfl rfl rfl (by omega) (by omega) ?_)
  refine zw_callv rfl rfl rfl rfl rfl rfl (by assumption) ?_
  refine c_isRing hr0 ?_
  rw [hrr, if_pos (by omega)]
  refine zw_if_ne_t rfl (by decide) ?_
  repeat (first | refine zw_t rfl rfl ?_ | refine zw_jump rfl rfl ?_ | refine zw_getI rfl rfl (by assumption) ?_ | refine zw_ialn rfl (by assumption) (by omega) ?_ | refine zw_laln rfl (by assumption) (by omega) ?_ | refine zw_iastn rfl (by omega) (by assumption) (by omega) ?_ | refine zw_lastn rfl (by assumption) (by omega) ?_ | refine zw_iald0 rfl (by assumption) (by omega) ?_ | refine zw_lald0 rfl (by assumption) (by omega) ?_ | refine zw_aaln rfl (by assumption) rfl (by omega) ?_ | refine zw_getR rfl (by assumption) (by assumption) ?_ | refine zw_alen rfl (by assumption) rfl ?_ | refine zw_iald rfl (by assumption) (by omega) (by omega) ?_ | refine zw_iast rfl (by omega) (by assumption) (by omega) (by omega) ?_ | refine zw_putI rfl (by assumption) ?_ | refine zw_lald rfl (by assumption) (by omega) (by omega) ?_ | refine zw_last rfl (by assumption) (by omega) (by omega) ?_ | refine zw_iadd rfl (by omega) (by omega) ?_ | refine zw_isub rfl (by omega) (by omega) ?_ | refine zw_iinc rfl rfl rfl (by omega) (by omega) ?_)
  refine zw_callv rfl rfl rfl rfl rfl rfl (by assumption) ?_
  refine c_copy hu0 hr0 (by omega) ?_
  rw [hrc, hrr, hw]
  repeat (first | refine zw_t rfl rfl ?_ | refine zw_jump rfl rfl ?_ | refine zw_getI rfl rfl (by assumption) ?_ | refine zw_ialn rfl (by assumption) (by omega) ?_ | refine zw_laln rfl (by assumption) (by omega) ?_ | refine zw_iastn rfl (by omega) (by assumption) (by omega) ?_ | refine zw_lastn rfl (by assumption) (by omega) ?_ | refine zw_iald0 rfl (by assumption) (by omega) ?_ | refine zw_lald0 rfl (by assumption) (by omega) ?_ | refine zw_aaln rfl (by assumption) rfl (by omega) ?_ | refine zw_getR rfl (by assumption) (by assumption) ?_ | refine zw_alen rfl (by assumption) rfl ?_ | refine zw_iald rfl (by assumption) (by omega) (by omega) ?_ | refine zw_iast rfl (by omega) (by assumption) (by omega) (by omega) ?_ | refine zw_putI rfl (by assumption) ?_ | refine zw_lald rfl (by assumption) (by omega) (by omega) ?_ | refine zw_last rfl (by assumption) (by omega) (by omega) ?_ | refine zw_iadd rfl (by omega) (by omega) ?_ | refine zw_isub rfl (by omega) (by omega) ?_ | refine zw_iinc rfl rfl rfl (by omega) (by omega) ?_)
  rw [z_u2_na _ _ _ _ (show r ≠ f + 3 by omega), z_u2_na _ _ _ _ (show r ≠ f + 3 by omega), hrr]
  refine zw_callv rfl rfl rfl rfl rfl rfl (by assumption) ?_
  refine c_findUnits hf0 ?_ he (fun u n hn hU => ?_)
  · obtain ⟨n0, i1, i2, i3⟩ := hi
    refine ⟨n0, ?_, i2, fun e he => ?_⟩
    · rw [z_u2_na _ _ _ _ (by omega), z_u2_na _ _ _ _ (by omega)]; exact i1
    · rw [z_u2_na _ _ _ _ (by omega), z_u2_na _ _ _ _ (by omega)] at he
      rw [z_up_ne _ _ (by omega)]
      exact i3 e he
  have loop : ∀ (m i : Nat) (F' I' : Nat → Nat → Int), m + i = n → ZFoK f F I F' I' → F' f 3 = (n : Int) → F' f 4 = (e : Int) → I' (f + 5) = u → F' (f + 3) 1 = (c : Int) → F' (f + 3) 2 = (e : Int) → (∀ j a : Nat, j < i → u j = (a : Int) → ∀ h, ZCan w c e a h → z_bef h (I' (f + 4)) (c - 1) 1 = false) → (∃ a : Nat, 1 ≤ a ∧ a < e ∧ Nat.gcd a e = 1 ∧ ZCan w c e a (I' (f + 4))) → ZW (d + 3) 18 64 [some (.inr (.inr (some f))), some (.inr (.inr (some r))), some (.inl (i : Int))] [] (k, F', I', L, R) Q := by
    intro m
    induction m with
    | zero =>
      intro i F' I' hm fk f3 f4 f5 f6 f7 p1 p2
      have K := K F' I' fk ⟨n, f3, hn, fun e' he' h2' => by
        have : e' = e := by omega
        rw [this, f5]; exact hU⟩ f6 f7 ⟨fun a a1 a2 a3 h hh => by
          obtain ⟨j, hj, ej⟩ := hU.2 a a1 a2 a3
          exact p1 j a (by omega) ej h hh, p2⟩
      repeat (first | refine zw_t rfl rfl ?_ | refine zw_jump rfl rfl ?_ | refine zw_getI rfl rfl (by assumption) ?_ | refine zw_ialn rfl (by assumption) (by omega) ?_ | refine zw_laln rfl (by assumption) (by omega) ?_ | refine zw_iastn rfl (by omega) (by assumption) (by omega) ?_ | refine zw_lastn rfl (by assumption) (by omega) ?_ | refine zw_iald0 rfl (by assumption) (by omega) ?_ | refine zw_lald0 rfl (by assumption) (by omega) ?_ | refine zw_aaln rfl (by assumption) rfl (by omega) ?_ | refine zw_getR rfl (by assumption) (by assumption) ?_ | refine zw_alen rfl (by assumption) rfl ?_ | refine zw_iald rfl (by assumption) (by omega) (by omega) ?_ | refine zw_iast rfl (by omega) (by assumption) (by omega) (by omega) ?_ | refine zw_putI rfl (by assumption) ?_ | refine zw_lald rfl (by assumption) (by omega) (by omega) ?_ | refine zw_last rfl (by assumption) (by omega) (by omega) ?_ | refine zw_iadd rfl (by omega) (by omega) ?_ | refine zw_isub rfl (by omega) (by omega) ?_ | refine zw_iinc rfl rfl rfl (by omega) (by omega) ?_)
      refine zw_icmp_ge_t rfl (by omega) ?_
      repeat (first | refine zw_t rfl rfl ?_ | refine zw_jump rfl rfl ?_ | refine zw_getI rfl rfl (by assumption) ?_ | refine zw_ialn rfl (by assumption) (by omega) ?_ | refine zw_laln rfl (by assumption) (by omega) ?_ | refine zw_iastn rfl (by omega) (by assumption) (by omega) ?_ | refine zw_lastn rfl (by assumption) (by omega) ?_ | refine zw_iald0 rfl (by assumption) (by omega) ?_ | refine zw_lald0 rfl (by assumption) (by omega) ?_ | refine zw_aaln rfl (by assumption) rfl (by omega) ?_ | refine zw_getR rfl (by assumption) (by assumption) ?_ | refine zw_alen rfl (by assumption) rfl ?_ | refine zw_iald rfl (by assumption) (by omega) (by omega) ?_ | refine zw_iast rfl (by omega) (by assumption) (by omega) (by omega) ?_ | refine zw_putI rfl (by assumption) ?_ | refine zw_lald rfl (by assumption) (by omega) (by omega) ?_ | refine zw_last rfl (by assumption) (by omega) (by omega) ?_ | refine zw_iadd rfl (by omega) (by omega) ?_ | refine zw_isub rfl (by omega) (by omega) ?_ | refine zw_iinc rfl rfl rfl (by omega) (by omega) ?_)
      exact zw_aret rfl K
    | succ m ih =>
      intro i F' I' hm fk f3 f4 f5 f6 f7 p1 p2
      obtain ⟨a, ea, a1, a2, a3⟩ := hU.1 i (by omega)
      repeat (first | refine zw_t rfl rfl ?_ | refine zw_jump rfl rfl ?_ | refine zw_getI rfl rfl (by assumption) ?_ | refine zw_ialn rfl (by assumption) (by omega) ?_ | refine zw_laln rfl (by assumption) (by omega) ?_ | refine zw_iastn rfl (by omega) (by assumption) (by omega) ?_ | refine zw_lastn rfl (by assumption) (by omega) ?_ | refine zw_iald0 rfl (by assumption) (by omega) ?_ | refine zw_lald0 rfl (by assumption) (by omega) ?_ | refine zw_aaln rfl (by assumption) rfl (by omega) ?_ | refine zw_getR rfl (by assumption) (by assumption) ?_ | refine zw_alen rfl (by assumption) rfl ?_ | refine zw_iald rfl (by assumption) (by omega) (by omega) ?_ | refine zw_iast rfl (by omega) (by assumption) (by omega) (by omega) ?_ | refine zw_putI rfl (by assumption) ?_ | refine zw_lald rfl (by assumption) (by omega) (by omega) ?_ | refine zw_last rfl (by assumption) (by omega) (by omega) ?_ | refine zw_iadd rfl (by omega) (by omega) ?_ | refine zw_isub rfl (by omega) (by omega) ?_ | refine zw_iinc rfl rfl rfl (by omega) (by omega) ?_)
      refine zw_icmp_ge_f rfl (by omega) ?_
      repeat (first | refine zw_t rfl rfl ?_ | refine zw_jump rfl rfl ?_ | refine zw_getI rfl rfl (by assumption) ?_ | refine zw_ialn rfl (by assumption) (by omega) ?_ | refine zw_laln rfl (by assumption) (by omega) ?_ | refine zw_iastn rfl (by omega) (by assumption) (by omega) ?_ | refine zw_lastn rfl (by assumption) (by omega) ?_ | refine zw_iald0 rfl (by assumption) (by omega) ?_ | refine zw_lald0 rfl (by assumption) (by omega) ?_ | refine zw_aaln rfl (by assumption) rfl (by omega) ?_ | refine zw_getR rfl (by assumption) (by assumption) ?_ | refine zw_alen rfl (by assumption) rfl ?_ | refine zw_iald rfl (by assumption) (by omega) (by omega) ?_ | refine zw_iast rfl (by omega) (by assumption) (by omega) (by omega) ?_ | refine zw_putI rfl (by assumption) ?_ | refine zw_lald rfl (by assumption) (by omega) (by omega) ?_ | refine zw_last rfl (by assumption) (by omega) (by omega) ?_ | refine zw_iadd rfl (by omega) (by omega) ?_ | refine zw_isub rfl (by omega) (by omega) ?_ | refine zw_iinc rfl rfl rfl (by omega) (by omega) ?_)
      refine zw_icmp_ge_f rfl (by omega) ?_
      repeat (first | refine zw_t rfl rfl ?_ | refine zw_jump rfl rfl ?_ | refine zw_getI rfl rfl (by assumption) ?_ | refine zw_ialn rfl (by assumption) (by omega) ?_ | refine zw_laln rfl (by assumption) (by omega) ?_ | refine zw_iastn rfl (by omega) (by assumption) (by omega) ?_ | refine zw_lastn rfl (by assumption) (by omega) ?_ | refine zw_iald0 rfl (by assumption) (by omega) ?_ | refine zw_lald0 rfl (by assumption) (by omega) ?_ | refine zw_aaln rfl (by assumption) rfl (by omega) ?_ | refine zw_getR rfl (by assumption) (by assumption) ?_ | refine zw_alen rfl (by assumption) rfl ?_ | refine zw_iald rfl (by assumption) (by omega) (by omega) ?_ | refine zw_iast rfl (by omega) (by assumption) (by omega) (by omega) ?_ | refine zw_putI rfl (by assumption) ?_ | refine zw_lald rfl (by assumption) (by omega) (by omega) ?_ | refine zw_last rfl (by assumption) (by omega) (by omega) ?_ | refine zw_iadd rfl (by omega) (by omega) ?_ | refine zw_isub rfl (by omega) (by omega) ?_ | refine zw_iinc rfl rfl rfl (by omega) (by omega) ?_)
      rw [f5, ea]
      obtain ⟨a0, b1, b2, b3, b4⟩ := p2
      have bw := b4.win (by omega)
      refine zw_callv rfl rfl rfl rfl rfl rfl (by assumption) ?_
      refine c_lowerBy hf0 hr0 hrf hc1 hc2 (by omega) a2 a3 (by rw [fk.1 r (by omega) (by omega) (by omega)]; exact hrc) (by rw [fk.1 r (by omega) (by omega) (by omega)]; exact hrr) (by rw [fk.2 (r + 1) (by omega) (by omega) (by omega)]; exact hw) hwr hww f6 f7 rfl (fun j hj => by have := bw j hj; omega) (fun im g' b hlow => ?_)
      repeat (first | refine zw_t rfl rfl ?_ | refine zw_jump rfl rfl ?_ | refine zw_getI rfl rfl (by assumption) ?_ | refine zw_ialn rfl (by assumption) (by omega) ?_ | refine zw_laln rfl (by assumption) (by omega) ?_ | refine zw_iastn rfl (by omega) (by assumption) (by omega) ?_ | refine zw_lastn rfl (by assumption) (by omega) ?_ | refine zw_iald0 rfl (by assumption) (by omega) ?_ | refine zw_lald0 rfl (by assumption) (by omega) ?_ | refine zw_aaln rfl (by assumption) rfl (by omega) ?_ | refine zw_getR rfl (by assumption) (by assumption) ?_ | refine zw_alen rfl (by assumption) rfl ?_ | refine zw_iald rfl (by assumption) (by omega) (by omega) ?_ | refine zw_iast rfl (by omega) (by assumption) (by omega) (by omega) ?_ | refine zw_putI rfl (by assumption) ?_ | refine zw_lald rfl (by assumption) (by omega) (by omega) ?_ | refine zw_last rfl (by assumption) (by omega) (by omega) ?_ | refine zw_iadd rfl (by omega) (by omega) ?_ | refine zw_isub rfl (by omega) (by omega) ?_ | refine zw_iinc rfl rfl rfl (by omega) (by omega) ?_)
      refine zw_goto rfl ?_
      refine ih (i + 1) _ _ (by omega) ⟨fun x x1 x2 x3 => ?_, fun x x1 x2 x3 => ?_⟩ ?_ ?_ ?_ ?_ ?_ ?_ ?_
      · rw [← fk.1 x x1 x2 x3]
        funext y
        rw [z_u2_na _ _ _ _ (by omega), z_u2_na _ _ _ _ (by omega)]
      · rw [z_up_ne _ _ (by omega), z_up_ne _ _ (by omega)]
        exact fk.2 x x1 x2 x3
      · rw [z_u2_na _ _ _ _ (by omega), z_u2_na _ _ _ _ (by omega)]; exact f3
      · rw [z_u2_na _ _ _ _ (by omega), z_u2_na _ _ _ _ (by omega)]; exact f4
      · rw [z_up_ne _ _ (by omega), z_up_ne _ _ (by omega)]; exact f5
      · rw [z_u2_na _ _ _ _ (by omega), z_u2_na _ _ _ _ (by omega)]; exact f6
      · rw [z_u2_na _ _ _ _ (by omega), z_u2_na _ _ _ _ (by omega)]; exact f7
      · rw [z_up_same]
        intro j a' hj ej h hh
        by_cases hji : j = i
        · subst hji
          obtain rfl : a' = a := by omega
          exact hlow.1 h hh
        · have p := p1 j a' (by omega) ej h hh
          rcases hlow.2 with ⟨_, q⟩ | ⟨_, q, _⟩
          · rw [q]; exact p
          · cases hx : z_bef h g' (c - 1) 1 with
            | false => rfl
            | true => rw [z_bef_trans _ _ hx q] at p; exact p
      · rw [z_up_same]
        rcases hlow.2 with ⟨_, q⟩ | ⟨_, _, q⟩
        · rw [q]; exact ⟨a0, b1, b2, b3, b4⟩
        · exact ⟨a, a1, a2, a3, q⟩
  repeat (refine zw_ne 64 rfl ?_; first | refine zw_t rfl rfl ?_ | refine zw_jump rfl rfl ?_ | refine zw_getI rfl rfl (by assumption) ?_ | refine zw_ialn rfl (by assumption) (by omega) ?_ | refine zw_laln rfl (by assumption) (by omega) ?_ | refine zw_iastn rfl (by omega) (by assumption) (by omega) ?_ | refine zw_lastn rfl (by assumption) (by omega) ?_ | refine zw_iald0 rfl (by assumption) (by omega) ?_ | refine zw_lald0 rfl (by assumption) (by omega) ?_ | refine zw_aaln rfl (by assumption) rfl (by omega) ?_ | refine zw_getR rfl (by assumption) (by assumption) ?_ | refine zw_alen rfl (by assumption) rfl ?_ | refine zw_iald rfl (by assumption) (by omega) (by omega) ?_ | refine zw_iast rfl (by omega) (by assumption) (by omega) (by omega) ?_ | refine zw_putI rfl (by assumption) ?_ | refine zw_lald rfl (by assumption) (by omega) (by omega) ?_ | refine zw_last rfl (by assumption) (by omega) (by omega) ?_ | refine zw_iadd rfl (by omega) (by omega) ?_ | refine zw_isub rfl (by omega) (by omega) ?_ | refine zw_iinc rfl rfl rfl (by omega) (by omega) ?_)
  refine loop n 0 _ _ (by omega) ⟨fun x x1 x2 x3 => ?_, fun x x1 x2 x3 => ?_⟩ ?_ ?_ ?_ ?_ ?_ (fun j a hj => by omega) ⟨1, by omega, by omega, Nat.gcd_one_left _, ?_⟩
  · funext y
    rw [z_u2_na _ _ _ _ x1, z_u2_na _ _ _ _ x1, z_u2_na _ _ _ _ x3, z_u2_na _ _ _ _ x3]
  · rw [z_up_ne _ _ x3, z_up_ne _ _ x2]
  · rw [z_u2_nk _ _ _ _ (by omega), z_u2_same]
  · rw [z_u2_same]
  · rw [z_up_same]
  · rw [z_u2_na _ _ _ _ (by omega), z_u2_na _ _ _ _ (by omega), z_u2_nk _ _ _ _ (by omega), z_u2_same]
  · rw [z_u2_na _ _ _ _ (by omega), z_u2_na _ _ _ _ (by omega), z_u2_same]
  · rw [z_up_ne _ _ (by omega), z_up_same]
    refine z_can_self hc1 he.1 hwr hww h00 (fun j hj => ?_)
    unfold z_cpf
    rw [if_pos (by omega)]
theorem c_isOwnRingForm {w : Nat → Int} {e : Nat} (hf : ZFo k f) (hi : ZFoI F I f) (hr : ZRu k r) (hrf : r + 1 < f ∨ f + 5 < r) (hc1 : 0 < c) (hc2 : c ≤ 24) (he : 2 ≤ e ∧ e ≤ 400) (hrc : F r 1 = (c : Int)) (hrr : F r 2 = (e : Int)) (hw : I (r + 1) = w) (hwr : ZRise w c) (hww : ZWin w c e)
    (K : ∀ (F' I' : Nat → Nat → Int) (b : Int), ZFoK f F I F' I' → ZFoI F' I' f → ((b = 1 ∧ ∀ a : Nat, 1 ≤ a → a < e → Nat.gcd a e = 1 → ∀ h, ZCan w c e a h → z_bef h w (c - 1) 1 = false) ∨ (b = 0 ∧ ∃ a : Nat, 1 ≤ a ∧ a < e ∧ Nat.gcd a e = 1 ∧ ∃ h, ZCan w c e a h ∧ z_bef h w (c - 1) 1 = true)) → Q (some (.inl b)) (k, F', I', L, R)) : ZC (d + 4) 19 [.inr (.inr (some f)), .inr (.inr (some r))] (k, F, I, L, R) Q := by
  have hf0 := hf
  have hr0 := hr
  obtain ⟨h1, h2, h3, h4, h5, hi0, hu0, h2f⟩ := hf
  obtain ⟨r1, r2, r3, r4⟩ := hr
  have hu := hu0
  obtain ⟨u1, u2, u3, u4⟩ := hu
  refine ze_Forms_isOwnRingForm ?_
  repeat (first | refine zw_t rfl rfl ?_ | refine zw_jump rfl rfl ?_ | refine zw_getI rfl rfl (by assumption) ?_ | refine zw_ialn rfl (by assumption) (by omega) ?_ | refine zw_laln rfl (by assumption) (by omega) ?_ | refine zw_iastn rfl (by omega) (by assumption) (by omega) ?_ | refine zw_lastn rfl (by assumption) (by omega) ?_ | refine zw_iald0 rfl (by assumption) (by omega) ?_ | refine zw_lald0 rfl (by assumption) (by omega) ?_ | refine zw_aaln rfl (by assumption) rfl (by omega) ?_ | refine zw_getR rfl (by assumption) (by assumption) ?_ | refine zw_alen rfl (by assumption) rfl ?_ | refine zw_iald rfl (by assumption) (by omega) (by omega) ?_ | refine zw_iast rfl (by omega) (by assumption) (by omega) (by omega) ?_ | refine zw_putI rfl (by assumption) ?_ | refine zw_lald rfl (by assumption) (by omega) (by omega) ?_ | refine zw_last rfl (by assumption) (by omega) (by omega) ?_ | refine zw_iadd rfl (by omega) (by omega) ?_ | refine zw_isub rfl (by omega) (by omega) ?_ | refine zw_iinc rfl rfl rfl (by omega) (by omega) ?_)
  refine zw_callv rfl rfl rfl rfl rfl rfl (by assumption) ?_
  refine c_copy hu0 hr0 (by omega) ?_
  rw [hrc, hrr, hw]
  repeat (first | refine zw_t rfl rfl ?_ | refine zw_jump rfl rfl ?_ | refine zw_getI rfl rfl (by assumption) ?_ | refine zw_ialn rfl (by assumption) (by omega) ?_ | refine zw_laln rfl (by assumption) (by omega) ?_ | refine zw_iastn rfl (by omega) (by assumption) (by omega) ?_ | refine zw_lastn rfl (by assumption) (by omega) ?_ | refine zw_iald0 rfl (by assumption) (by omega) ?_ | refine zw_lald0 rfl (by assumption) (by omega) ?_ | refine zw_aaln rfl (by assumption) rfl (by omega) ?_ | refine zw_getR rfl (by assumption) (by assumption) ?_ | refine zw_alen rfl (by assumption) rfl ?_ | refine zw_iald rfl (by assumption) (by omega) (by omega) ?_ | refine zw_iast rfl (by omega) (by assumption) (by omega) (by omega) ?_ | refine zw_putI rfl (by assumption) ?_ | refine zw_lald rfl (by assumption) (by omega) (by omega) ?_ | refine zw_last rfl (by assumption) (by omega) (by omega) ?_ | refine zw_iadd rfl (by omega) (by omega) ?_ | refine zw_isub rfl (by omega) (by omega) ?_ | refine zw_iinc rfl rfl rfl (by omega) (by omega) ?_)
  rw [z_u2_na _ _ _ _ (show r ≠ f + 3 by omega), z_u2_na _ _ _ _ (show r ≠ f + 3 by omega), hrr]
  refine zw_callv rfl rfl rfl rfl rfl rfl (by assumption) ?_
  refine c_findUnits hf0 ?_ he (fun u n hn hU => ?_)
  · obtain ⟨n0, i1, i2, i3⟩ := hi
    refine ⟨n0, ?_, i2, fun e he => ?_⟩
    · rw [z_u2_na _ _ _ _ (by omega), z_u2_na _ _ _ _ (by omega)]; exact i1
    · rw [z_u2_na _ _ _ _ (by omega), z_u2_na _ _ _ _ (by omega)] at he
      rw [z_up_ne _ _ (by omega)]
      exact i3 e he
  have loop : ∀ (m i : Nat) (F' I' : Nat → Nat → Int), m + i = n → ZFoK f F I F' I' → F' f 3 = (n : Int) → F' f 4 = (e : Int) → I' (f + 5) = u → F' (f + 3) 1 = (c : Int) → F' (f + 3) 2 = (e : Int) → (∀ j a : Nat, j < i → u j = (a : Int) → ∀ h, ZCan w c e a h → z_bef h w (c - 1) 1 = false) → ZAgr (I' (f + 4)) w c → ZW (d + 3) 19 18 [some (.inr (.inr (some f))), some (.inr (.inr (some r))), some (.inl (i : Int))] [] (k, F', I', L, R) Q := by
    intro m
    induction m with
    | zero =>
      intro i F' I' hm fk f3 f4 f5 f6 f7 p1 p2
      have K := K F' I' 1 fk ⟨n, f3, hn, fun e' he' h2' => by
        have : e' = e := by omega
        rw [this, f5]; exact hU⟩ (Or.inl ⟨rfl, fun a a1 a2 a3 h hh => by
          obtain ⟨j, hj, ej⟩ := hU.2 a a1 a2 a3
          exact p1 j a (by omega) ej h hh⟩)
      repeat (first | refine zw_t rfl rfl ?_ | refine zw_jump rfl rfl ?_ | refine zw_getI rfl rfl (by assumption) ?_ | refine zw_ialn rfl (by assumption) (by omega) ?_ | refine zw_laln rfl (by assumption) (by omega) ?_ | refine zw_iastn rfl (by omega) (by assumption) (by omega) ?_ | refine zw_lastn rfl (by assumption) (by omega) ?_ | refine zw_iald0 rfl (by assumption) (by omega) ?_ | refine zw_lald0 rfl (by assumption) (by omega) ?_ | refine zw_aaln rfl (by assumption) rfl (by omega) ?_ | refine zw_getR rfl (by assumption) (by assumption) ?_ | refine zw_alen rfl (by assumption) rfl ?_ | refine zw_iald rfl (by assumption) (by omega) (by omega) ?_ | refine zw_iast rfl (by omega) (by assumption) (by omega) (by omega) ?_ | refine zw_putI rfl (by assumption) ?_ | refine zw_lald rfl (by assumption) (by omega) (by omega) ?_ | refine zw_last rfl (by assumption) (by omega) (by omega) ?_ | refine zw_iadd rfl (by omega) (by omega) ?_ | refine zw_isub rfl (by omega) (by omega) ?_ | refine zw_iinc rfl rfl rfl (by omega) (by omega) ?_)
      refine zw_icmp_ge_t rfl (by omega) ?_
      repeat (first | refine zw_t rfl rfl ?_ | refine zw_jump rfl rfl ?_ | refine zw_getI rfl rfl (by assumption) ?_ | refine zw_ialn rfl (by assumption) (by omega) ?_ | refine zw_laln rfl (by assumption) (by omega) ?_ | refine zw_iastn rfl (by omega) (by assumption) (by omega) ?_ | refine zw_lastn rfl (by assumption) (by omega) ?_ | refine zw_iald0 rfl (by assumption) (by omega) ?_ | refine zw_lald0 rfl (by assumption) (by omega) ?_ | refine zw_aaln rfl (by assumption) rfl (by omega) ?_ | refine zw_getR rfl (by assumption) (by assumption) ?_ | refine zw_alen rfl (by assumption) rfl ?_ | refine zw_iald rfl (by assumption) (by omega) (by omega) ?_ | refine zw_iast rfl (by omega) (by assumption) (by omega) (by omega) ?_ | refine zw_putI rfl (by assumption) ?_ | refine zw_lald rfl (by assumption) (by omega) (by omega) ?_ | refine zw_last rfl (by assumption) (by omega) (by omega) ?_ | refine zw_iadd rfl (by omega) (by omega) ?_ | refine zw_isub rfl (by omega) (by omega) ?_ | refine zw_iinc rfl rfl rfl (by omega) (by omega) ?_)
      exact zw_zret rfl (Or.inr rfl) K
    | succ m ih =>
      intro i F' I' hm fk f3 f4 f5 f6 f7 p1 p2
      obtain ⟨a, ea, a1, a2, a3⟩ := hU.1 i (by omega)
      repeat (first | refine zw_t rfl rfl ?_ | refine zw_jump rfl rfl ?_ | refine zw_getI rfl rfl (by assumption) ?_ | refine zw_ialn rfl (by assumption) (by omega) ?_ | refine zw_laln rfl (by assumption) (by omega) ?_ | refine zw_iastn rfl (by omega) (by assumption) (by omega) ?_ | refine zw_lastn rfl (by assumption) (by omega) ?_ | refine zw_iald0 rfl (by assumption) (by omega) ?_ | refine zw_lald0 rfl (by assumption) (by omega) ?_ | refine zw_aaln rfl (by assumption) rfl (by omega) ?_ | refine zw_getR rfl (by assumption) (by assumption) ?_ | refine zw_alen rfl (by assumption) rfl ?_ | refine zw_iald rfl (by assumption) (by omega) (by omega) ?_ | refine zw_iast rfl (by omega) (by assumption) (by omega) (by omega) ?_ | refine zw_putI rfl (by assumption) ?_ | refine zw_lald rfl (by assumption) (by omega) (by omega) ?_ | refine zw_last rfl (by assumption) (by omega) (by omega) ?_ | refine zw_iadd rfl (by omega) (by omega) ?_ | refine zw_isub rfl (by omega) (by omega) ?_ | refine zw_iinc rfl rfl rfl (by omega) (by omega) ?_)
      refine zw_icmp_ge_f rfl (by omega) ?_
      repeat (first | refine zw_t rfl rfl ?_ | refine zw_jump rfl rfl ?_ | refine zw_getI rfl rfl (by assumption) ?_ | refine zw_ialn rfl (by assumption) (by omega) ?_ | refine zw_laln rfl (by assumption) (by omega) ?_ | refine zw_iastn rfl (by omega) (by assumption) (by omega) ?_ | refine zw_lastn rfl (by assumption) (by omega) ?_ | refine zw_iald0 rfl (by assumption) (by omega) ?_ | refine zw_lald0 rfl (by assumption) (by omega) ?_ | refine zw_aaln rfl (by assumption) rfl (by omega) ?_ | refine zw_getR rfl (by assumption) (by assumption) ?_ | refine zw_alen rfl (by assumption) rfl ?_ | refine zw_iald rfl (by assumption) (by omega) (by omega) ?_ | refine zw_iast rfl (by omega) (by assumption) (by omega) (by omega) ?_ | refine zw_putI rfl (by assumption) ?_ | refine zw_lald rfl (by assumption) (by omega) (by omega) ?_ | refine zw_last rfl (by assumption) (by omega) (by omega) ?_ | refine zw_iadd rfl (by omega) (by omega) ?_ | refine zw_isub rfl (by omega) (by omega) ?_ | refine zw_iinc rfl rfl rfl (by omega) (by omega) ?_)
      refine zw_icmp_ge_f rfl (by omega) ?_
      repeat (first | refine zw_t rfl rfl ?_ | refine zw_jump rfl rfl ?_ | refine zw_getI rfl rfl (by assumption) ?_ | refine zw_ialn rfl (by assumption) (by omega) ?_ | refine zw_laln rfl (by assumption) (by omega) ?_ | refine zw_iastn rfl (by omega) (by assumption) (by omega) ?_ | refine zw_lastn rfl (by assumption) (by omega) ?_ | refine zw_iald0 rfl (by assumption) (by omega) ?_ | refine zw_lald0 rfl (by assumption) (by omega) ?_ | refine zw_aaln rfl (by assumption) rfl (by omega) ?_ | refine zw_getR rfl (by assumption) (by assumption) ?_ | refine zw_alen rfl (by assumption) rfl ?_ | refine zw_iald rfl (by assumption) (by omega) (by omega) ?_ | refine zw_iast rfl (by omega) (by assumption) (by omega) (by omega) ?_ | refine zw_putI rfl (by assumption) ?_ | refine zw_lald rfl (by assumption) (by omega) (by omega) ?_ | refine zw_last rfl (by assumption) (by omega) (by omega) ?_ | refine zw_iadd rfl (by omega) (by omega) ?_ | refine zw_isub rfl (by omega) (by omega) ?_ | refine zw_iinc rfl rfl rfl (by omega) (by omega) ?_)
      rw [f5, ea]
      refine zw_callv rfl rfl rfl rfl rfl rfl (by assumption) ?_
      refine c_lowerBy hf0 hr0 hrf hc1 hc2 (by omega) a2 a3 (by rw [fk.1 r (by omega) (by omega) (by omega)]; exact hrc) (by rw [fk.1 r (by omega) (by omega) (by omega)]; exact hrr) (by rw [fk.2 (r + 1) (by omega) (by omega) (by omega)]; exact hw) hwr hww f6 f7 rfl (fun j hj => by have := hww j hj; rw [p2 j hj]; omega) (fun im g' b hlow => ?_)
      have fk' : ZFoK f F I (z_u2 (z_u2 F' (f + 1) 1 (c : Int)) (f + 1) 2 (e : Int)) (z_up (z_up I' (f + 2) im) (f + 4) g') := by
        refine ⟨fun x x1 x2 x3 => ?_, fun x x1 x2 x3 => ?_⟩
        · rw [← fk.1 x x1 x2 x3]
          funext y
          rw [z_u2_na _ _ _ _ (by omega), z_u2_na _ _ _ _ (by omega)]
        · rw [z_up_ne _ _ (by omega), z_up_ne _ _ (by omega)]
          exact fk.2 x x1 x2 x3
      have t3 : z_u2 (z_u2 F' (f + 1) 1 (c : Int)) (f + 1) 2 (e : Int) f 3 = (n : Int) := by
        rw [z_u2_na _ _ _ _ (by omega), z_u2_na _ _ _ _ (by omega)]; exact f3
      have t4 : z_u2 (z_u2 F' (f + 1) 1 (c : Int)) (f + 1) 2 (e : Int) f 4 = (e : Int) := by
        rw [z_u2_na _ _ _ _ (by omega), z_u2_na _ _ _ _ (by omega)]; exact f4
      have t5 : z_up (z_up I' (f + 2) im) (f + 4) g' (f + 5) = u := by
        rw [z_up_ne _ _ (by omega), z_up_ne _ _ (by omega)]; exact f5
      rcases hlow.2 with ⟨e0, q⟩ | ⟨e0, q1, q2⟩
      · subst e0
        refine zw_if_eq_t rfl rfl ?_
        repeat (first | refine zw_t rfl rfl ?_ | refine zw_jump rfl rfl ?_ | refine zw_getI rfl rfl (by assumption) ?_ | refine zw_ialn rfl (by assumption) (by omega) ?_ | refine zw_laln rfl (by assumption) (by omega) ?_ | refine zw_iastn rfl (by omega) (by assumption) (by omega) ?_ | refine zw_lastn rfl (by assumption) (by omega) ?_ | refine zw_iald0 rfl (by assumption) (by omega) ?_ | refine zw_lald0 rfl (by assumption) (by omega) ?_ | refine zw_aaln rfl (by assumption) rfl (by omega) ?_ | refine zw_getR rfl (by assumption) (by assumption) ?_ | refine zw_alen rfl (by assumption) rfl ?_ | refine zw_iald rfl (by assumption) (by omega) (by omega) ?_ | refine zw_iast rfl (by omega) (by assumption) (by omega) (by omega) ?_ | refine zw_putI rfl (by assumption) ?_ | refine zw_lald rfl (by assumption) (by omega) (by omega) ?_ | refine zw_last rfl (by assumption) (by omega) (by omega) ?_ | refine zw_iadd rfl (by omega) (by omega) ?_ | refine zw_isub rfl (by omega) (by omega) ?_ | refine zw_iinc rfl rfl rfl (by omega) (by omega) ?_)
        refine zw_goto rfl ?_
        refine ih (i + 1) _ _ (by omega) fk' t3 t4 t5 ?_ ?_ ?_ ?_
        · rw [z_u2_na _ _ _ _ (by omega), z_u2_na _ _ _ _ (by omega)]; exact f6
        · rw [z_u2_na _ _ _ _ (by omega), z_u2_na _ _ _ _ (by omega)]; exact f7
        · intro j a' hj ej h hh
          by_cases hji : j = i
          · subst hji
            obtain rfl : a' = a := by omega
            rw [← hlow.1 h hh, q]
            exact z_bef_cong _ _ (fun j h1 h2 => rfl) (fun j h1 h2 => (p2 j (by omega)).symm)
          · exact p1 j a' (by omega) ej h hh
        · rw [z_up_same, q]
          exact p2
      · subst e0
        refine zw_if_eq_f rfl (by decide) ?_
        repeat (first | refine zw_t rfl rfl ?_ | refine zw_jump rfl rfl ?_ | refine zw_getI rfl rfl (by assumption) ?_ | refine zw_ialn rfl (by assumption) (by omega) ?_ | refine zw_laln rfl (by assumption) (by omega) ?_ | refine zw_iastn rfl (by omega) (by assumption) (by omega) ?_ | refine zw_lastn rfl (by assumption) (by omega) ?_ | refine zw_iald0 rfl (by assumption) (by omega) ?_ | refine zw_lald0 rfl (by assumption) (by omega) ?_ | refine zw_aaln rfl (by assumption) rfl (by omega) ?_ | refine zw_getR rfl (by assumption) (by assumption) ?_ | refine zw_alen rfl (by assumption) rfl ?_ | refine zw_iald rfl (by assumption) (by omega) (by omega) ?_ | refine zw_iast rfl (by omega) (by assumption) (by omega) (by omega) ?_ | refine zw_putI rfl (by assumption) ?_ | refine zw_lald rfl (by assumption) (by omega) (by omega) ?_ | refine zw_last rfl (by assumption) (by omega) (by omega) ?_ | refine zw_iadd rfl (by omega) (by omega) ?_ | refine zw_isub rfl (by omega) (by omega) ?_ | refine zw_iinc rfl rfl rfl (by omega) (by omega) ?_)
        refine zw_zret rfl (Or.inl rfl) (K _ _ 0 fk' ⟨n, t3, hn, fun e' he' h2' => ?_⟩ (Or.inr ⟨rfl, a, a1, a2, a3, g', q2, ?_⟩))
        · have : e' = e := by omega
          rw [this, t5]; exact hU
        · rw [← q1]
          exact z_bef_cong _ _ (fun j h1 h2 => rfl) (fun j h1 h2 => (p2 j (by omega)).symm)
  repeat (refine zw_ne 18 rfl ?_; first | refine zw_t rfl rfl ?_ | refine zw_jump rfl rfl ?_ | refine zw_getI rfl rfl (by assumption) ?_ | refine zw_ialn rfl (by assumption) (by omega) ?_ | refine zw_laln rfl (by assumption) (by omega) ?_ | refine zw_iastn rfl (by omega) (by assumption) (by omega) ?_ | refine zw_lastn rfl (by assumption) (by omega) ?_ | refine zw_iald0 rfl (by assumption) (by omega) ?_ | refine zw_lald0 rfl (by assumption) (by omega) ?_ | refine zw_aaln rfl (by assumption) rfl (by omega) ?_ | refine zw_getR rfl (by assumption) (by assumption) ?_ | refine zw_alen rfl (by assumption) rfl ?_ | refine zw_iald rfl (by assumption) (by omega) (by omega) ?_ | refine zw_iast rfl (by omega) (by assumption) (by omega) (by omega) ?_ | refine zw_putI rfl (by assumption) ?_ | refine zw_lald rfl (by assumption) (by omega) (by omega) ?_ | refine zw_last rfl (by assumption) (by omega) (by omega) ?_ | refine zw_iadd rfl (by omega) (by omega) ?_ | refine zw_isub rfl (by omega) (by omega) ?_ | refine zw_iinc rfl rfl rfl (by omega) (by omega) ?_)
  refine loop n 0 _ _ (by omega) ⟨fun x x1 x2 x3 => ?_, fun x x1 x2 x3 => ?_⟩ ?_ ?_ ?_ ?_ ?_ (fun j a hj => by omega) ?_
  · funext y
    rw [z_u2_na _ _ _ _ x1, z_u2_na _ _ _ _ x1, z_u2_na _ _ _ _ x3, z_u2_na _ _ _ _ x3]
  · rw [z_up_ne _ _ x3, z_up_ne _ _ x2]
  · rw [z_u2_nk _ _ _ _ (by omega), z_u2_same]
  · rw [z_u2_same]
  · rw [z_up_same]
  · rw [z_u2_na _ _ _ _ (by omega), z_u2_na _ _ _ _ (by omega), z_u2_nk _ _ _ _ (by omega), z_u2_same]
  · rw [z_u2_na _ _ _ _ (by omega), z_u2_na _ _ _ _ (by omega), z_u2_same]
  · rw [z_up_ne _ _ (by omega), z_up_same]
    intro j hj
    unfold z_cpf
    rw [if_pos (by omega)]
/-- a ruler turned -/
def z_trn (w : Nat → Int) (c : Nat) (j : Nat) : Int := w (c - 1) - w (c - 1 - j)
/-- the form of a ruler -/
def z_frm (w : Nat → Int) (c : Nat) : Nat → Int := if z_bef (z_trn w c) w c 0 = true then z_trn w c else w
theorem z_trn_rise {w : Nat → Int} (hw : ZRise w c) : ZRise (z_trn w c) c := by
  intro i j hi hj
  have := hw (c - 1 - j) (c - 1 - i) (by omega) (by omega)
  unfold z_trn
  omega
theorem c_formOf_ruler {w : Nat → Int} (hf : ZFo k f) (hi : ZFoI F I f) (hr : ZRu k r) (hrf : r + 1 < f ∨ f + 5 < r) (hc1 : 0 < c) (hc2 : c ≤ 24) (hrc : F r 1 = (c : Int)) (hrr : F r 2 = 0) (hw : I (r + 1) = w) (hwr : ZRise w c) (hwm : ∀ j, j < c → 0 ≤ w j ∧ w j ≤ 1000)
    (K : ∀ (F' I' : Nat → Nat → Int), ZFoK f F I F' I' → ZFoI F' I' f → F' (f + 3) 1 = (c : Int) → F' (f + 3) 2 = 0 → ZAgr (I' (f + 4)) (z_frm w c) c → Q (some (.inr (.inr (some (f + 3))))) (k, F', I', L, R)) : ZC (d + 4) 18 [.inr (.inr (some f)), .inr (.inr (some r))] (k, F, I, L, R) Q := by
  have hf0 := hf
  have hr0 := hr
  obtain ⟨h1, h2, h3, h4, h5, hi0, hu0, h2f⟩ := hf
  obtain ⟨r1, r2, r3, r4⟩ := hr
  have hu := hu0
  obtain ⟨u1, u2, u3, u4⟩ := hu
  have hi1 := hi0
  obtain ⟨j1, j2, j3, j4⟩ := hi1
  refine ze_Forms_formOf ?_
  repeat (first | refine zw_t rfl rfl ?_ | refine zw_jump rfl rfl ?_ | refine zw_getI rfl rfl (by assumption) ?_ | refine zw_ialn rfl (by assumption) (by omega) ?_ | refine zw_laln rfl (by assumption) (by omega) ?_ | refine zw_iastn rfl (by omega) (by assumption) (by omega) ?_ | refine zw_lastn rfl (by assumption) (by omega) ?_ | refine zw_iald0 rfl (by assumption) (by omega) ?_ | refine zw_lald0 rfl (by assumption) (by omega) ?_ | refine zw_aaln rfl (by assumption) rfl (by omega) ?_ | refine zw_getR rfl (by assumption) (by assumption) ?_ | refine zw_alen rfl (by assumption) rfl ?_ | refine zw_iald rfl (by assumption) (by omega) (by omega) ?_ | refine zw_iast rfl (by omega) (by assumption) (by omega) (by omega) ?_ | refine zw_putI rfl (by assumption) ?_ | refine zw_lald rfl (by assumption) (by omega) (by omega) ?_ | refine zw_last rfl (by assumption) (by omega) (by omega) ?_ | refine zw_iadd rfl (by omega) (by omega) ?_ | refine zw_isub rfl (by omega) (by omega) ?_ | refine zw_iinc rfl rfl rfl (by omega) (by omega) ?_)
  refine zw_callv rfl rfl rfl rfl rfl rfl (by assumption) ?_
  refine c_isRing hr0 ?_
  rw [hrr, if_neg (by omega)]
  refine zw_if_ne_f rfl rfl ?_
  repeat (first | refine zw_t rfl rfl ?_ | refine zw_jump rfl rfl ?_ | refine zw_getI rfl rfl (by assumption) ?_ | refine zw_ialn rfl (by assumption) (by omega) ?_ | refine zw_laln rfl (by assumption) (by omega) ?_ | refine zw_iastn rfl (by omega) (by assumption) (by omega) ?_ | refine zw_lastn rfl (by assumption) (by omega) ?_ | refine zw_iald0 rfl (by assumption) (by omega) ?_ | refine zw_lald0 rfl (by assumption) (by omega) ?_ | refine zw_aaln rfl (by assumption) rfl (by omega) ?_ | refine zw_getR rfl (by assumption) (by assumption) ?_ | refine zw_alen rfl (by assumption) rfl ?_ | refine zw_iald rfl (by assumption) (by omega) (by omega) ?_ | refine zw_iast rfl (by omega) (by assumption) (by omega) (by omega) ?_ | refine zw_putI rfl (by assumption) ?_ | refine zw_lald rfl (by assumption) (by omega) (by omega) ?_ | refine zw_last rfl (by assumption) (by omega) (by omega) ?_ | refine zw_iadd rfl (by omega) (by omega) ?_ | refine zw_isub rfl (by omega) (by omega) ?_ | refine zw_iinc rfl rfl rfl (by omega) (by omega) ?_)
  refine zw_callv rfl rfl rfl rfl rfl rfl (by assumption) ?_
  refine c_turnFrom hi0 hr0 (by omega) hrc hc2 hrr (by omega) (fun j hj => by rw [hw]; exact hwm j hj) ?_
  rw [hw]
  have ev : ZAgr (z_bld (fun j => z_tv w c 0 (c - 1 - j)) (I (f + 2)) 0 c) (z_trn w c) c := by
    have e : (fun j => z_tv w c 0 (c - 1 - j)) = z_trn w c := by
      funext j
      unfold z_tv z_trn
      rw [if_neg (by omega)]
    rw [e]
    exact z_bld_rise (z_trn_rise hwr)
  obtain ⟨v, hv⟩ : ∃ v, v = z_bld (fun j => z_tv w c 0 (c - 1 - j)) (I (f + 2)) 0 c := ⟨_, rfl⟩
  rw [← hv] at ev
  rw [show f + 1 + 1 = f + 2 from rfl, ← hv]
  obtain ⟨F1, hF1⟩ : ∃ F1, F1 = z_u2 (z_u2 F (f + 1) 1 (c : Int)) (f + 1) 2 0 := ⟨_, rfl⟩
  rw [← hF1]
  have q1 : F1 (f + 1) 1 = (c : Int) := by rw [hF1, z_u2_nk _ _ _ _ (by omega), z_u2_same]
  have q2 : F1 (f + 1) 2 = 0 := by rw [hF1, z_u2_same]
  have q3 : F1 r 1 = (c : Int) := by rw [hF1, z_u2_na _ _ _ _ (by omega), z_u2_na _ _ _ _ (by omega)]; exact hrc
  have q4 : F1 r 2 = 0 := by rw [hF1, z_u2_na _ _ _ _ (by omega), z_u2_na _ _ _ _ (by omega)]; exact hrr
  have fin : ∀ g : Nat → Int, ZAgr g (z_frm w c) c → Q (some (.inr (.inr (some (f + 3))))) (k, z_u2 (z_u2 F1 (f + 3) 1 (c : Int)) (f + 3) 2 0, z_up (z_up I (f + 2) v) (f + 4) g, L, R) := by
    intro g hg
    refine K _ _ ⟨fun x x1 x2 x3 => ?_, fun x x1 x2 x3 => ?_⟩ ?_ ?_ ?_ ?_
    · funext y
      rw [z_u2_na _ _ _ _ x3, z_u2_na _ _ _ _ x3, hF1, z_u2_na _ _ _ _ x2, z_u2_na _ _ _ _ x2]
    · rw [z_up_ne _ _ x2, z_up_ne _ _ x1]
    · obtain ⟨n0, i1, i2, i3⟩ := hi
      refine ⟨n0, ?_, i2, fun e he => ?_⟩
      · rw [z_u2_na _ _ _ _ (by omega), z_u2_na _ _ _ _ (by omega), hF1, z_u2_na _ _ _ _ (by omega), z_u2_na _ _ _ _ (by omega)]; exact i1
      · rw [z_u2_na _ _ _ _ (by omega), z_u2_na _ _ _ _ (by omega), hF1, z_u2_na _ _ _ _ (by omega), z_u2_na _ _ _ _ (by omega)] at he
        rw [z_up_ne _ _ (by omega), z_up_ne _ _ (by omega)]
        exact i3 e he
    · rw [z_u2_nk _ _ _ _ (by omega), z_u2_same]
    · rw [z_u2_same]
    · rw [z_up_same]; exact hg
  repeat (first | refine zw_t rfl rfl ?_ | refine zw_jump rfl rfl ?_ | refine zw_getI rfl rfl (by assumption) ?_ | refine zw_ialn rfl (by assumption) (by omega) ?_ | refine zw_laln rfl (by assumption) (by omega) ?_ | refine zw_iastn rfl (by omega) (by assumption) (by omega) ?_ | refine zw_lastn rfl (by assumption) (by omega) ?_ | refine zw_iald0 rfl (by assumption) (by omega) ?_ | refine zw_lald0 rfl (by assumption) (by omega) ?_ | refine zw_aaln rfl (by assumption) rfl (by omega) ?_ | refine zw_getR rfl (by assumption) (by assumption) ?_ | refine zw_alen rfl (by assumption) rfl ?_ | refine zw_iald rfl (by assumption) (by omega) (by omega) ?_ | refine zw_iast rfl (by omega) (by assumption) (by omega) (by omega) ?_ | refine zw_putI rfl (by assumption) ?_ | refine zw_lald rfl (by assumption) (by omega) (by omega) ?_ | refine zw_last rfl (by assumption) (by omega) (by omega) ?_ | refine zw_iadd rfl (by omega) (by omega) ?_ | refine zw_isub rfl (by omega) (by omega) ?_ | refine zw_iinc rfl rfl rfl (by omega) (by omega) ?_)
  refine zw_callv rfl rfl rfl rfl rfl rfl (by assumption) ?_
  refine c_isBefore hi0 hr0 q1 hc2 q3 hc2 ?_
  rw [Nat.min_self]
  have eb : z_bef (z_up I (f + 2) v (f + 1 + 1)) (z_up I (f + 2) v (r + 1)) c 0 = z_bef (z_trn w c) w c 0 := by
    refine z_bef_cong _ _ (fun j a b => ?_) (fun j a b => ?_)
    · rw [z_up_same]; exact ev j (by omega)
    · rw [z_up_ne _ _ (by omega), hw]
  rw [eb]
  cases hx : z_bef (z_trn w c) w c 0 with
  | true =>
    refine zw_if_eq_f rfl (by decide) ?_
    repeat (first | refine zw_t rfl rfl ?_ | refine zw_jump rfl rfl ?_ | refine zw_getI rfl rfl (by assumption) ?_ | refine zw_ialn rfl (by assumption) (by omega) ?_ | refine zw_laln rfl (by assumption) (by omega) ?_ | refine zw_iastn rfl (by omega) (by assumption) (by omega) ?_ | refine zw_lastn rfl (by assumption) (by omega) ?_ | refine zw_iald0 rfl (by assumption) (by omega) ?_ | refine zw_lald0 rfl (by assumption) (by omega) ?_ | refine zw_aaln rfl (by assumption) rfl (by omega) ?_ | refine zw_getR rfl (by assumption) (by assumption) ?_ | refine zw_alen rfl (by assumption) rfl ?_ | refine zw_iald rfl (by assumption) (by omega) (by omega) ?_ | refine zw_iast rfl (by omega) (by assumption) (by omega) (by omega) ?_ | refine zw_putI rfl (by assumption) ?_ | refine zw_lald rfl (by assumption) (by omega) (by omega) ?_ | refine zw_last rfl (by assumption) (by omega) (by omega) ?_ | refine zw_iadd rfl (by omega) (by omega) ?_ | refine zw_isub rfl (by omega) (by omega) ?_ | refine zw_iinc rfl rfl rfl (by omega) (by omega) ?_)
    refine zw_callv rfl rfl rfl rfl rfl rfl (by assumption) ?_
    refine c_copy hu0 hi0 (by omega) ?_
    rw [q1, q2]
    repeat (first | refine zw_t rfl rfl ?_ | refine zw_jump rfl rfl ?_ | refine zw_getI rfl rfl (by assumption) ?_ | refine zw_ialn rfl (by assumption) (by omega) ?_ | refine zw_laln rfl (by assumption) (by omega) ?_ | refine zw_iastn rfl (by omega) (by assumption) (by omega) ?_ | refine zw_lastn rfl (by assumption) (by omega) ?_ | refine zw_iald0 rfl (by assumption) (by omega) ?_ | refine zw_lald0 rfl (by assumption) (by omega) ?_ | refine zw_aaln rfl (by assumption) rfl (by omega) ?_ | refine zw_getR rfl (by assumption) (by assumption) ?_ | refine zw_alen rfl (by assumption) rfl ?_ | refine zw_iald rfl (by assumption) (by omega) (by omega) ?_ | refine zw_iast rfl (by omega) (by assumption) (by omega) (by omega) ?_ | refine zw_putI rfl (by assumption) ?_ | refine zw_lald rfl (by assumption) (by omega) (by omega) ?_ | refine zw_last rfl (by assumption) (by omega) (by omega) ?_ | refine zw_iadd rfl (by omega) (by omega) ?_ | refine zw_isub rfl (by omega) (by omega) ?_ | refine zw_iinc rfl rfl rfl (by omega) (by omega) ?_)
    refine zw_aret rfl (fin _ (fun j hj => ?_))
    unfold z_cpf z_frm
    rw [if_pos (by omega), if_pos hx, z_up_same]
    exact ev j hj
  | false =>
    refine zw_if_eq_t rfl rfl ?_
    repeat (first | refine zw_t rfl rfl ?_ | refine zw_jump rfl rfl ?_ | refine zw_getI rfl rfl (by assumption) ?_ | refine zw_ialn rfl (by assumption) (by omega) ?_ | refine zw_laln rfl (by assumption) (by omega) ?_ | refine zw_iastn rfl (by omega) (by assumption) (by omega) ?_ | refine zw_lastn rfl (by assumption) (by omega) ?_ | refine zw_iald0 rfl (by assumption) (by omega) ?_ | refine zw_lald0 rfl (by assumption) (by omega) ?_ | refine zw_aaln rfl (by assumption) rfl (by omega) ?_ | refine zw_getR rfl (by assumption) (by assumption) ?_ | refine zw_alen rfl (by assumption) rfl ?_ | refine zw_iald rfl (by assumption) (by omega) (by omega) ?_ | refine zw_iast rfl (by omega) (by assumption) (by omega) (by omega) ?_ | refine zw_putI rfl (by assumption) ?_ | refine zw_lald rfl (by assumption) (by omega) (by omega) ?_ | refine zw_last rfl (by assumption) (by omega) (by omega) ?_ | refine zw_iadd rfl (by omega) (by omega) ?_ | refine zw_isub rfl (by omega) (by omega) ?_ | refine zw_iinc rfl rfl rfl (by omega) (by omega) ?_)
    refine zw_callv rfl rfl rfl rfl rfl rfl (by assumption) ?_
    refine c_copy hu0 hr0 (by omega) ?_
    rw [q3, q4]
    repeat (first | refine zw_t rfl rfl ?_ | refine zw_jump rfl rfl ?_ | refine zw_getI rfl rfl (by assumption) ?_ | refine zw_ialn rfl (by assumption) (by omega) ?_ | refine zw_laln rfl (by assumption) (by omega) ?_ | refine zw_iastn rfl (by omega) (by assumption) (by omega) ?_ | refine zw_lastn rfl (by assumption) (by omega) ?_ | refine zw_iald0 rfl (by assumption) (by omega) ?_ | refine zw_lald0 rfl (by assumption) (by omega) ?_ | refine zw_aaln rfl (by assumption) rfl (by omega) ?_ | refine zw_getR rfl (by assumption) (by assumption) ?_ | refine zw_alen rfl (by assumption) rfl ?_ | refine zw_iald rfl (by assumption) (by omega) (by omega) ?_ | refine zw_iast rfl (by omega) (by assumption) (by omega) (by omega) ?_ | refine zw_putI rfl (by assumption) ?_ | refine zw_lald rfl (by assumption) (by omega) (by omega) ?_ | refine zw_last rfl (by assumption) (by omega) (by omega) ?_ | refine zw_iadd rfl (by omega) (by omega) ?_ | refine zw_isub rfl (by omega) (by omega) ?_ | refine zw_iinc rfl rfl rfl (by omega) (by omega) ?_)
    refine zw_aret rfl (fin _ (fun j hj => ?_))
    unfold z_cpf z_frm
    rw [if_pos (by omega), if_neg (by rw [hx]; decide), z_up_ne _ _ (by omega), hw]
end ZForms2
