/-! THE REFERENCE'S SEARCHES: counts, tells, clear -/
theorem z_sum1 {g : Nat → Int} {x : Nat} : ∀ c : Nat, (∀ a b, a < b → b < c → g a ≠ g b) → ((∃ i, i < c ∧ g i = (x : Int)) → zsf (fun i => z_one (g i) x) 0 c = 1) ∧ ((¬ ∃ i, i < c ∧ g i = (x : Int)) → zsf (fun i => z_one (g i) x) 0 c = 0)
  | 0, _ => ⟨fun ⟨i, hi, _⟩ => by omega, fun _ => rfl⟩
  | c + 1, h => by
    obtain ⟨r1, r0⟩ := z_sum1 c (fun a b h1 h2 => h a b h1 (by omega))
    rw [zsf_snoc, Nat.zero_add]
    unfold z_one at r1 r0 ⊢
    constructor
    · rintro ⟨i, hi, e⟩
      by_cases hic : i = c
      · subst hic
        rw [r0 (fun ⟨j, hj, e2⟩ => h j i hj (by omega) (by omega)), if_pos e.symm]
        rfl
      · rw [r1 ⟨i, by omega, e⟩, if_neg (fun q => h i c (by omega) (by omega) (by omega))]
        rfl
    · intro hn
      rw [r0 (fun ⟨j, hj, e2⟩ => hn ⟨j, by omega, e2⟩), if_neg (fun q => hn ⟨c, by omega, q.symm⟩)]
      rfl
/-- the lengths of a new mark at y to those of a row -/
def z_cn (w : Nat → Int) (c : Nat) (rd y : Int) (x : Nat) : Int := zsf (fun i => z_e rd (y - w i) x) 0 c
theorem z_cn_le (w : Nat → Int) (c : Nat) (rd y : Int) (x : Nat) : 0 ≤ z_cn w c rd y x ∧ z_cn w c rd y x ≤ 2 * c := by
  have := zsf_le (fun j => z_e rd (y - w j) x) (fun j => z_e_le _ _ _) c 0
  unfold z_cn
  omega
/-- what was found: how many, and the one that is asked for -/
def ZAc (F I : Nat → Nat → Int) (ask : Int) (l : List Nat) : Prop := F 79 16 = (l.length : Int) ∧ (0 ≤ ask → ask < (l.length : Int) → ∃ c : Nat, F 79 21 = (c : Int) ∧ c ≤ 24 ∧ ZMR (l.getD ask.toNat 0) (I 91) c)
/-- what a search leaves as it was -/
def ZSf (F I F' I' : Nat → Nat → Int) : Prop := (∀ a j, ¬ (a = 79 ∧ (j = 8 ∨ j = 9 ∨ j = 16 ∨ j = 21)) → F' a j = F a j) ∧ (∀ a, a ≠ 86 → a ≠ 87 → a ≠ 88 → a ≠ 89 → a ≠ 91 → a ≠ 92 → I' a = I a)
theorem ZSf.refl (F I : Nat → Nat → Int) : ZSf F I F I := ⟨fun _ _ _ => rfl, fun _ _ _ _ _ _ _ => rfl⟩
theorem ZSf.trans {F I F1 I1 F2 I2 : Nat → Nat → Int} (h : ZSf F I F1 I1) (h' : ZSf F1 I1 F2 I2) : ZSf F I F2 I2 := ⟨fun a j q => (h'.1 a j q).trans (h.1 a j q), fun a q1 q2 q3 q4 q5 q6 => (h'.2 a q1 q2 q3 q4 q5 q6).trans (h.2 a q1 q2 q3 q4 q5 q6)⟩
section ZRef12
variable {d c : Nat} {A : ZA} {k : ZK} {F I F1 I1 F2 I2 : Nat → Nat → Int} {L : Nat → Nat → Int64} {R : Nat → Nat → Option Nat} {Q : Option ZV → ZH → Prop} {x rd : Int} {w : Nat → Int}
theorem ZSf.fld (h : ZSf F I F1 I1) (j : Nat) (y : Int) (hj : j = 8 ∨ j = 9 ∨ j = 16 ∨ j = 21) : ZSf F I (z_u2 F1 79 j y) I1 := by
  refine ⟨fun a i q => ?_, h.2⟩
  rw [← h.1 a i q]
  unfold z_u2
  rw [if_neg (by omega)]
theorem ZSf.row (h : ZSf F I F1 I1) (a : Nat) (f : Nat → Int) (ha : a = 86 ∨ a = 87 ∨ a = 88 ∨ a = 89 ∨ a = 91 ∨ a = 92) : ZSf F I F1 (z_up I1 a f) := ⟨h.1, fun b q1 q2 q3 q4 q5 q6 => by rw [z_up_ne _ _ (by omega)]; exact h.2 b q1 q2 q3 q4 q5 q6⟩
theorem ZSf.cell (h : ZSf F I F1 I1) (j : Nat) (y : Int) : ZSf F I F1 (z_u2 I1 86 j y) := ⟨h.1, fun b q1 q2 q3 q4 q5 q6 => by rw [z_u2_ad _ _ _ q1]; exact h.2 b q1 q2 q3 q4 q5 q6⟩
theorem ZSf.cu (h : ZSf F1 I1 F2 I2) (z : ZCu A F I L F1 I1) : ZCu A F I L F2 I2 := z.scr (fun a ha => funext (fun j => h.1 a j (by omega))) (h.1 79 0 (by omega)) (fun a ha => h.2 a (by omega) (by omega) (by omega) (by omega) (by omega) (by omega))
theorem ZAc.fr {ask : Int} {l : List Nat} (h : ZAc F I ask l) (e1 : F1 79 16 = F 79 16) (e2 : F1 79 21 = F 79 21) (e3 : I1 91 = I 91) : ZAc F1 I1 ask l := by
  unfold ZAc
  rw [e1, e2, e3]
  exact h
/-- the lengths from y to the marks of the row are counted, by one up or down -/
theorem c_mcounts {f : Nat → Int} {y n : Int} (hk : ZMk k) (hc : F 79 8 = (c : Int)) (hc24 : c ≤ 24) (hw : ZAgr (I 86) w c) (hf : I 87 = f) (hb : ∀ j, j < c → 0 ≤ y - w j ∧ y - w j ≤ 1000 ∧ 0 ≤ w j ∧ w j ≤ 1000) (hn : n = 1 ∨ n = -1) (hfb : ∀ x, x ≤ 1000 → -1000 ≤ f x ∧ f x ≤ 1000)
    (hm : (F 79 19 ≠ 2 ∧ rd = 0) ∨ (F 79 19 = 2 ∧ F 79 15 = rd ∧ 0 < rd ∧ rd ≤ 1000 ∧ ∀ j, j < c → 0 ≤ rd - (y - w j)))
    (K : ∀ (t : Int) (f' : Nat → Int), (t = 0 ∨ t = 1) → f' = (fun x => f x + n * z_cn w c rd y x) → (n = 1 → (∀ x, x ≤ 1000 → f x ≤ 1) → ((t = 0 ∧ ∀ x, x ≤ 1000 → f' x ≤ 1) ∨ (t = 1 ∧ ∃ x, x ≤ 1000 ∧ 1 < f' x))) → Q (some (.inl t)) (k, F, z_up I 87 f', L, R)) : ZC (d + 1) 188 [.inr (.inr (some 79)), .inl y, .inl n] (k, F, I, L, R) Q := by
  obtain ⟨⟨hT, g1, g2, g3, g4, g5, g6, g7⟩, ⟨g10, _⟩, ⟨t80, t81, t82, t83, t84, t85, t86⟩, ⟨t87, _⟩⟩ := hk
  have row : ∀ f j, j < c → z_up I 87 f 86 j = w j := fun f j hj => by rw [z_up_ne _ _ (by omega)]; exact hw j hj
  have loop : ∀ (m i : Nat) (t : Int) (g : Nat → Int) (x5 : Option ZV), m + i = c → (t = 0 ∨ t = 1) → g = (fun x => f x + n * z_cn w i rd y x) → (n = 1 → (∀ x, x ≤ 1000 → f x ≤ 1) → ((t = 0 ∧ ∀ x, x ≤ 1000 → g x ≤ 1) ∨ (t = 1 ∧ ∃ x, x ≤ 1000 ∧ 1 < g x))) → ZW d 188 5 [some (.inr (.inr (some 79))), some (.inl y), some (.inl n), some (.inl t), some (.inl (i : Int)), x5] [] (k, F, z_up I 87 g, L, R) Q := by
    intro m
    induction m with
    | zero =>
      intro i t g x5 hi ht hg hfl
      have hi : i = c := by omega
      subst hi
      repeat (first | refine zw_t rfl rfl ?_ | refine zw_jump rfl rfl ?_ | refine zw_getI rfl rfl (by assumption) ?_ | refine zw_ialn rfl (by assumption) (by omega) ?_ | refine zw_laln rfl (by assumption) (by omega) ?_ | refine zw_iastn rfl (by omega) (by assumption) (by omega) ?_ | refine zw_lastn rfl (by assumption) (by omega) ?_ | refine zw_iald0 rfl (by assumption) (by omega) ?_ | refine zw_lald0 rfl (by assumption) (by omega) ?_ | refine zw_aaln rfl (by assumption) rfl (by omega) ?_ | refine zw_getR rfl (by assumption) (by assumption) ?_ | refine zw_alen rfl (by assumption) rfl ?_ | refine zw_iald rfl (by assumption) (by omega) (by omega) ?_ | refine zw_iast rfl (by omega) (by assumption) (by omega) (by omega) ?_ | refine zw_putI rfl (by assumption) ?_ | refine zw_lald rfl (by assumption) (by omega) (by omega) ?_ | refine zw_last rfl (by assumption) (by omega) (by omega) ?_ | refine zw_iadd rfl (by omega) (by omega) ?_ | refine zw_isub rfl (by omega) (by omega) ?_ | refine zw_iinc rfl rfl rfl (by omega) (by omega) ?_ | refine zw_imul rfl (by omega) (by omega) ?_)
      refine zw_icmp_ge_t rfl (by omega) ?_
      repeat (first | refine zw_t rfl rfl ?_ | refine zw_jump rfl rfl ?_ | refine zw_getI rfl rfl (by assumption) ?_ | refine zw_ialn rfl (by assumption) (by omega) ?_ | refine zw_laln rfl (by assumption) (by omega) ?_ | refine zw_iastn rfl (by omega) (by assumption) (by omega) ?_ | refine zw_lastn rfl (by assumption) (by omega) ?_ | refine zw_iald0 rfl (by assumption) (by omega) ?_ | refine zw_lald0 rfl (by assumption) (by omega) ?_ | refine zw_aaln rfl (by assumption) rfl (by omega) ?_ | refine zw_getR rfl (by assumption) (by assumption) ?_ | refine zw_alen rfl (by assumption) rfl ?_ | refine zw_iald rfl (by assumption) (by omega) (by omega) ?_ | refine zw_iast rfl (by omega) (by assumption) (by omega) (by omega) ?_ | refine zw_putI rfl (by assumption) ?_ | refine zw_lald rfl (by assumption) (by omega) (by omega) ?_ | refine zw_last rfl (by assumption) (by omega) (by omega) ?_ | refine zw_iadd rfl (by omega) (by omega) ?_ | refine zw_isub rfl (by omega) (by omega) ?_ | refine zw_iinc rfl rfl rfl (by omega) (by omega) ?_ | refine zw_imul rfl (by omega) (by omega) ?_)
      exact zw_zret rfl ht (K t g ht hg hfl)
    | succ m ih =>
      intro i t g x5 hi ht hg hfl
      obtain ⟨p1, p2, p3, p4⟩ := hb i (by omega)
      obtain ⟨e, he⟩ : ∃ e : Nat, y - w i = (e : Int) := ⟨(y - w i).toNat, by omega⟩
      have gb : ∀ x, x ≤ 1000 → -2000 ≤ g x ∧ g x ≤ 2000 := fun x hx1 => by
        rw [hg]
        dsimp only
        have q1 := hfb x hx1
        have q2 := z_cn_le w i rd y x
        rcases hn with hn | hn
        · rw [hn, Int.one_mul]; omega
        · rw [hn, show (-1 : Int) * z_cn w i rd y x = - z_cn w i rd y x by omega]; omega
      have step : ∀ x : Nat, z_cn w (i + 1) rd y x = z_cn w i rd y x + z_e rd (e : Int) x := fun x => by
        unfold z_cn
        rw [zsf_snoc, Nat.zero_add, he]
      have ge := gb e (by omega)
      have last : ∀ (t' : Int) (g' : Nat → Int), (t' = 0 ∨ t' = 1) → (∀ x, g' x = g x + n * z_e rd (e : Int) x) → (n = 1 → (∀ x, x ≤ 1000 → f x ≤ 1) → ((t' = 0 ∧ ∀ x, x ≤ 1000 → g' x ≤ 1) ∨ (t' = 1 ∧ ∃ x, x ≤ 1000 ∧ 1 < g' x))) → ZW d 188 107 [some (.inr (.inr (some 79))), some (.inl y), some (.inl n), some (.inl t'), some (.inl (i : Int)), some (.inl (e : Int))] [] (k, F, z_up I 87 g', L, R) Q := by
        intro t' g' ht' hg' hfl'
        repeat (first | refine zw_t rfl rfl ?_ | refine zw_jump rfl rfl ?_ | refine zw_getI rfl rfl (by assumption) ?_ | refine zw_ialn rfl (by assumption) (by omega) ?_ | refine zw_laln rfl (by assumption) (by omega) ?_ | refine zw_iastn rfl (by omega) (by assumption) (by omega) ?_ | refine zw_lastn rfl (by assumption) (by omega) ?_ | refine zw_iald0 rfl (by assumption) (by omega) ?_ | refine zw_lald0 rfl (by assumption) (by omega) ?_ | refine zw_aaln rfl (by assumption) rfl (by omega) ?_ | refine zw_getR rfl (by assumption) (by assumption) ?_ | refine zw_alen rfl (by assumption) rfl ?_ | refine zw_iald rfl (by assumption) (by omega) (by omega) ?_ | refine zw_iast rfl (by omega) (by assumption) (by omega) (by omega) ?_ | refine zw_putI rfl (by assumption) ?_ | refine zw_lald rfl (by assumption) (by omega) (by omega) ?_ | refine zw_last rfl (by assumption) (by omega) (by omega) ?_ | refine zw_iadd rfl (by omega) (by omega) ?_ | refine zw_isub rfl (by omega) (by omega) ?_ | refine zw_iinc rfl rfl rfl (by omega) (by omega) ?_ | refine zw_imul rfl (by omega) (by omega) ?_)
        refine zw_goto rfl ?_
        refine ih (i + 1) t' g' _ (by omega) ht' ?_ hfl'
        funext x
        rw [hg' x, hg, step x, Int.mul_add]
        dsimp only
        omega
      -- the first of the two lengths
      obtain ⟨g1', hg1⟩ : ∃ g1', g1' = z_up g e (g e + n) := ⟨_, rfl⟩
      have v1 : ∀ x, g1' x = g x + n * z_one (e : Int) x := fun x => by
        rw [hg1, z_up_val]
        unfold z_one
        by_cases hx : x = e
        · rw [if_pos hx, if_pos (by omega), hx, Int.mul_one]
        · rw [if_neg hx, if_neg (by omega), Int.mul_zero, Int.add_zero]
      have mid : ∀ t1 : Int, (t1 = 0 ∨ t1 = 1) → (n = 1 → (∀ x, x ≤ 1000 → f x ≤ 1) → ((t1 = 0 ∧ ∀ x, x ≤ 1000 → g1' x ≤ 1) ∨ (t1 = 1 ∧ ∃ x, x ≤ 1000 ∧ 1 < g1' x))) → ZW d 188 56 [some (.inr (.inr (some 79))), some (.inl y), some (.inl n), some (.inl t), some (.inl (i : Int)), some (.inl (e : Int))] [.inl t1] (k, F, z_up I 87 g1', L, R) Q := by
        intro t1 ht1 hfl1
        repeat (first | refine zw_t rfl rfl ?_ | refine zw_jump rfl rfl ?_ | refine zw_getI rfl rfl (by assumption) ?_ | refine zw_ialn rfl (by assumption) (by omega) ?_ | refine zw_laln rfl (by assumption) (by omega) ?_ | refine zw_iastn rfl (by omega) (by assumption) (by omega) ?_ | refine zw_lastn rfl (by assumption) (by omega) ?_ | refine zw_iald0 rfl (by assumption) (by omega) ?_ | refine zw_lald0 rfl (by assumption) (by omega) ?_ | refine zw_aaln rfl (by assumption) rfl (by omega) ?_ | refine zw_getR rfl (by assumption) (by assumption) ?_ | refine zw_alen rfl (by assumption) rfl ?_ | refine zw_iald rfl (by assumption) (by omega) (by omega) ?_ | refine zw_iast rfl (by omega) (by assumption) (by omega) (by omega) ?_ | refine zw_putI rfl (by assumption) ?_ | refine zw_lald rfl (by assumption) (by omega) (by omega) ?_ | refine zw_last rfl (by assumption) (by omega) (by omega) ?_ | refine zw_iadd rfl (by omega) (by omega) ?_ | refine zw_isub rfl (by omega) (by omega) ?_ | refine zw_iinc rfl rfl rfl (by omega) (by omega) ?_ | refine zw_imul rfl (by omega) (by omega) ?_)
        rcases hm with ⟨m1, m2⟩ | ⟨m1, m2, m3, m4, m5⟩
        · refine zw_icmp_ne_t rfl m1 ?_
          refine last t1 g1' ht1 (fun x => ?_) hfl1
          rw [v1 x]
          unfold z_e
          rw [m2, if_neg (by omega), Int.add_zero]
        · refine zw_icmp_ne_f rfl m1 ?_
          have p5 := m5 i (by omega)
          obtain ⟨u, hu⟩ : ∃ u : Nat, rd - (e : Int) = (u : Int) := ⟨(rd - (e : Int)).toNat, by omega⟩
          have gu := gb u (by omega)
          have vu := v1 u
          have ou : 0 ≤ z_one (e : Int) u ∧ z_one (e : Int) u ≤ 1 := z_one_le _ _
          have gu2 : -3000 ≤ g1' u ∧ g1' u ≤ 3000 := by
            rw [vu]
            rcases hn with hn | hn
            · rw [hn, Int.one_mul]; omega
            · rw [hn, show (-1 : Int) * z_one (e : Int) u = - z_one (e : Int) u by omega]; omega
          obtain ⟨g2', hg2⟩ : ∃ g2', g2' = z_up g1' u (g1' u + n) := ⟨_, rfl⟩
          have v2 : ∀ x, g2' x = g x + n * z_e rd (e : Int) x := fun x => by
            rw [hg2, z_up_val]
            unfold z_e
            rw [if_pos m3, Int.mul_add]
            have q := v1 x
            have ex : z_one (rd - (e : Int)) x = if x = u then 1 else 0 := by
              unfold z_one
              by_cases hx : x = u
              · rw [if_pos hx, if_pos (by omega)]
              · rw [if_neg hx, if_neg (by omega)]
            rw [ex]
            by_cases hx : x = u
            · rw [if_pos hx, if_pos hx, Int.mul_one, ← hx, q]; omega
            · rw [if_neg hx, if_neg hx, Int.mul_zero, q]; omega
          have fin : ∀ t2 : Int, (t2 = 0 ∨ t2 = 1) → (n = 1 → (∀ x, x ≤ 1000 → f x ≤ 1) → ((t2 = 0 ∧ ∀ x, x ≤ 1000 → g2' x ≤ 1) ∨ (t2 = 1 ∧ ∃ x, x ≤ 1000 ∧ 1 < g2' x))) → ZW d 188 106 [some (.inr (.inr (some 79))), some (.inl y), some (.inl n), some (.inl t1), some (.inl (i : Int)), some (.inl (e : Int))] [.inl t2] (k, F, z_up I 87 g2', L, R) Q := by
            intro t2 ht2 hfl2
            repeat (refine zw_ne 107 rfl ?_; first | refine zw_t rfl rfl ?_ | refine zw_jump rfl rfl ?_ | refine zw_getI rfl rfl (by assumption) ?_ | refine zw_ialn rfl (by assumption) (by omega) ?_ | refine zw_laln rfl (by assumption) (by omega) ?_ | refine zw_iastn rfl (by omega) (by assumption) (by omega) ?_ | refine zw_lastn rfl (by assumption) (by omega) ?_ | refine zw_iald0 rfl (by assumption) (by omega) ?_ | refine zw_lald0 rfl (by assumption) (by omega) ?_ | refine zw_aaln rfl (by assumption) rfl (by omega) ?_ | refine zw_getR rfl (by assumption) (by assumption) ?_ | refine zw_alen rfl (by assumption) rfl ?_ | refine zw_iald rfl (by assumption) (by omega) (by omega) ?_ | refine zw_iast rfl (by omega) (by assumption) (by omega) (by omega) ?_ | refine zw_putI rfl (by assumption) ?_ | refine zw_lald rfl (by assumption) (by omega) (by omega) ?_ | refine zw_last rfl (by assumption) (by omega) (by omega) ?_ | refine zw_iadd rfl (by omega) (by omega) ?_ | refine zw_isub rfl (by omega) (by omega) ?_ | refine zw_iinc rfl rfl rfl (by omega) (by omega) ?_ | refine zw_imul rfl (by omega) (by omega) ?_)
            exact last t2 g2' ht2 v2 hfl2
          repeat (first | refine zw_t rfl rfl ?_ | refine zw_jump rfl rfl ?_ | refine zw_getI rfl rfl (by assumption) ?_ | refine zw_ialn rfl (by assumption) (by omega) ?_ | refine zw_laln rfl (by assumption) (by omega) ?_ | refine zw_iastn rfl (by omega) (by assumption) (by omega) ?_ | refine zw_lastn rfl (by assumption) (by omega) ?_ | refine zw_iald0 rfl (by assumption) (by omega) ?_ | refine zw_lald0 rfl (by assumption) (by omega) ?_ | refine zw_aaln rfl (by assumption) rfl (by omega) ?_ | refine zw_getR rfl (by assumption) (by assumption) ?_ | refine zw_alen rfl (by assumption) rfl ?_ | refine zw_iald rfl (by assumption) (by omega) (by omega) ?_ | refine zw_iast rfl (by omega) (by assumption) (by omega) (by omega) ?_ | refine zw_putI rfl (by assumption) ?_ | refine zw_lald rfl (by assumption) (by omega) (by omega) ?_ | refine zw_last rfl (by assumption) (by omega) (by omega) ?_ | refine zw_iadd rfl (by omega) (by omega) ?_ | refine zw_isub rfl (by omega) (by omega) ?_ | refine zw_iinc rfl rfl rfl (by omega) (by omega) ?_ | refine zw_imul rfl (by omega) (by omega) ?_)
          rw [m2, show (rd - (e : Int)).toNat = u by omega, z_up_same]
          refine zw_iadd rfl (by omega) (by omega) ?_
          repeat (first | refine zw_t rfl rfl ?_ | refine zw_jump rfl rfl ?_ | refine zw_getI rfl rfl (by assumption) ?_ | refine zw_ialn rfl (by assumption) (by omega) ?_ | refine zw_laln rfl (by assumption) (by omega) ?_ | refine zw_iastn rfl (by omega) (by assumption) (by omega) ?_ | refine zw_lastn rfl (by assumption) (by omega) ?_ | refine zw_iald0 rfl (by assumption) (by omega) ?_ | refine zw_lald0 rfl (by assumption) (by omega) ?_ | refine zw_aaln rfl (by assumption) rfl (by omega) ?_ | refine zw_getR rfl (by assumption) (by assumption) ?_ | refine zw_alen rfl (by assumption) rfl ?_ | refine zw_iald rfl (by assumption) (by omega) (by omega) ?_ | refine zw_iast rfl (by omega) (by assumption) (by omega) (by omega) ?_ | refine zw_putI rfl (by assumption) ?_ | refine zw_lald rfl (by assumption) (by omega) (by omega) ?_ | refine zw_last rfl (by assumption) (by omega) (by omega) ?_ | refine zw_iadd rfl (by omega) (by omega) ?_ | refine zw_isub rfl (by omega) (by omega) ?_ | refine zw_iinc rfl rfl rfl (by omega) (by omega) ?_ | refine zw_imul rfl (by omega) (by omega) ?_)
          rw [show (rd - (e : Int)).toNat = u by omega, z_u2_up, ← hg2]
          refine zw_if_ne rfl (fun h2 => ?_) (fun h2 => ?_)
          · repeat (refine zw_ne 106 rfl ?_; first | refine zw_t rfl rfl ?_ | refine zw_jump rfl rfl ?_ | refine zw_getI rfl rfl (by assumption) ?_ | refine zw_ialn rfl (by assumption) (by omega) ?_ | refine zw_laln rfl (by assumption) (by omega) ?_ | refine zw_iastn rfl (by omega) (by assumption) (by omega) ?_ | refine zw_lastn rfl (by assumption) (by omega) ?_ | refine zw_iald0 rfl (by assumption) (by omega) ?_ | refine zw_lald0 rfl (by assumption) (by omega) ?_ | refine zw_aaln rfl (by assumption) rfl (by omega) ?_ | refine zw_getR rfl (by assumption) (by assumption) ?_ | refine zw_alen rfl (by assumption) rfl ?_ | refine zw_iald rfl (by assumption) (by omega) (by omega) ?_ | refine zw_iast rfl (by omega) (by assumption) (by omega) (by omega) ?_ | refine zw_putI rfl (by assumption) ?_ | refine zw_lald rfl (by assumption) (by omega) (by omega) ?_ | refine zw_last rfl (by assumption) (by omega) (by omega) ?_ | refine zw_iadd rfl (by omega) (by omega) ?_ | refine zw_isub rfl (by omega) (by omega) ?_ | refine zw_iinc rfl rfl rfl (by omega) (by omega) ?_ | refine zw_imul rfl (by omega) (by omega) ?_)
            refine fin 1 (Or.inr rfl) (fun hn1 hfx => ?_)
            rcases hfl1 hn1 hfx with ⟨q, _⟩ | ⟨_, x, hx1, hx⟩
            · exact absurd q h2
            · refine Or.inr ⟨rfl, x, hx1, ?_⟩
              rw [hg2, z_up_val]
              split
              · rename_i hxu
                subst hxu
                omega
              · exact hx
          · repeat (first | refine zw_t rfl rfl ?_ | refine zw_jump rfl rfl ?_ | refine zw_getI rfl rfl (by assumption) ?_ | refine zw_ialn rfl (by assumption) (by omega) ?_ | refine zw_laln rfl (by assumption) (by omega) ?_ | refine zw_iastn rfl (by omega) (by assumption) (by omega) ?_ | refine zw_lastn rfl (by assumption) (by omega) ?_ | refine zw_iald0 rfl (by assumption) (by omega) ?_ | refine zw_lald0 rfl (by assumption) (by omega) ?_ | refine zw_aaln rfl (by assumption) rfl (by omega) ?_ | refine zw_getR rfl (by assumption) (by assumption) ?_ | refine zw_alen rfl (by assumption) rfl ?_ | refine zw_iald rfl (by assumption) (by omega) (by omega) ?_ | refine zw_iast rfl (by omega) (by assumption) (by omega) (by omega) ?_ | refine zw_putI rfl (by assumption) ?_ | refine zw_lald rfl (by assumption) (by omega) (by omega) ?_ | refine zw_last rfl (by assumption) (by omega) (by omega) ?_ | refine zw_iadd rfl (by omega) (by omega) ?_ | refine zw_isub rfl (by omega) (by omega) ?_ | refine zw_iinc rfl rfl rfl (by omega) (by omega) ?_ | refine zw_imul rfl (by omega) (by omega) ?_)
            rw [m2, show (rd - (e : Int)).toNat = u by omega, z_up_same]
            have g2u : g2' u = g1' u + n := by rw [hg2, z_up_same]
            refine zw_icmp_le rfl (fun h3 => ?_) (fun h3 => ?_)
            · repeat (refine zw_ne 106 rfl ?_; first | refine zw_t rfl rfl ?_ | refine zw_jump rfl rfl ?_ | refine zw_getI rfl rfl (by assumption) ?_ | refine zw_ialn rfl (by assumption) (by omega) ?_ | refine zw_laln rfl (by assumption) (by omega) ?_ | refine zw_iastn rfl (by omega) (by assumption) (by omega) ?_ | refine zw_lastn rfl (by assumption) (by omega) ?_ | refine zw_iald0 rfl (by assumption) (by omega) ?_ | refine zw_lald0 rfl (by assumption) (by omega) ?_ | refine zw_aaln rfl (by assumption) rfl (by omega) ?_ | refine zw_getR rfl (by assumption) (by assumption) ?_ | refine zw_alen rfl (by assumption) rfl ?_ | refine zw_iald rfl (by assumption) (by omega) (by omega) ?_ | refine zw_iast rfl (by omega) (by assumption) (by omega) (by omega) ?_ | refine zw_putI rfl (by assumption) ?_ | refine zw_lald rfl (by assumption) (by omega) (by omega) ?_ | refine zw_last rfl (by assumption) (by omega) (by omega) ?_ | refine zw_iadd rfl (by omega) (by omega) ?_ | refine zw_isub rfl (by omega) (by omega) ?_ | refine zw_iinc rfl rfl rfl (by omega) (by omega) ?_ | refine zw_imul rfl (by omega) (by omega) ?_)
              refine fin 0 (Or.inl rfl) (fun hn1 hfx => Or.inl ⟨rfl, fun x hx1 => ?_⟩)
              rcases hfl1 hn1 hfx with ⟨_, q⟩ | ⟨q, _⟩
              · by_cases hxu : x = u
                · rw [hxu]; exact h3
                · rw [hg2, z_up_ne _ _ hxu]; exact q x hx1
              · omega
            · repeat (refine zw_ne 106 rfl ?_; first | refine zw_t rfl rfl ?_ | refine zw_jump rfl rfl ?_ | refine zw_getI rfl rfl (by assumption) ?_ | refine zw_ialn rfl (by assumption) (by omega) ?_ | refine zw_laln rfl (by assumption) (by omega) ?_ | refine zw_iastn rfl (by omega) (by assumption) (by omega) ?_ | refine zw_lastn rfl (by assumption) (by omega) ?_ | refine zw_iald0 rfl (by assumption) (by omega) ?_ | refine zw_lald0 rfl (by assumption) (by omega) ?_ | refine zw_aaln rfl (by assumption) rfl (by omega) ?_ | refine zw_getR rfl (by assumption) (by assumption) ?_ | refine zw_alen rfl (by assumption) rfl ?_ | refine zw_iald rfl (by assumption) (by omega) (by omega) ?_ | refine zw_iast rfl (by omega) (by assumption) (by omega) (by omega) ?_ | refine zw_putI rfl (by assumption) ?_ | refine zw_lald rfl (by assumption) (by omega) (by omega) ?_ | refine zw_last rfl (by assumption) (by omega) (by omega) ?_ | refine zw_iadd rfl (by omega) (by omega) ?_ | refine zw_isub rfl (by omega) (by omega) ?_ | refine zw_iinc rfl rfl rfl (by omega) (by omega) ?_ | refine zw_imul rfl (by omega) (by omega) ?_)
              exact fin 1 (Or.inr rfl) (fun hn1 hfx => Or.inr ⟨rfl, u, by omega, h3⟩)
      repeat (first | refine zw_t rfl rfl ?_ | refine zw_jump rfl rfl ?_ | refine zw_getI rfl rfl (by assumption) ?_ | refine zw_ialn rfl (by assumption) (by omega) ?_ | refine zw_laln rfl (by assumption) (by omega) ?_ | refine zw_iastn rfl (by omega) (by assumption) (by omega) ?_ | refine zw_lastn rfl (by assumption) (by omega) ?_ | refine zw_iald0 rfl (by assumption) (by omega) ?_ | refine zw_lald0 rfl (by assumption) (by omega) ?_ | refine zw_aaln rfl (by assumption) rfl (by omega) ?_ | refine zw_getR rfl (by assumption) (by assumption) ?_ | refine zw_alen rfl (by assumption) rfl ?_ | refine zw_iald rfl (by assumption) (by omega) (by omega) ?_ | refine zw_iast rfl (by omega) (by assumption) (by omega) (by omega) ?_ | refine zw_putI rfl (by assumption) ?_ | refine zw_lald rfl (by assumption) (by omega) (by omega) ?_ | refine zw_last rfl (by assumption) (by omega) (by omega) ?_ | refine zw_iadd rfl (by omega) (by omega) ?_ | refine zw_isub rfl (by omega) (by omega) ?_ | refine zw_iinc rfl rfl rfl (by omega) (by omega) ?_ | refine zw_imul rfl (by omega) (by omega) ?_)
      refine zw_icmp_ge_f rfl (by omega) ?_
      repeat (first | refine zw_t rfl rfl ?_ | refine zw_jump rfl rfl ?_ | refine zw_getI rfl rfl (by assumption) ?_ | refine zw_ialn rfl (by assumption) (by omega) ?_ | refine zw_laln rfl (by assumption) (by omega) ?_ | refine zw_iastn rfl (by omega) (by assumption) (by omega) ?_ | refine zw_lastn rfl (by assumption) (by omega) ?_ | refine zw_iald0 rfl (by assumption) (by omega) ?_ | refine zw_lald0 rfl (by assumption) (by omega) ?_ | refine zw_aaln rfl (by assumption) rfl (by omega) ?_ | refine zw_getR rfl (by assumption) (by assumption) ?_ | refine zw_alen rfl (by assumption) rfl ?_ | refine zw_iald rfl (by assumption) (by omega) (by omega) ?_ | refine zw_iast rfl (by omega) (by assumption) (by omega) (by omega) ?_ | refine zw_putI rfl (by assumption) ?_ | refine zw_lald rfl (by assumption) (by omega) (by omega) ?_ | refine zw_last rfl (by assumption) (by omega) (by omega) ?_ | refine zw_iadd rfl (by omega) (by omega) ?_ | refine zw_isub rfl (by omega) (by omega) ?_ | refine zw_iinc rfl rfl rfl (by omega) (by omega) ?_ | refine zw_imul rfl (by omega) (by omega) ?_)
      rw [row g i (by omega)]
      refine zw_isub rfl (by omega) (by omega) ?_
      rw [he]
      repeat (first | refine zw_t rfl rfl ?_ | refine zw_jump rfl rfl ?_ | refine zw_getI rfl rfl (by assumption) ?_ | refine zw_ialn rfl (by assumption) (by omega) ?_ | refine zw_laln rfl (by assumption) (by omega) ?_ | refine zw_iastn rfl (by omega) (by assumption) (by omega) ?_ | refine zw_lastn rfl (by assumption) (by omega) ?_ | refine zw_iald0 rfl (by assumption) (by omega) ?_ | refine zw_lald0 rfl (by assumption) (by omega) ?_ | refine zw_aaln rfl (by assumption) rfl (by omega) ?_ | refine zw_getR rfl (by assumption) (by assumption) ?_ | refine zw_alen rfl (by assumption) rfl ?_ | refine zw_iald rfl (by assumption) (by omega) (by omega) ?_ | refine zw_iast rfl (by omega) (by assumption) (by omega) (by omega) ?_ | refine zw_putI rfl (by assumption) ?_ | refine zw_lald rfl (by assumption) (by omega) (by omega) ?_ | refine zw_last rfl (by assumption) (by omega) (by omega) ?_ | refine zw_iadd rfl (by omega) (by omega) ?_ | refine zw_isub rfl (by omega) (by omega) ?_ | refine zw_iinc rfl rfl rfl (by omega) (by omega) ?_ | refine zw_imul rfl (by omega) (by omega) ?_)
      rw [z_up_same]
      refine zw_iadd rfl (by omega) (by omega) ?_
      repeat (first | refine zw_t rfl rfl ?_ | refine zw_jump rfl rfl ?_ | refine zw_getI rfl rfl (by assumption) ?_ | refine zw_ialn rfl (by assumption) (by omega) ?_ | refine zw_laln rfl (by assumption) (by omega) ?_ | refine zw_iastn rfl (by omega) (by assumption) (by omega) ?_ | refine zw_lastn rfl (by assumption) (by omega) ?_ | refine zw_iald0 rfl (by assumption) (by omega) ?_ | refine zw_lald0 rfl (by assumption) (by omega) ?_ | refine zw_aaln rfl (by assumption) rfl (by omega) ?_ | refine zw_getR rfl (by assumption) (by assumption) ?_ | refine zw_alen rfl (by assumption) rfl ?_ | refine zw_iald rfl (by assumption) (by omega) (by omega) ?_ | refine zw_iast rfl (by omega) (by assumption) (by omega) (by omega) ?_ | refine zw_putI rfl (by assumption) ?_ | refine zw_lald rfl (by assumption) (by omega) (by omega) ?_ | refine zw_last rfl (by assumption) (by omega) (by omega) ?_ | refine zw_iadd rfl (by omega) (by omega) ?_ | refine zw_isub rfl (by omega) (by omega) ?_ | refine zw_iinc rfl rfl rfl (by omega) (by omega) ?_ | refine zw_imul rfl (by omega) (by omega) ?_)
      rw [z_u2_up, ← hg1]
      refine zw_if_ne rfl (fun h2 => ?_) (fun h2 => ?_)
      · repeat (refine zw_ne 56 rfl ?_; first | refine zw_t rfl rfl ?_ | refine zw_jump rfl rfl ?_ | refine zw_getI rfl rfl (by assumption) ?_ | refine zw_ialn rfl (by assumption) (by omega) ?_ | refine zw_laln rfl (by assumption) (by omega) ?_ | refine zw_iastn rfl (by omega) (by assumption) (by omega) ?_ | refine zw_lastn rfl (by assumption) (by omega) ?_ | refine zw_iald0 rfl (by assumption) (by omega) ?_ | refine zw_lald0 rfl (by assumption) (by omega) ?_ | refine zw_aaln rfl (by assumption) rfl (by omega) ?_ | refine zw_getR rfl (by assumption) (by assumption) ?_ | refine zw_alen rfl (by assumption) rfl ?_ | refine zw_iald rfl (by assumption) (by omega) (by omega) ?_ | refine zw_iast rfl (by omega) (by assumption) (by omega) (by omega) ?_ | refine zw_putI rfl (by assumption) ?_ | refine zw_lald rfl (by assumption) (by omega) (by omega) ?_ | refine zw_last rfl (by assumption) (by omega) (by omega) ?_ | refine zw_iadd rfl (by omega) (by omega) ?_ | refine zw_isub rfl (by omega) (by omega) ?_ | refine zw_iinc rfl rfl rfl (by omega) (by omega) ?_ | refine zw_imul rfl (by omega) (by omega) ?_)
        refine mid 1 (Or.inr rfl) (fun hn1 hfx => ?_)
        rcases hfl hn1 hfx with ⟨q, _⟩ | ⟨_, x, hx1, hx⟩
        · exact absurd q h2
        · refine Or.inr ⟨rfl, x, hx1, ?_⟩
          rw [hg1, z_up_val]
          split
          · rename_i hxe
            subst hxe
            omega
          · exact hx
      · repeat (first | refine zw_t rfl rfl ?_ | refine zw_jump rfl rfl ?_ | refine zw_getI rfl rfl (by assumption) ?_ | refine zw_ialn rfl (by assumption) (by omega) ?_ | refine zw_laln rfl (by assumption) (by omega) ?_ | refine zw_iastn rfl (by omega) (by assumption) (by omega) ?_ | refine zw_lastn rfl (by assumption) (by omega) ?_ | refine zw_iald0 rfl (by assumption) (by omega) ?_ | refine zw_lald0 rfl (by assumption) (by omega) ?_ | refine zw_aaln rfl (by assumption) rfl (by omega) ?_ | refine zw_getR rfl (by assumption) (by assumption) ?_ | refine zw_alen rfl (by assumption) rfl ?_ | refine zw_iald rfl (by assumption) (by omega) (by omega) ?_ | refine zw_iast rfl (by omega) (by assumption) (by omega) (by omega) ?_ | refine zw_putI rfl (by assumption) ?_ | refine zw_lald rfl (by assumption) (by omega) (by omega) ?_ | refine zw_last rfl (by assumption) (by omega) (by omega) ?_ | refine zw_iadd rfl (by omega) (by omega) ?_ | refine zw_isub rfl (by omega) (by omega) ?_ | refine zw_iinc rfl rfl rfl (by omega) (by omega) ?_ | refine zw_imul rfl (by omega) (by omega) ?_)
        rw [z_up_same]
        refine zw_icmp_le rfl (fun h3 => ?_) (fun h3 => ?_)
        · repeat (refine zw_ne 56 rfl ?_; first | refine zw_t rfl rfl ?_ | refine zw_jump rfl rfl ?_ | refine zw_getI rfl rfl (by assumption) ?_ | refine zw_ialn rfl (by assumption) (by omega) ?_ | refine zw_laln rfl (by assumption) (by omega) ?_ | refine zw_iastn rfl (by omega) (by assumption) (by omega) ?_ | refine zw_lastn rfl (by assumption) (by omega) ?_ | refine zw_iald0 rfl (by assumption) (by omega) ?_ | refine zw_lald0 rfl (by assumption) (by omega) ?_ | refine zw_aaln rfl (by assumption) rfl (by omega) ?_ | refine zw_getR rfl (by assumption) (by assumption) ?_ | refine zw_alen rfl (by assumption) rfl ?_ | refine zw_iald rfl (by assumption) (by omega) (by omega) ?_ | refine zw_iast rfl (by omega) (by assumption) (by omega) (by omega) ?_ | refine zw_putI rfl (by assumption) ?_ | refine zw_lald rfl (by assumption) (by omega) (by omega) ?_ | refine zw_last rfl (by assumption) (by omega) (by omega) ?_ | refine zw_iadd rfl (by omega) (by omega) ?_ | refine zw_isub rfl (by omega) (by omega) ?_ | refine zw_iinc rfl rfl rfl (by omega) (by omega) ?_ | refine zw_imul rfl (by omega) (by omega) ?_)
          refine mid 0 (Or.inl rfl) (fun hn1 hfx => Or.inl ⟨rfl, fun x hx1 => ?_⟩)
          rcases hfl hn1 hfx with ⟨_, q⟩ | ⟨q, _⟩
          · by_cases hxe : x = e
            · rw [hxe]; exact h3
            · rw [hg1, z_up_ne _ _ hxe]; exact q x hx1
          · omega
        · repeat (refine zw_ne 56 rfl ?_; first | refine zw_t rfl rfl ?_ | refine zw_jump rfl rfl ?_ | refine zw_getI rfl rfl (by assumption) ?_ | refine zw_ialn rfl (by assumption) (by omega) ?_ | refine zw_laln rfl (by assumption) (by omega) ?_ | refine zw_iastn rfl (by omega) (by assumption) (by omega) ?_ | refine zw_lastn rfl (by assumption) (by omega) ?_ | refine zw_iald0 rfl (by assumption) (by omega) ?_ | refine zw_lald0 rfl (by assumption) (by omega) ?_ | refine zw_aaln rfl (by assumption) rfl (by omega) ?_ | refine zw_getR rfl (by assumption) (by assumption) ?_ | refine zw_alen rfl (by assumption) rfl ?_ | refine zw_iald rfl (by assumption) (by omega) (by omega) ?_ | refine zw_iast rfl (by omega) (by assumption) (by omega) (by omega) ?_ | refine zw_putI rfl (by assumption) ?_ | refine zw_lald rfl (by assumption) (by omega) (by omega) ?_ | refine zw_last rfl (by assumption) (by omega) (by omega) ?_ | refine zw_iadd rfl (by omega) (by omega) ?_ | refine zw_isub rfl (by omega) (by omega) ?_ | refine zw_iinc rfl rfl rfl (by omega) (by omega) ?_ | refine zw_imul rfl (by omega) (by omega) ?_)
          exact mid 1 (Or.inr rfl) (fun hn1 hfx => Or.inr ⟨rfl, e, by omega, h3⟩)
  refine ze_M_counts ?_
  repeat (refine zw_ne 5 rfl ?_; first | refine zw_t rfl rfl ?_ | refine zw_jump rfl rfl ?_ | refine zw_getI rfl rfl (by assumption) ?_ | refine zw_ialn rfl (by assumption) (by omega) ?_ | refine zw_laln rfl (by assumption) (by omega) ?_ | refine zw_iastn rfl (by omega) (by assumption) (by omega) ?_ | refine zw_lastn rfl (by assumption) (by omega) ?_ | refine zw_iald0 rfl (by assumption) (by omega) ?_ | refine zw_lald0 rfl (by assumption) (by omega) ?_ | refine zw_aaln rfl (by assumption) rfl (by omega) ?_ | refine zw_getR rfl (by assumption) (by assumption) ?_ | refine zw_alen rfl (by assumption) rfl ?_ | refine zw_iald rfl (by assumption) (by omega) (by omega) ?_ | refine zw_iast rfl (by omega) (by assumption) (by omega) (by omega) ?_ | refine zw_putI rfl (by assumption) ?_ | refine zw_lald rfl (by assumption) (by omega) (by omega) ?_ | refine zw_last rfl (by assumption) (by omega) (by omega) ?_ | refine zw_iadd rfl (by omega) (by omega) ?_ | refine zw_isub rfl (by omega) (by omega) ?_ | refine zw_iinc rfl rfl rfl (by omega) (by omega) ?_ | refine zw_imul rfl (by omega) (by omega) ?_)
  have := loop c 0 0 f none (by omega) (Or.inl rfl) (by funext x; show f x = f x + n * 0; omega) (fun _ hfx => Or.inl ⟨rfl, hfx⟩)
  rw [← hf, z_up_self] at this
  exact this
theorem c_mclear (hk : ZMk k) (K : ∀ (F' I' : Nat → Nat → Int), ZSf F I F' I' → F' 79 8 = 1 → F' 79 9 = F 79 9 → F' 79 16 = 0 → I' 86 0 = 0 → (∀ x, x ≤ 1000 → I' 87 x = 0) → (∀ x, 1000 < x → I' 87 x = I 87 x) → Q none (k, F', I', L, R)) : ZC (d + 1) 189 [.inr (.inr (some 79))] (k, F, I, L, R) Q := by
  obtain ⟨⟨hT, g1, g2, g3, g4, g5, g6, g7⟩, ⟨g10, _⟩, ⟨t80, t81, t82, t83, t84, t85, t86⟩, ⟨t87, _⟩⟩ := hk
  have loop : ∀ (m i : Nat) (f : Nat → Int), m + i = 1001 → (∀ j, j < i → f j = 0) → (∀ j, i ≤ j → f j = I 87 j) → ZW d 189 2 [some (.inr (.inr (some 79))), some (.inl (i : Int))] [] (k, F, z_up I 87 f, L, R) Q := by
    intro m
    induction m with
    | zero =>
      intro i f hi h1 h2
      repeat (first | refine zw_t rfl rfl ?_ | refine zw_jump rfl rfl ?_ | refine zw_getI rfl rfl (by assumption) ?_ | refine zw_ialn rfl (by assumption) (by omega) ?_ | refine zw_laln rfl (by assumption) (by omega) ?_ | refine zw_iastn rfl (by omega) (by assumption) (by omega) ?_ | refine zw_lastn rfl (by assumption) (by omega) ?_ | refine zw_iald0 rfl (by assumption) (by omega) ?_ | refine zw_lald0 rfl (by assumption) (by omega) ?_ | refine zw_aaln rfl (by assumption) rfl (by omega) ?_ | refine zw_getR rfl (by assumption) (by assumption) ?_ | refine zw_alen rfl (by assumption) rfl ?_ | refine zw_iald rfl (by assumption) (by omega) (by omega) ?_ | refine zw_iast rfl (by omega) (by assumption) (by omega) (by omega) ?_ | refine zw_putI rfl (by assumption) ?_ | refine zw_lald rfl (by assumption) (by omega) (by omega) ?_ | refine zw_last rfl (by assumption) (by omega) (by omega) ?_ | refine zw_iadd rfl (by omega) (by omega) ?_ | refine zw_isub rfl (by omega) (by omega) ?_ | refine zw_iinc rfl rfl rfl (by omega) (by omega) ?_ | refine zw_imul rfl (by omega) (by omega) ?_)
      refine zw_icmp_gt_t rfl (by omega) ?_
      repeat (first | refine zw_t rfl rfl ?_ | refine zw_jump rfl rfl ?_ | refine zw_getI rfl rfl (by assumption) ?_ | refine zw_ialn rfl (by assumption) (by omega) ?_ | refine zw_laln rfl (by assumption) (by omega) ?_ | refine zw_iastn rfl (by omega) (by assumption) (by omega) ?_ | refine zw_lastn rfl (by assumption) (by omega) ?_ | refine zw_iald0 rfl (by assumption) (by omega) ?_ | refine zw_lald0 rfl (by assumption) (by omega) ?_ | refine zw_aaln rfl (by assumption) rfl (by omega) ?_ | refine zw_getR rfl (by assumption) (by assumption) ?_ | refine zw_alen rfl (by assumption) rfl ?_ | refine zw_iald rfl (by assumption) (by omega) (by omega) ?_ | refine zw_iast rfl (by omega) (by assumption) (by omega) (by omega) ?_ | refine zw_putI rfl (by assumption) ?_ | refine zw_lald rfl (by assumption) (by omega) (by omega) ?_ | refine zw_last rfl (by assumption) (by omega) (by omega) ?_ | refine zw_iadd rfl (by omega) (by omega) ?_ | refine zw_isub rfl (by omega) (by omega) ?_ | refine zw_iinc rfl rfl rfl (by omega) (by omega) ?_ | refine zw_imul rfl (by omega) (by omega) ?_)
      refine zw_vret rfl (K _ _ ((((ZSf.refl F I).row 87 f (by omega)).fld 8 1 (by omega)).fld 16 0 (by omega) |>.cell 0 0) ?_ ?_ ?_ ?_ ?_ ?_)
      · rw [z_u2_nk _ _ _ _ (by omega), z_u2_same]
      · rw [z_u2_nk _ _ _ _ (by omega), z_u2_nk _ _ _ _ (by omega)]
      · rw [z_u2_same]
      · exact z_u2_same _ _ _ _
      · intro x hx; rw [z_u2_ad _ _ _ (by omega), z_up_same]; exact h1 x (by omega)
      · intro x hx; rw [z_u2_ad _ _ _ (by omega), z_up_same]; exact h2 x (by omega)
    | succ m ih =>
      intro i f hi h1 h2
      repeat (first | refine zw_t rfl rfl ?_ | refine zw_jump rfl rfl ?_ | refine zw_getI rfl rfl (by assumption) ?_ | refine zw_ialn rfl (by assumption) (by omega) ?_ | refine zw_laln rfl (by assumption) (by omega) ?_ | refine zw_iastn rfl (by omega) (by assumption) (by omega) ?_ | refine zw_lastn rfl (by assumption) (by omega) ?_ | refine zw_iald0 rfl (by assumption) (by omega) ?_ | refine zw_lald0 rfl (by assumption) (by omega) ?_ | refine zw_aaln rfl (by assumption) rfl (by omega) ?_ | refine zw_getR rfl (by assumption) (by assumption) ?_ | refine zw_alen rfl (by assumption) rfl ?_ | refine zw_iald rfl (by assumption) (by omega) (by omega) ?_ | refine zw_iast rfl (by omega) (by assumption) (by omega) (by omega) ?_ | refine zw_putI rfl (by assumption) ?_ | refine zw_lald rfl (by assumption) (by omega) (by omega) ?_ | refine zw_last rfl (by assumption) (by omega) (by omega) ?_ | refine zw_iadd rfl (by omega) (by omega) ?_ | refine zw_isub rfl (by omega) (by omega) ?_ | refine zw_iinc rfl rfl rfl (by omega) (by omega) ?_ | refine zw_imul rfl (by omega) (by omega) ?_)
      refine zw_icmp_gt_f rfl (by omega) ?_
      repeat (first | refine zw_t rfl rfl ?_ | refine zw_jump rfl rfl ?_ | refine zw_getI rfl rfl (by assumption) ?_ | refine zw_ialn rfl (by assumption) (by omega) ?_ | refine zw_laln rfl (by assumption) (by omega) ?_ | refine zw_iastn rfl (by omega) (by assumption) (by omega) ?_ | refine zw_lastn rfl (by assumption) (by omega) ?_ | refine zw_iald0 rfl (by assumption) (by omega) ?_ | refine zw_lald0 rfl (by assumption) (by omega) ?_ | refine zw_aaln rfl (by assumption) rfl (by omega) ?_ | refine zw_getR rfl (by assumption) (by assumption) ?_ | refine zw_alen rfl (by assumption) rfl ?_ | refine zw_iald rfl (by assumption) (by omega) (by omega) ?_ | refine zw_iast rfl (by omega) (by assumption) (by omega) (by omega) ?_ | refine zw_putI rfl (by assumption) ?_ | refine zw_lald rfl (by assumption) (by omega) (by omega) ?_ | refine zw_last rfl (by assumption) (by omega) (by omega) ?_ | refine zw_iadd rfl (by omega) (by omega) ?_ | refine zw_isub rfl (by omega) (by omega) ?_ | refine zw_iinc rfl rfl rfl (by omega) (by omega) ?_ | refine zw_imul rfl (by omega) (by omega) ?_)
      rw [z_u2_up]
      refine zw_goto rfl ?_
      refine ih (i + 1) _ (by omega) (fun j hj => ?_) (fun j hj => ?_)
      · rw [z_up_val]
        by_cases hji : j = i
        · rw [if_pos hji]
        · rw [if_neg hji]; exact h1 j (by omega)
      · rw [z_up_ne _ _ (by omega)]; exact h2 j (by omega)
  refine ze_M_clear ?_
  repeat (refine zw_ne 2 rfl ?_; first | refine zw_t rfl rfl ?_ | refine zw_jump rfl rfl ?_ | refine zw_getI rfl rfl (by assumption) ?_ | refine zw_ialn rfl (by assumption) (by omega) ?_ | refine zw_laln rfl (by assumption) (by omega) ?_ | refine zw_iastn rfl (by omega) (by assumption) (by omega) ?_ | refine zw_lastn rfl (by assumption) (by omega) ?_ | refine zw_iald0 rfl (by assumption) (by omega) ?_ | refine zw_lald0 rfl (by assumption) (by omega) ?_ | refine zw_aaln rfl (by assumption) rfl (by omega) ?_ | refine zw_getR rfl (by assumption) (by assumption) ?_ | refine zw_alen rfl (by assumption) rfl ?_ | refine zw_iald rfl (by assumption) (by omega) (by omega) ?_ | refine zw_iast rfl (by omega) (by assumption) (by omega) (by omega) ?_ | refine zw_putI rfl (by assumption) ?_ | refine zw_lald rfl (by assumption) (by omega) (by omega) ?_ | refine zw_last rfl (by assumption) (by omega) (by omega) ?_ | refine zw_iadd rfl (by omega) (by omega) ?_ | refine zw_isub rfl (by omega) (by omega) ?_ | refine zw_iinc rfl rfl rfl (by omega) (by omega) ?_ | refine zw_imul rfl (by omega) (by omega) ?_)
  have := loop 1001 0 (I 87) (by omega) (fun j hj => by omega) (fun j _ => rfl)
  rw [z_up_self] at this
  exact this
theorem c_mtells {own : Bool} {mask : Nat} {l : List Nat} {ask : Int} (hk : ZMk k) (hc : F 79 8 = (c : Int)) (hc0 : 0 < c) (hw : ZAgr (I 86) w c) (hm : ZMR mask w c) (hrow : ZRow w c rd) (hrd : (F 79 19 = 2 ∧ F 79 15 = rd) ∨ (F 79 19 ≠ 2 ∧ rd = 0)) (hask : F 79 17 = ask) (hac : ZAc F I ask l) (hlen : l.length < 100000)
    (hown : ∀ (g : Nat → Int) (b : Int), ZForm w c rd g → ((b = 1 ∧ ZAgr g w c) ∨ (b = 0 ∧ ¬ ZAgr g w c)) → b = z_int own)
    (K : ∀ F' I', ZSf F I F' I' → F' 79 8 = (c : Int) → ZAgr (I' 86) w c → I' 87 = I 87 → ZAc F' I' ask (l ++ (bif own then [mask] else [])) → Q none (k, F', I', L, R)) : ZC (d + 4) 191 [.inr (.inr (some 79))] (k, F, I, L, R) Q := by
  have hk0 := hk
  obtain ⟨⟨hT, g1, g2, g3, g4, g5, g6, g7⟩, ⟨g10, g11, g12, g13, g20, g22, g25, g26⟩, ⟨t80, t81, t82, t83, t84, t85, t86⟩, ⟨t87, t88, t89, t90, t91, t92, t93, t94⟩⟩ := hk
  have hc24 := hrow.1
  have go : ZW (d + 3) 191 34 [some (.inr (.inr (some 79))), some (.inl (c : Int)), none] [.inl rd, .inr (.inr (some 79))] (k, F, z_up I 92 (z_cpf c (I 86) (I 92)), L, R) Q := by
    obtain ⟨I1, hI1⟩ : ∃ I1, I1 = z_up I 92 (z_cpf c (I 86) (I 92)) := ⟨_, rfl⟩
    rw [← hI1]
    have s1 : ZSf F I (z_u2 F 79 9 rd) I1 := by rw [hI1]; exact ((ZSf.refl F I).row 92 _ (by omega)).fld 9 _ (by omega)
    have e92 : ZAgr (I1 92) w c := by rw [hI1, z_up_same]; exact z_cpf_agr.trans hw
    have hw1 : ZWk (z_u2 F 79 9 rd) I1 c rd w := ⟨by rw [z_u2_nk _ _ _ _ (by omega)]; exact hc, z_u2_same _ _ _ _, by rw [hI1, z_up_ne _ _ (by omega)]; exact hw⟩
    repeat (first | refine zw_t rfl rfl ?_ | refine zw_jump rfl rfl ?_ | refine zw_getI rfl rfl (by assumption) ?_ | refine zw_ialn rfl (by assumption) (by omega) ?_ | refine zw_laln rfl (by assumption) (by omega) ?_ | refine zw_iastn rfl (by omega) (by assumption) (by omega) ?_ | refine zw_lastn rfl (by assumption) (by omega) ?_ | refine zw_iald0 rfl (by assumption) (by omega) ?_ | refine zw_lald0 rfl (by assumption) (by omega) ?_ | refine zw_aaln rfl (by assumption) rfl (by omega) ?_ | refine zw_getR rfl (by assumption) (by assumption) ?_ | refine zw_alen rfl (by assumption) rfl ?_ | refine zw_iald rfl (by assumption) (by omega) (by omega) ?_ | refine zw_iast rfl (by omega) (by assumption) (by omega) (by omega) ?_ | refine zw_putI rfl (by assumption) ?_ | refine zw_lald rfl (by assumption) (by omega) (by omega) ?_ | refine zw_last rfl (by assumption) (by omega) (by omega) ?_ | refine zw_iadd rfl (by omega) (by omega) ?_ | refine zw_isub rfl (by omega) (by omega) ?_ | refine zw_iinc rfl rfl rfl (by omega) (by omega) ?_ | refine zw_imul rfl (by omega) (by omega) ?_)
    refine zw_callv rfl rfl rfl rfl rfl rfl (by assumption) ?_
    refine c_mformOf hk0 hw1 hrow hc0 (fun I2 g b hfr hfo hw2 hb => ?_)
    have hb1 := hown g b hfo hb
    have s2 : ZSf F I (z_u2 F 79 9 rd) I2 := s1.trans ⟨fun _ _ _ => rfl, fun a q1 q2 q3 q4 q5 q6 => hfr a q1 q3 q4⟩
    repeat (first | refine zw_t rfl rfl ?_ | refine zw_jump rfl rfl ?_ | refine zw_getI rfl rfl (by assumption) ?_ | refine zw_ialn rfl (by assumption) (by omega) ?_ | refine zw_laln rfl (by assumption) (by omega) ?_ | refine zw_iastn rfl (by omega) (by assumption) (by omega) ?_ | refine zw_lastn rfl (by assumption) (by omega) ?_ | refine zw_iald0 rfl (by assumption) (by omega) ?_ | refine zw_lald0 rfl (by assumption) (by omega) ?_ | refine zw_aaln rfl (by assumption) rfl (by omega) ?_ | refine zw_getR rfl (by assumption) (by assumption) ?_ | refine zw_alen rfl (by assumption) rfl ?_ | refine zw_iald rfl (by assumption) (by omega) (by omega) ?_ | refine zw_iast rfl (by omega) (by assumption) (by omega) (by omega) ?_ | refine zw_putI rfl (by assumption) ?_ | refine zw_lald rfl (by assumption) (by omega) (by omega) ?_ | refine zw_last rfl (by assumption) (by omega) (by omega) ?_ | refine zw_iadd rfl (by omega) (by omega) ?_ | refine zw_isub rfl (by omega) (by omega) ?_ | refine zw_iinc rfl rfl rfl (by omega) (by omega) ?_ | refine zw_imul rfl (by omega) (by omega) ?_)
    obtain ⟨F3, hF3⟩ : ∃ F3, F3 = z_u2 (z_u2 (z_u2 F 79 9 rd) 79 9 0) 79 8 (c : Int) := ⟨_, rfl⟩
    rw [← hF3]
    have f8 : F3 79 8 = (c : Int) := by rw [hF3, z_u2_same]
    have f16 : F3 79 16 = F 79 16 := by rw [hF3, z_u2_nk _ _ _ _ (by omega), z_u2_nk _ _ _ _ (by omega), z_u2_nk _ _ _ _ (by omega)]
    have f17 : F3 79 17 = F 79 17 := by rw [hF3, z_u2_nk _ _ _ _ (by omega), z_u2_nk _ _ _ _ (by omega), z_u2_nk _ _ _ _ (by omega)]
    have f21 : F3 79 21 = F 79 21 := by rw [hF3, z_u2_nk _ _ _ _ (by omega), z_u2_nk _ _ _ _ (by omega), z_u2_nk _ _ _ _ (by omega)]
    have s3 : ZSf F I F3 I2 := by rw [hF3]; exact (s2.fld 9 0 (by omega)).fld 8 _ (by omega)
    refine zw_callv rfl rfl rfl rfl rfl rfl (by assumption) ?_
    refine ZC.le (show d + 1 ≤ _ by omega) ?_
    refine c_mcopy hk0 f8 (by omega) t92 t86 (by omega) (by omega) ?_
    obtain ⟨I3, hI3⟩ : ∃ I3, I3 = z_up I2 86 (z_cpf c (I2 92) (I2 86)) := ⟨_, rfl⟩
    rw [← hI3]
    have e86 : ZAgr (I3 86) w c := by
      rw [hI3, z_up_same]
      refine z_cpf_agr.trans ?_
      rw [hfr 92 (by omega) (by omega) (by omega)]
      exact e92
    have e87 : I3 87 = I 87 := by rw [hI3, z_up_ne _ _ (by omega), hfr 87 (by omega) (by omega) (by omega), hI1, z_up_ne _ _ (by omega)]
    have e91 : I3 91 = I 91 := by rw [hI3, z_up_ne _ _ (by omega), hfr 91 (by omega) (by omega) (by omega), hI1, z_up_ne _ _ (by omega)]
    have s4 : ZSf F I F3 I3 := by rw [hI3]; exact s3.row 86 _ (by omega)
    cases own with
    | false =>
      rw [cond_false, List.append_nil] at K
      have hb0 : b = 0 := hb1
      repeat (first | refine zw_t rfl rfl ?_ | refine zw_jump rfl rfl ?_ | refine zw_getI rfl rfl (by assumption) ?_ | refine zw_ialn rfl (by assumption) (by omega) ?_ | refine zw_laln rfl (by assumption) (by omega) ?_ | refine zw_iastn rfl (by omega) (by assumption) (by omega) ?_ | refine zw_lastn rfl (by assumption) (by omega) ?_ | refine zw_iald0 rfl (by assumption) (by omega) ?_ | refine zw_lald0 rfl (by assumption) (by omega) ?_ | refine zw_aaln rfl (by assumption) rfl (by omega) ?_ | refine zw_getR rfl (by assumption) (by assumption) ?_ | refine zw_alen rfl (by assumption) rfl ?_ | refine zw_iald rfl (by assumption) (by omega) (by omega) ?_ | refine zw_iast rfl (by omega) (by assumption) (by omega) (by omega) ?_ | refine zw_putI rfl (by assumption) ?_ | refine zw_lald rfl (by assumption) (by omega) (by omega) ?_ | refine zw_last rfl (by assumption) (by omega) (by omega) ?_ | refine zw_iadd rfl (by omega) (by omega) ?_ | refine zw_isub rfl (by omega) (by omega) ?_ | refine zw_iinc rfl rfl rfl (by omega) (by omega) ?_ | refine zw_imul rfl (by omega) (by omega) ?_)
      refine zw_if_ne_f rfl hb0 ?_
      repeat (first | refine zw_t rfl rfl ?_ | refine zw_jump rfl rfl ?_ | refine zw_getI rfl rfl (by assumption) ?_ | refine zw_ialn rfl (by assumption) (by omega) ?_ | refine zw_laln rfl (by assumption) (by omega) ?_ | refine zw_iastn rfl (by omega) (by assumption) (by omega) ?_ | refine zw_lastn rfl (by assumption) (by omega) ?_ | refine zw_iald0 rfl (by assumption) (by omega) ?_ | refine zw_lald0 rfl (by assumption) (by omega) ?_ | refine zw_aaln rfl (by assumption) rfl (by omega) ?_ | refine zw_getR rfl (by assumption) (by assumption) ?_ | refine zw_alen rfl (by assumption) rfl ?_ | refine zw_iald rfl (by assumption) (by omega) (by omega) ?_ | refine zw_iast rfl (by omega) (by assumption) (by omega) (by omega) ?_ | refine zw_putI rfl (by assumption) ?_ | refine zw_lald rfl (by assumption) (by omega) (by omega) ?_ | refine zw_last rfl (by assumption) (by omega) (by omega) ?_ | refine zw_iadd rfl (by omega) (by omega) ?_ | refine zw_isub rfl (by omega) (by omega) ?_ | refine zw_iinc rfl rfl rfl (by omega) (by omega) ?_ | refine zw_imul rfl (by omega) (by omega) ?_)
      exact zw_vret rfl (K F3 I3 s4 f8 e86 e87 (hac.fr f16 f21 e91))
    | true =>
      rw [cond_true] at K
      have hb0 : b = 1 := hb1
      have c16 := hac.1
      repeat (first | refine zw_t rfl rfl ?_ | refine zw_jump rfl rfl ?_ | refine zw_getI rfl rfl (by assumption) ?_ | refine zw_ialn rfl (by assumption) (by omega) ?_ | refine zw_laln rfl (by assumption) (by omega) ?_ | refine zw_iastn rfl (by omega) (by assumption) (by omega) ?_ | refine zw_lastn rfl (by assumption) (by omega) ?_ | refine zw_iald0 rfl (by assumption) (by omega) ?_ | refine zw_lald0 rfl (by assumption) (by omega) ?_ | refine zw_aaln rfl (by assumption) rfl (by omega) ?_ | refine zw_getR rfl (by assumption) (by assumption) ?_ | refine zw_alen rfl (by assumption) rfl ?_ | refine zw_iald rfl (by assumption) (by omega) (by omega) ?_ | refine zw_iast rfl (by omega) (by assumption) (by omega) (by omega) ?_ | refine zw_putI rfl (by assumption) ?_ | refine zw_lald rfl (by assumption) (by omega) (by omega) ?_ | refine zw_last rfl (by assumption) (by omega) (by omega) ?_ | refine zw_iadd rfl (by omega) (by omega) ?_ | refine zw_isub rfl (by omega) (by omega) ?_ | refine zw_iinc rfl rfl rfl (by omega) (by omega) ?_ | refine zw_imul rfl (by omega) (by omega) ?_)
      refine zw_if_ne_t rfl (by omega) ?_
      repeat (first | refine zw_t rfl rfl ?_ | refine zw_jump rfl rfl ?_ | refine zw_getI rfl rfl (by assumption) ?_ | refine zw_ialn rfl (by assumption) (by omega) ?_ | refine zw_laln rfl (by assumption) (by omega) ?_ | refine zw_iastn rfl (by omega) (by assumption) (by omega) ?_ | refine zw_lastn rfl (by assumption) (by omega) ?_ | refine zw_iald0 rfl (by assumption) (by omega) ?_ | refine zw_lald0 rfl (by assumption) (by omega) ?_ | refine zw_aaln rfl (by assumption) rfl (by omega) ?_ | refine zw_getR rfl (by assumption) (by assumption) ?_ | refine zw_alen rfl (by assumption) rfl ?_ | refine zw_iald rfl (by assumption) (by omega) (by omega) ?_ | refine zw_iast rfl (by omega) (by assumption) (by omega) (by omega) ?_ | refine zw_putI rfl (by assumption) ?_ | refine zw_lald rfl (by assumption) (by omega) (by omega) ?_ | refine zw_last rfl (by assumption) (by omega) (by omega) ?_ | refine zw_iadd rfl (by omega) (by omega) ?_ | refine zw_isub rfl (by omega) (by omega) ?_ | refine zw_iinc rfl rfl rfl (by omega) (by omega) ?_ | refine zw_imul rfl (by omega) (by omega) ?_)
      rw [f16, f17, c16, hask]
      refine zw_icmp_ne rfl (fun h1 => ?_) (fun h1 => ?_)
      · repeat (first | refine zw_t rfl rfl ?_ | refine zw_jump rfl rfl ?_ | refine zw_getI rfl rfl (by assumption) ?_ | refine zw_ialn rfl (by assumption) (by omega) ?_ | refine zw_laln rfl (by assumption) (by omega) ?_ | refine zw_iastn rfl (by omega) (by assumption) (by omega) ?_ | refine zw_lastn rfl (by assumption) (by omega) ?_ | refine zw_iald0 rfl (by assumption) (by omega) ?_ | refine zw_lald0 rfl (by assumption) (by omega) ?_ | refine zw_aaln rfl (by assumption) rfl (by omega) ?_ | refine zw_getR rfl (by assumption) (by assumption) ?_ | refine zw_alen rfl (by assumption) rfl ?_ | refine zw_iald rfl (by assumption) (by omega) (by omega) ?_ | refine zw_iast rfl (by omega) (by assumption) (by omega) (by omega) ?_ | refine zw_putI rfl (by assumption) ?_ | refine zw_lald rfl (by assumption) (by omega) (by omega) ?_ | refine zw_last rfl (by assumption) (by omega) (by omega) ?_ | refine zw_iadd rfl (by omega) (by omega) ?_ | refine zw_isub rfl (by omega) (by omega) ?_ | refine zw_iinc rfl rfl rfl (by omega) (by omega) ?_ | refine zw_imul rfl (by omega) (by omega) ?_)
        refine zw_vret rfl (K _ I3 (s4.fld 16 _ (by omega)) (by rw [z_u2_nk _ _ _ _ (by omega)]; exact f8) e86 e87 ⟨?_, fun a1 a2 => ?_⟩)
        · rw [z_u2_same, f16, c16, List.length_append, List.length_singleton]; omega
        · rw [List.length_append, List.length_singleton] at a2
          obtain ⟨c', x1, x2, x3⟩ := hac.2 a1 (by omega)
          refine ⟨c', by rw [z_u2_nk _ _ _ _ (by omega), f21]; exact x1, x2, ?_⟩
          rw [e91, show (l ++ [mask]).getD ask.toNat 0 = l.getD ask.toNat 0 by
            rw [List.getD_eq_getElem?_getD, List.getD_eq_getElem?_getD, List.getElem?_append_left (by omega)]]
          exact x3
      · repeat (first | refine zw_t rfl rfl ?_ | refine zw_jump rfl rfl ?_ | refine zw_getI rfl rfl (by assumption) ?_ | refine zw_ialn rfl (by assumption) (by omega) ?_ | refine zw_laln rfl (by assumption) (by omega) ?_ | refine zw_iastn rfl (by omega) (by assumption) (by omega) ?_ | refine zw_lastn rfl (by assumption) (by omega) ?_ | refine zw_iald0 rfl (by assumption) (by omega) ?_ | refine zw_lald0 rfl (by assumption) (by omega) ?_ | refine zw_aaln rfl (by assumption) rfl (by omega) ?_ | refine zw_getR rfl (by assumption) (by assumption) ?_ | refine zw_alen rfl (by assumption) rfl ?_ | refine zw_iald rfl (by assumption) (by omega) (by omega) ?_ | refine zw_iast rfl (by omega) (by assumption) (by omega) (by omega) ?_ | refine zw_putI rfl (by assumption) ?_ | refine zw_lald rfl (by assumption) (by omega) (by omega) ?_ | refine zw_last rfl (by assumption) (by omega) (by omega) ?_ | refine zw_iadd rfl (by omega) (by omega) ?_ | refine zw_isub rfl (by omega) (by omega) ?_ | refine zw_iinc rfl rfl rfl (by omega) (by omega) ?_ | refine zw_imul rfl (by omega) (by omega) ?_)
        refine zw_callv rfl rfl rfl rfl rfl rfl (by assumption) ?_
        refine ZC.le (show d + 1 ≤ _ by omega) ?_
        refine c_mcopy hk0 (c := c) (by rw [z_u2_nk _ _ _ _ (by omega)]; exact f8) (by omega) t86 t91 (by omega) (by omega) ?_
        repeat (first | refine zw_t rfl rfl ?_ | refine zw_jump rfl rfl ?_ | refine zw_getI rfl rfl (by assumption) ?_ | refine zw_ialn rfl (by assumption) (by omega) ?_ | refine zw_laln rfl (by assumption) (by omega) ?_ | refine zw_iastn rfl (by omega) (by assumption) (by omega) ?_ | refine zw_lastn rfl (by assumption) (by omega) ?_ | refine zw_iald0 rfl (by assumption) (by omega) ?_ | refine zw_lald0 rfl (by assumption) (by omega) ?_ | refine zw_aaln rfl (by assumption) rfl (by omega) ?_ | refine zw_getR rfl (by assumption) (by assumption) ?_ | refine zw_alen rfl (by assumption) rfl ?_ | refine zw_iald rfl (by assumption) (by omega) (by omega) ?_ | refine zw_iast rfl (by omega) (by assumption) (by omega) (by omega) ?_ | refine zw_putI rfl (by assumption) ?_ | refine zw_lald rfl (by assumption) (by omega) (by omega) ?_ | refine zw_last rfl (by assumption) (by omega) (by omega) ?_ | refine zw_iadd rfl (by omega) (by omega) ?_ | refine zw_isub rfl (by omega) (by omega) ?_ | refine zw_iinc rfl rfl rfl (by omega) (by omega) ?_ | refine zw_imul rfl (by omega) (by omega) ?_)
        rw [z_u2_nk _ _ _ _ (show (16 : Nat) ≠ 21 by omega), f16, c16]
        refine zw_iadd rfl (by omega) (by omega) ?_
        repeat (first | refine zw_t rfl rfl ?_ | refine zw_jump rfl rfl ?_ | refine zw_getI rfl rfl (by assumption) ?_ | refine zw_ialn rfl (by assumption) (by omega) ?_ | refine zw_laln rfl (by assumption) (by omega) ?_ | refine zw_iastn rfl (by omega) (by assumption) (by omega) ?_ | refine zw_lastn rfl (by assumption) (by omega) ?_ | refine zw_iald0 rfl (by assumption) (by omega) ?_ | refine zw_lald0 rfl (by assumption) (by omega) ?_ | refine zw_aaln rfl (by assumption) rfl (by omega) ?_ | refine zw_getR rfl (by assumption) (by assumption) ?_ | refine zw_alen rfl (by assumption) rfl ?_ | refine zw_iald rfl (by assumption) (by omega) (by omega) ?_ | refine zw_iast rfl (by omega) (by assumption) (by omega) (by omega) ?_ | refine zw_putI rfl (by assumption) ?_ | refine zw_lald rfl (by assumption) (by omega) (by omega) ?_ | refine zw_last rfl (by assumption) (by omega) (by omega) ?_ | refine zw_iadd rfl (by omega) (by omega) ?_ | refine zw_isub rfl (by omega) (by omega) ?_ | refine zw_iinc rfl rfl rfl (by omega) (by omega) ?_ | refine zw_imul rfl (by omega) (by omega) ?_)
        refine zw_vret rfl (K _ _ (((s4.fld 21 _ (by omega)).row 91 _ (by omega)).fld 16 _ (by omega)) ?_ ?_ ?_ ⟨?_, fun a1 a2 => ⟨c, ?_, by omega, ?_⟩⟩)
        · rw [z_u2_nk _ _ _ _ (by omega), z_u2_nk _ _ _ _ (by omega)]; exact f8
        · rw [z_up_ne _ _ (by omega)]; exact e86
        · rw [z_up_ne _ _ (by omega)]; exact e87
        · rw [z_u2_same, List.length_append, List.length_singleton]; omega
        · rw [z_u2_nk _ _ _ _ (by omega), z_u2_same]; exact f8
        · rw [z_up_same, show (l ++ [mask]).getD ask.toNat 0 = mask by
            rw [List.getD_eq_getElem?_getD, show ask.toNat = l.length by omega, List.getElem?_append_right (Nat.le_refl _), Nat.sub_self]; rfl]
          exact hm.cong (z_cpf_agr.trans e86).symm
  refine ze_M_tells ?_
  repeat (first | refine zw_t rfl rfl ?_ | refine zw_jump rfl rfl ?_ | refine zw_getI rfl rfl (by assumption) ?_ | refine zw_ialn rfl (by assumption) (by omega) ?_ | refine zw_laln rfl (by assumption) (by omega) ?_ | refine zw_iastn rfl (by omega) (by assumption) (by omega) ?_ | refine zw_lastn rfl (by assumption) (by omega) ?_ | refine zw_iald0 rfl (by assumption) (by omega) ?_ | refine zw_lald0 rfl (by assumption) (by omega) ?_ | refine zw_aaln rfl (by assumption) rfl (by omega) ?_ | refine zw_getR rfl (by assumption) (by assumption) ?_ | refine zw_alen rfl (by assumption) rfl ?_ | refine zw_iald rfl (by assumption) (by omega) (by omega) ?_ | refine zw_iast rfl (by omega) (by assumption) (by omega) (by omega) ?_ | refine zw_putI rfl (by assumption) ?_ | refine zw_lald rfl (by assumption) (by omega) (by omega) ?_ | refine zw_last rfl (by assumption) (by omega) (by omega) ?_ | refine zw_iadd rfl (by omega) (by omega) ?_ | refine zw_isub rfl (by omega) (by omega) ?_ | refine zw_iinc rfl rfl rfl (by omega) (by omega) ?_ | refine zw_imul rfl (by omega) (by omega) ?_)
  refine zw_callv rfl rfl rfl rfl rfl rfl (by assumption) ?_
  refine ZC.le (show d + 1 ≤ _ by omega) ?_
  refine c_mcopy hk0 hc (by omega) t86 t92 (by omega) (by omega) ?_
  rw [hc]
  repeat (first | refine zw_t rfl rfl ?_ | refine zw_jump rfl rfl ?_ | refine zw_getI rfl rfl (by assumption) ?_ | refine zw_ialn rfl (by assumption) (by omega) ?_ | refine zw_laln rfl (by assumption) (by omega) ?_ | refine zw_iastn rfl (by omega) (by assumption) (by omega) ?_ | refine zw_lastn rfl (by assumption) (by omega) ?_ | refine zw_iald0 rfl (by assumption) (by omega) ?_ | refine zw_lald0 rfl (by assumption) (by omega) ?_ | refine zw_aaln rfl (by assumption) rfl (by omega) ?_ | refine zw_getR rfl (by assumption) (by assumption) ?_ | refine zw_alen rfl (by assumption) rfl ?_ | refine zw_iald rfl (by assumption) (by omega) (by omega) ?_ | refine zw_iast rfl (by omega) (by assumption) (by omega) (by omega) ?_ | refine zw_putI rfl (by assumption) ?_ | refine zw_lald rfl (by assumption) (by omega) (by omega) ?_ | refine zw_last rfl (by assumption) (by omega) (by omega) ?_ | refine zw_iadd rfl (by omega) (by omega) ?_ | refine zw_isub rfl (by omega) (by omega) ?_ | refine zw_iinc rfl rfl rfl (by omega) (by omega) ?_ | refine zw_imul rfl (by omega) (by omega) ?_)
  rcases hrd with ⟨m1, m2⟩ | ⟨m1, m2⟩
  · refine zw_icmp_ne_f rfl m1 ?_
    repeat (refine zw_ne 34 rfl ?_; first | refine zw_t rfl rfl ?_ | refine zw_jump rfl rfl ?_ | refine zw_getI rfl rfl (by assumption) ?_ | refine zw_ialn rfl (by assumption) (by omega) ?_ | refine zw_laln rfl (by assumption) (by omega) ?_ | refine zw_iastn rfl (by omega) (by assumption) (by omega) ?_ | refine zw_lastn rfl (by assumption) (by omega) ?_ | refine zw_iald0 rfl (by assumption) (by omega) ?_ | refine zw_lald0 rfl (by assumption) (by omega) ?_ | refine zw_aaln rfl (by assumption) rfl (by omega) ?_ | refine zw_getR rfl (by assumption) (by assumption) ?_ | refine zw_alen rfl (by assumption) rfl ?_ | refine zw_iald rfl (by assumption) (by omega) (by omega) ?_ | refine zw_iast rfl (by omega) (by assumption) (by omega) (by omega) ?_ | refine zw_putI rfl (by assumption) ?_ | refine zw_lald rfl (by assumption) (by omega) (by omega) ?_ | refine zw_last rfl (by assumption) (by omega) (by omega) ?_ | refine zw_iadd rfl (by omega) (by omega) ?_ | refine zw_isub rfl (by omega) (by omega) ?_ | refine zw_iinc rfl rfl rfl (by omega) (by omega) ?_ | refine zw_imul rfl (by omega) (by omega) ?_)
    rw [m2]
    exact go
  · refine zw_icmp_ne_t rfl m1 ?_
    repeat (refine zw_ne 34 rfl ?_; first | refine zw_t rfl rfl ?_ | refine zw_jump rfl rfl ?_ | refine zw_getI rfl rfl (by assumption) ?_ | refine zw_ialn rfl (by assumption) (by omega) ?_ | refine zw_laln rfl (by assumption) (by omega) ?_ | refine zw_iastn rfl (by omega) (by assumption) (by omega) ?_ | refine zw_lastn rfl (by assumption) (by omega) ?_ | refine zw_iald0 rfl (by assumption) (by omega) ?_ | refine zw_lald0 rfl (by assumption) (by omega) ?_ | refine zw_aaln rfl (by assumption) rfl (by omega) ?_ | refine zw_getR rfl (by assumption) (by assumption) ?_ | refine zw_alen rfl (by assumption) rfl ?_ | refine zw_iald rfl (by assumption) (by omega) (by omega) ?_ | refine zw_iast rfl (by omega) (by assumption) (by omega) (by omega) ?_ | refine zw_putI rfl (by assumption) ?_ | refine zw_lald rfl (by assumption) (by omega) (by omega) ?_ | refine zw_last rfl (by assumption) (by omega) (by omega) ?_ | refine zw_iadd rfl (by omega) (by omega) ?_ | refine zw_isub rfl (by omega) (by omega) ?_ | refine zw_iinc rfl rfl rfl (by omega) (by omega) ?_ | refine zw_imul rfl (by omega) (by omega) ?_)
    rw [m2] at go
    exact go
end ZRef12
