/-! THE REFERENCE'S SEARCHES: rings -/
/-- ahead is the mask, from the round's end on -/
def ZLa (n mask last ahead : Nat) : Prop := ∀ e, ahead.testBit e = (decide (n ≤ e + last) && mask.testBit (e + last - n))
theorem ZLa.less {n mask last ahead y : Nat} (h : ZLa n mask last ahead) (hy : last < y) (x : Nat) : (ahead >>> (y - last)).testBit x = (decide (n ≤ x + y) && mask.testBit (x + y - n)) := by
  rw [Nat.testBit_shiftRight, h, show y - last + x + last = x + y by omega]
theorem ZLa.add {n mask last ahead y : Nat} (h : ZLa n mask last ahead) (hy : last < y) : ZLa n (mask ||| 1 <<< y) y ((ahead >>> (y - last)) ||| 1 <<< n) := by
  intro e
  rw [Nat.testBit_or, h.less hy e, z_tb_one n e]
  by_cases he : e = n
  · subst he
    rw [decide_eq_true (show e = e from rfl), Bool.or_true, decide_eq_true (show e ≤ e + y by omega), Bool.true_and, show e + y - e = y by omega]
    exact (z_tb_ors mask y).symm
  · rw [decide_eq_false he, Bool.or_false]
    by_cases h2 : n ≤ e + y
    · rw [decide_eq_true h2, Bool.true_and, Bool.true_and]
      exact (z_tb_orn (show e + y - n ≠ y by omega)).symm
    · rw [decide_eq_false h2, Bool.false_and, Bool.false_and]
theorem ZLa.one {n : Nat} : ZLa n 1 0 (1 <<< n) := by
  intro e
  rw [z_tb_one]
  by_cases he : e = n
  · subst he
    rw [decide_eq_true (show e = e from rfl), decide_eq_true (show e ≤ e + 0 by omega), show e + 0 - e = 0 by omega]
    rfl
  · rw [decide_eq_false he]
    by_cases h2 : n ≤ e + 0
    · rw [z_tb_far (a := 1) (x := e + 0 - n) 1 (by decide) (by omega), Bool.and_false]
    · rw [decide_eq_false h2, Bool.false_and]
theorem z_cn_ring {mask last back ahead c y n : Nat} {w : Nat → Int} (h : ZLn mask last back) (ha : ZLa n mask last ahead) (hw : ZMR mask w c) (hy : last < y) (hn : 0 < n) (x : Nat) : z_cn w c (n : Int) (y : Int) x = z_fb (back <<< (y - last)) x + z_fb (ahead >>> (y - last)) x := by
  rw [← z_cn_bits h hw hy x]
  have e : z_cn w c (n : Int) (y : Int) x = zsf (fun i => z_e 0 ((y : Int) - w i) x + z_one ((n : Int) - ((y : Int) - w i)) x) 0 c := zsf_cong _ _ (fun i _ _ => by unfold z_e; rw [if_pos (show (0 : Int) < (n : Int) by omega), if_neg (show ¬ (0 : Int) < 0 by omega), Int.add_zero])
  rw [e, zsf_plus]
  obtain ⟨s1, s0⟩ := z_sum1 (g := fun i => (n : Int) - ((y : Int) - w i)) (x := x) c (fun a b h1 h2 q => by have := hw.1 a b h1 h2; omega)
  have e2 : zsf (fun i => z_one ((n : Int) - ((y : Int) - w i)) x) 0 c = z_fb (ahead >>> (y - last)) x := by
    unfold z_fb
    rw [ha.less hy x]
    by_cases q : ∃ i, i < c ∧ (n : Int) - ((y : Int) - w i) = (x : Int)
    · rw [s1 q]
      obtain ⟨i, hi, e⟩ := q
      obtain ⟨a1, a2⟩ := (hw.2 (w i)).1 ⟨i, hi, rfl⟩
      rw [if_pos]
      rw [decide_eq_true (show n ≤ x + y by omega), Bool.true_and, show x + y - n = (w i).toNat by omega]
      exact a2
    · rw [s0 q, if_neg]
      intro hb
      rw [Bool.and_eq_true, decide_eq_true_iff] at hb
      obtain ⟨i, hi, e⟩ := (hw.2 ((x + y - n : Nat) : Int)).2 ⟨by omega, by rw [Int.toNat_natCast]; exact hb.2⟩
      exact q ⟨i, hi, by rw [e]; omega⟩
  rw [e2]
  rfl
theorem z_fb_o2 {a b : Nat} (x : Nat) (h : a &&& b = 0) : z_fb (a ||| b) x = z_fb a x + z_fb b x := z_fb_or (by rw [Nat.and_comm]; exact h)
def ZNxR (k : ZK) (L : Nat → Nat → Int64) (R : Nat → Nat → Option Nat) (n : Nat) (ask : Int) (left D : Nat) : Prop := ∀ (a1 a2 : Int) (mask last back ahead meas c : Nat) (w f : Nat → Int) (F I : Nat → Nat → Int) (l : List Nat) (Q : Option ZV → ZH → Prop),
  F 79 14 = ((c + left : Nat) : Int) → F 79 15 = (n : Int) → F 79 17 = ask → F 79 19 = 2 → F 79 8 = (c : Int) → ZLn mask last back → ZLa n mask last ahead → ZMR mask w c → ZAgr (I 86) w c → I 87 = f → (∀ x, x ≤ 1000 → f x = z_fb meas x) → (∀ x, 1000 < x → meas.testBit x = false) → last < n → c + left ≤ 7 → ZAc F I ask l → l.length + (z_rs n (z_or n) left mask last back ahead meas).length ≤ 1000 →
  (∀ F' I', ZSf F I F' I' → F' 79 8 = (c : Int) → ZAgr (I' 86) w c → I' 87 = f → ZAc F' I' ask (l ++ z_rs n (z_or n) left mask last back ahead meas) → ZW D 206 75 [some (.inr (.inr (some 79))), some (.inl a1), some (.inl a2)] [] (k, F', I', L, R) Q) →
  ZW D 206 53 [some (.inr (.inr (some 79))), some (.inl a1), some (.inl a2)] [] (k, F, I, L, R) Q
def ZGoR (k : ZK) (L : Nat → Nat → Int64) (R : Nat → Nat → Option Nat) (n : Nat) (ask : Int) (left D : Nat) : Prop := ∀ (mask last back ahead meas c : Nat) (w f : Nat → Int) (F I : Nat → Nat → Int) (l : List Nat) (Q : Option ZV → ZH → Prop),
  F 79 14 = ((c + (left + 1) : Nat) : Int) → F 79 15 = (n : Int) → F 79 17 = ask → F 79 19 = 2 → F 79 8 = (c : Int) → ZLn mask last back → ZLa n mask last ahead → ZMR mask w c → ZAgr (I 86) w c → I 87 = f → (∀ x, x ≤ 1000 → f x = z_fb meas x) → (∀ x, 1000 < x → meas.testBit x = false) → last < n → c + (left + 1) ≤ 7 → ZAc F I ask l → l.length + (z_rs n (z_or n) (left + 1) mask last back ahead meas).length ≤ 1000 →
  (∀ F' I', ZSf F I F' I' → F' 79 8 = (c : Int) → ZAgr (I' 86) w c → I' 87 = f → ZAc F' I' ask (l ++ z_rs n (z_or n) (left + 1) mask last back ahead meas) → Q none (k, F', I', L, R)) → ZC (D + 1) 206 [.inr (.inr (some 79))] (k, F, I, L, R) Q
section ZRef15
variable {d c n left D : Nat} {A : ZA} {k : ZK} {F I F1 I1 F2 I2 : Nat → Nat → Int} {L : Nat → Nat → Int64} {R : Nat → Nat → Option Nat} {Q : Option ZV → ZH → Prop} {x rd ask : Int} {w : Nat → Int}
theorem z_nxr_0 (hk : ZMk k) (hn : 2 ≤ n ∧ n ≤ 40) (hD : 4 ≤ D) : ZNxR k L R n ask 0 D := by
  intro a1 a2 mask last back ahead meas c w f F I l Q h14 h15 h17 h19 h8 hln hla2 hmr hag hf hfm hme hla hc7 hac hlen K
  have hT := hk.1.1
  obtain ⟨hc0, _⟩ := hmr.top hln.1 hln.2.1
  have hgd : ZGd n c mask := ⟨z_up_lt hln.1 (by omega), hln.2.2.1, w, hmr⟩
  have hrow : ZRow w c (n : Int) := hgd.zrow hmr (by omega) (by omega) (Or.inr ⟨by omega, by omega, rfl⟩)
  repeat (first | refine zw_t rfl rfl ?_ | refine zw_jump rfl rfl ?_ | refine zw_getI rfl rfl (by assumption) ?_ | refine zw_ialn rfl (by assumption) (by omega) ?_ | refine zw_laln rfl (by assumption) (by omega) ?_ | refine zw_iastn rfl (by omega) (by assumption) (by omega) ?_ | refine zw_lastn rfl (by assumption) (by omega) ?_ | refine zw_iald0 rfl (by assumption) (by omega) ?_ | refine zw_lald0 rfl (by assumption) (by omega) ?_ | refine zw_aaln rfl (by assumption) rfl (by omega) ?_ | refine zw_getR rfl (by assumption) (by assumption) ?_ | refine zw_alen rfl (by assumption) rfl ?_ | refine zw_iald rfl (by assumption) (by omega) (by omega) ?_ | refine zw_iast rfl (by omega) (by assumption) (by omega) (by omega) ?_ | refine zw_putI rfl (by assumption) ?_ | refine zw_lald rfl (by assumption) (by omega) (by omega) ?_ | refine zw_last rfl (by assumption) (by omega) (by omega) ?_ | refine zw_iadd rfl (by omega) (by omega) ?_ | refine zw_isub rfl (by omega) (by omega) ?_ | refine zw_iinc rfl rfl rfl (by omega) (by omega) ?_ | refine zw_imul rfl (by omega) (by omega) ?_)
  rw [h8, h14]
  refine zw_icmp_ne_f rfl rfl ?_
  repeat (first | refine zw_t rfl rfl ?_ | refine zw_jump rfl rfl ?_ | refine zw_getI rfl rfl (by assumption) ?_ | refine zw_ialn rfl (by assumption) (by omega) ?_ | refine zw_laln rfl (by assumption) (by omega) ?_ | refine zw_iastn rfl (by omega) (by assumption) (by omega) ?_ | refine zw_lastn rfl (by assumption) (by omega) ?_ | refine zw_iald0 rfl (by assumption) (by omega) ?_ | refine zw_lald0 rfl (by assumption) (by omega) ?_ | refine zw_aaln rfl (by assumption) rfl (by omega) ?_ | refine zw_getR rfl (by assumption) (by assumption) ?_ | refine zw_alen rfl (by assumption) rfl ?_ | refine zw_iald rfl (by assumption) (by omega) (by omega) ?_ | refine zw_iast rfl (by omega) (by assumption) (by omega) (by omega) ?_ | refine zw_putI rfl (by assumption) ?_ | refine zw_lald rfl (by assumption) (by omega) (by omega) ?_ | refine zw_last rfl (by assumption) (by omega) (by omega) ?_ | refine zw_iadd rfl (by omega) (by omega) ?_ | refine zw_isub rfl (by omega) (by omega) ?_ | refine zw_iinc rfl rfl rfl (by omega) (by omega) ?_ | refine zw_imul rfl (by omega) (by omega) ?_)
  refine zw_callv rfl rfl rfl rfl rfl rfl (by assumption) ?_
  refine ZC.le (show 0 + 4 ≤ _ by omega) ?_
  refine c_mtells (own := z_or n mask) hk h8 hc0 hag hmr hrow (Or.inl ⟨h19, h15⟩) h17 hac (by omega) (z_or_form hn.1 hmr hc0 hrow) (fun F' I' s1 e8 e86 e87 hac' => ?_)
  repeat (refine zw_ne 75 rfl ?_; first | refine zw_t rfl rfl ?_ | refine zw_jump rfl rfl ?_ | refine zw_getI rfl rfl (by assumption) ?_ | refine zw_ialn rfl (by assumption) (by omega) ?_ | refine zw_laln rfl (by assumption) (by omega) ?_ | refine zw_iastn rfl (by omega) (by assumption) (by omega) ?_ | refine zw_lastn rfl (by assumption) (by omega) ?_ | refine zw_iald0 rfl (by assumption) (by omega) ?_ | refine zw_lald0 rfl (by assumption) (by omega) ?_ | refine zw_aaln rfl (by assumption) rfl (by omega) ?_ | refine zw_getR rfl (by assumption) (by assumption) ?_ | refine zw_alen rfl (by assumption) rfl ?_ | refine zw_iald rfl (by assumption) (by omega) (by omega) ?_ | refine zw_iast rfl (by omega) (by assumption) (by omega) (by omega) ?_ | refine zw_putI rfl (by assumption) ?_ | refine zw_lald rfl (by assumption) (by omega) (by omega) ?_ | refine zw_last rfl (by assumption) (by omega) (by omega) ?_ | refine zw_iadd rfl (by omega) (by omega) ?_ | refine zw_isub rfl (by omega) (by omega) ?_ | refine zw_iinc rfl rfl rfl (by omega) (by omega) ?_ | refine zw_imul rfl (by omega) (by omega) ?_)
  exact K F' I' s1 e8 e86 (e87.trans hf) hac'
theorem z_nxr_s (hk : ZMk k) (hG : ZGoR k L R n ask left D) (hD : D + 1 ≤ d) : ZNxR k L R n ask (left + 1) d := by
  intro a1 a2 mask last back ahead meas c w f F I l Q h14 h15 h17 h19 h8 hln hla2 hmr hag hf hfm hme hla hc7 hac hlen K
  have hT := hk.1.1
  repeat (first | refine zw_t rfl rfl ?_ | refine zw_jump rfl rfl ?_ | refine zw_getI rfl rfl (by assumption) ?_ | refine zw_ialn rfl (by assumption) (by omega) ?_ | refine zw_laln rfl (by assumption) (by omega) ?_ | refine zw_iastn rfl (by omega) (by assumption) (by omega) ?_ | refine zw_lastn rfl (by assumption) (by omega) ?_ | refine zw_iald0 rfl (by assumption) (by omega) ?_ | refine zw_lald0 rfl (by assumption) (by omega) ?_ | refine zw_aaln rfl (by assumption) rfl (by omega) ?_ | refine zw_getR rfl (by assumption) (by assumption) ?_ | refine zw_alen rfl (by assumption) rfl ?_ | refine zw_iald rfl (by assumption) (by omega) (by omega) ?_ | refine zw_iast rfl (by omega) (by assumption) (by omega) (by omega) ?_ | refine zw_putI rfl (by assumption) ?_ | refine zw_lald rfl (by assumption) (by omega) (by omega) ?_ | refine zw_last rfl (by assumption) (by omega) (by omega) ?_ | refine zw_iadd rfl (by omega) (by omega) ?_ | refine zw_isub rfl (by omega) (by omega) ?_ | refine zw_iinc rfl rfl rfl (by omega) (by omega) ?_ | refine zw_imul rfl (by omega) (by omega) ?_)
  rw [h8, h14]
  refine zw_icmp_ne_t rfl (by omega) ?_
  repeat (first | refine zw_t rfl rfl ?_ | refine zw_jump rfl rfl ?_ | refine zw_getI rfl rfl (by assumption) ?_ | refine zw_ialn rfl (by assumption) (by omega) ?_ | refine zw_laln rfl (by assumption) (by omega) ?_ | refine zw_iastn rfl (by omega) (by assumption) (by omega) ?_ | refine zw_lastn rfl (by assumption) (by omega) ?_ | refine zw_iald0 rfl (by assumption) (by omega) ?_ | refine zw_lald0 rfl (by assumption) (by omega) ?_ | refine zw_aaln rfl (by assumption) rfl (by omega) ?_ | refine zw_getR rfl (by assumption) (by assumption) ?_ | refine zw_alen rfl (by assumption) rfl ?_ | refine zw_iald rfl (by assumption) (by omega) (by omega) ?_ | refine zw_iast rfl (by omega) (by assumption) (by omega) (by omega) ?_ | refine zw_putI rfl (by assumption) ?_ | refine zw_lald rfl (by assumption) (by omega) (by omega) ?_ | refine zw_last rfl (by assumption) (by omega) (by omega) ?_ | refine zw_iadd rfl (by omega) (by omega) ?_ | refine zw_isub rfl (by omega) (by omega) ?_ | refine zw_iinc rfl rfl rfl (by omega) (by omega) ?_ | refine zw_imul rfl (by omega) (by omega) ?_)
  refine zw_callv rfl rfl rfl rfl rfl rfl (by assumption) ?_
  refine ZC.le hD ?_
  refine hG mask last back ahead meas c w f F I l _ h14 h15 h17 h19 h8 hln hla2 hmr hag hf hfm hme hla hc7 hac hlen (fun F' I' s1 e8 e86 e87 hac' => ?_)
  exact K F' I' s1 e8 e86 e87 hac'
theorem z_gor (hk : ZMk k) (hn : 2 ≤ n ∧ n ≤ 40) (hD : 4 ≤ D) (hN : ZNxR k L R n ask left D) : ZGoR k L R n ask left D := by
  intro mask last back ahead meas c w f F I l Q h14 h15 h17 h19 h8 hln hla2 hmr hag hf hfm hme hla hc7 hac hlen K
  have hk0 := hk
  obtain ⟨⟨hT, g1, g2, g3, g4, g5, g6, g7⟩, _, ⟨t80, t81, t82, t83, t84, t85, t86⟩, _⟩ := hk
  obtain ⟨hc0, htop⟩ := hmr.top hln.1 hln.2.1
  have hwb : ∀ j, j < c → 0 ≤ w j ∧ w j ≤ (last : Int) := fun j hj => by have := hmr.lt hln.1 hj; omega
  obtain ⟨fn, hfn⟩ : ∃ fn : Nat → List Nat, fn = (fun y => bif Nat.beq ((back <<< (y - last)) &&& (ahead >>> (y - last))) 0 && Nat.beq (((back <<< (y - last)) ||| (ahead >>> (y - last))) &&& meas) 0 then z_rs n (z_or n) left (mask ||| 1 <<< y) y ((back <<< (y - last)) ||| 1) ((ahead >>> (y - last)) ||| 1 <<< n) (meas ||| (back <<< (y - last)) ||| (ahead >>> (y - last))) else []) := ⟨_, rfl⟩
  have loop : ∀ (m y : Nat) (x2 : Option ZV) (F I : Nat → Nat → Int) (l : List Nat), F 79 14 = ((c + (left + 1) : Nat) : Int) → F 79 15 = (n : Int) → F 79 17 = ask → F 79 19 = 2 → F 79 8 = (c : Int) → ZAgr (I 86) w c → I 87 = f → last < y → m + y = n → ZAc F I ask l → l.length + (z_fl fn m y).length ≤ 1000 →
      (∀ F' I', ZSf F I F' I' → F' 79 8 = (c : Int) → ZAgr (I' 86) w c → I' 87 = f → ZAc F' I' ask (l ++ z_fl fn m y) → Q none (k, F', I', L, R)) →
      ZW D 206 14 [some (.inr (.inr (some 79))), some (.inl (y : Int)), x2] [] (k, F, I, L, R) Q := by
    intro m
    induction m with
    | zero =>
      intro y x2 F I l h14 h15 h17 h19 h8 hag hf hy hm hac hlen K
      repeat (first | refine zw_t rfl rfl ?_ | refine zw_jump rfl rfl ?_ | refine zw_getI rfl rfl (by assumption) ?_ | refine zw_ialn rfl (by assumption) (by omega) ?_ | refine zw_laln rfl (by assumption) (by omega) ?_ | refine zw_iastn rfl (by omega) (by assumption) (by omega) ?_ | refine zw_lastn rfl (by assumption) (by omega) ?_ | refine zw_iald0 rfl (by assumption) (by omega) ?_ | refine zw_lald0 rfl (by assumption) (by omega) ?_ | refine zw_aaln rfl (by assumption) rfl (by omega) ?_ | refine zw_getR rfl (by assumption) (by assumption) ?_ | refine zw_alen rfl (by assumption) rfl ?_ | refine zw_iald rfl (by assumption) (by omega) (by omega) ?_ | refine zw_iast rfl (by omega) (by assumption) (by omega) (by omega) ?_ | refine zw_putI rfl (by assumption) ?_ | refine zw_lald rfl (by assumption) (by omega) (by omega) ?_ | refine zw_last rfl (by assumption) (by omega) (by omega) ?_ | refine zw_iadd rfl (by omega) (by omega) ?_ | refine zw_isub rfl (by omega) (by omega) ?_ | refine zw_iinc rfl rfl rfl (by omega) (by omega) ?_ | refine zw_imul rfl (by omega) (by omega) ?_)
      refine zw_icmp_ge_t rfl (by omega) ?_
      refine zw_vret rfl (K F I (ZSf.refl _ _) h8 hag hf ?_)
      rw [show z_fl fn 0 y = [] from rfl, List.append_nil]
      exact hac
    | succ m ih =>
      intro y x2 F I l h14 h15 h17 h19 h8 hag hf hy hm hac hlen K
      rw [z_fl_succ] at K hlen
      rw [List.length_append] at hlen
      have hcb : ∀ j, j < c → 0 ≤ (y : Int) - w j ∧ (y : Int) - w j ≤ 1000 ∧ 0 ≤ w j ∧ w j ≤ 1000 := fun j hj => by have := hwb j hj; omega
      have hcr : ∀ j, j < c → 0 ≤ (n : Int) - ((y : Int) - w j) := fun j hj => by have := hwb j hj; omega
      obtain ⟨up, hup⟩ : ∃ up, up = back <<< (y - last) := ⟨_, rfl⟩
      obtain ⟨dn, hdn⟩ : ∃ dn, dn = ahead >>> (y - last) := ⟨_, rfl⟩
      have ecn : ∀ x, z_cn w c (n : Int) (y : Int) x = z_fb up x + z_fb dn x := fun x => by rw [hup, hdn]; exact z_cn_ring hln hla2 hmr hy (by omega) x
      have nxt : ∀ (a2 : Int) (F3 I3 : Nat → Nat → Int) (f1 : Nat → Int) (l3 : List Nat), f1 = (fun x => f x + 1 * z_cn w c (n : Int) (y : Int) x) → ZSf F I F3 I3 → F3 79 8 = (c : Int) → ZAgr (I3 86) w c → I3 87 = f1 → ZAc F3 I3 ask l3 → l3 = l ++ fn y → ZW D 206 85 [some (.inr (.inr (some 79))), some (.inl (y : Int)), some (.inl a2)] [] (k, F3, I3, L, R) Q := by
        intro a2 F3 I3 f1 l3 hf1 s3 e8 e86 e87 hac3 hl3
        have ff : ∀ x, x ≤ 1000 → -1000 ≤ f1 x ∧ f1 x ≤ 1000 := fun x hx => by
          have q1 := z_fb_le meas x
          have q2 := z_fb_le up x
          have q3 := z_fb_le dn x
          rw [hf1]
          dsimp only
          rw [ecn x, hfm x hx]
          omega
        repeat (first | refine zw_t rfl rfl ?_ | refine zw_jump rfl rfl ?_ | refine zw_getI rfl rfl (by assumption) ?_ | refine zw_ialn rfl (by assumption) (by omega) ?_ | refine zw_laln rfl (by assumption) (by omega) ?_ | refine zw_iastn rfl (by omega) (by assumption) (by omega) ?_ | refine zw_lastn rfl (by assumption) (by omega) ?_ | refine zw_iald0 rfl (by assumption) (by omega) ?_ | refine zw_lald0 rfl (by assumption) (by omega) ?_ | refine zw_aaln rfl (by assumption) rfl (by omega) ?_ | refine zw_getR rfl (by assumption) (by assumption) ?_ | refine zw_alen rfl (by assumption) rfl ?_ | refine zw_iald rfl (by assumption) (by omega) (by omega) ?_ | refine zw_iast rfl (by omega) (by assumption) (by omega) (by omega) ?_ | refine zw_putI rfl (by assumption) ?_ | refine zw_lald rfl (by assumption) (by omega) (by omega) ?_ | refine zw_last rfl (by assumption) (by omega) (by omega) ?_ | refine zw_iadd rfl (by omega) (by omega) ?_ | refine zw_isub rfl (by omega) (by omega) ?_ | refine zw_iinc rfl rfl rfl (by omega) (by omega) ?_ | refine zw_imul rfl (by omega) (by omega) ?_)
        refine zw_callv rfl rfl rfl rfl rfl rfl (by assumption) ?_
        refine ZC.le (show 0 + 1 ≤ _ by omega) ?_
        refine c_mcounts (n := -1) (rd := (n : Int)) hk0 e8 (by omega) e86 e87 hcb (Or.inr rfl) ff (Or.inr ⟨by rw [s3.1 79 19 (by omega)]; exact h19, by rw [s3.1 79 15 (by omega)]; exact h15, by omega, by omega, hcr⟩) (fun t f2 _ hf2 _ => ?_)
        have ef : f2 = f := by
          rw [hf2, hf1]
          funext x
          dsimp only
          omega
        rw [ef]
        repeat (first | refine zw_t rfl rfl ?_ | refine zw_jump rfl rfl ?_ | refine zw_getI rfl rfl (by assumption) ?_ | refine zw_ialn rfl (by assumption) (by omega) ?_ | refine zw_laln rfl (by assumption) (by omega) ?_ | refine zw_iastn rfl (by omega) (by assumption) (by omega) ?_ | refine zw_lastn rfl (by assumption) (by omega) ?_ | refine zw_iald0 rfl (by assumption) (by omega) ?_ | refine zw_lald0 rfl (by assumption) (by omega) ?_ | refine zw_aaln rfl (by assumption) rfl (by omega) ?_ | refine zw_getR rfl (by assumption) (by assumption) ?_ | refine zw_alen rfl (by assumption) rfl ?_ | refine zw_iald rfl (by assumption) (by omega) (by omega) ?_ | refine zw_iast rfl (by omega) (by assumption) (by omega) (by omega) ?_ | refine zw_putI rfl (by assumption) ?_ | refine zw_lald rfl (by assumption) (by omega) (by omega) ?_ | refine zw_last rfl (by assumption) (by omega) (by omega) ?_ | refine zw_iadd rfl (by omega) (by omega) ?_ | refine zw_isub rfl (by omega) (by omega) ?_ | refine zw_iinc rfl rfl rfl (by omega) (by omega) ?_ | refine zw_imul rfl (by omega) (by omega) ?_)
        refine zw_goto rfl ?_
        have s4 : ZSf F I F3 (z_up I3 87 f) := s3.row 87 f (by omega)
        refine ih (y + 1) _ F3 (z_up I3 87 f) l3 (by rw [s3.1 79 14 (by omega)]; exact h14) (by rw [s3.1 79 15 (by omega)]; exact h15) (by rw [s3.1 79 17 (by omega)]; exact h17) (by rw [s3.1 79 19 (by omega)]; exact h19) e8 (by rw [z_up_ne _ _ (by omega)]; exact e86) (z_up_same _ _ _) (by omega) (by omega) (hac3.fr rfl rfl (z_up_ne _ _ (by omega))) ?_ (fun F' I' s5 b1 b2 b3 b4 => ?_)
        · rw [hl3, List.length_append]; omega
        · refine K F' I' (s4.trans s5) b1 b2 b3 ?_
          rw [hl3, List.append_assoc] at b4
          exact b4
      repeat (first | refine zw_t rfl rfl ?_ | refine zw_jump rfl rfl ?_ | refine zw_getI rfl rfl (by assumption) ?_ | refine zw_ialn rfl (by assumption) (by omega) ?_ | refine zw_laln rfl (by assumption) (by omega) ?_ | refine zw_iastn rfl (by omega) (by assumption) (by omega) ?_ | refine zw_lastn rfl (by assumption) (by omega) ?_ | refine zw_iald0 rfl (by assumption) (by omega) ?_ | refine zw_lald0 rfl (by assumption) (by omega) ?_ | refine zw_aaln rfl (by assumption) rfl (by omega) ?_ | refine zw_getR rfl (by assumption) (by assumption) ?_ | refine zw_alen rfl (by assumption) rfl ?_ | refine zw_iald rfl (by assumption) (by omega) (by omega) ?_ | refine zw_iast rfl (by omega) (by assumption) (by omega) (by omega) ?_ | refine zw_putI rfl (by assumption) ?_ | refine zw_lald rfl (by assumption) (by omega) (by omega) ?_ | refine zw_last rfl (by assumption) (by omega) (by omega) ?_ | refine zw_iadd rfl (by omega) (by omega) ?_ | refine zw_isub rfl (by omega) (by omega) ?_ | refine zw_iinc rfl rfl rfl (by omega) (by omega) ?_ | refine zw_imul rfl (by omega) (by omega) ?_)
      refine zw_icmp_ge_f rfl (by omega) ?_
      repeat (first | refine zw_t rfl rfl ?_ | refine zw_jump rfl rfl ?_ | refine zw_getI rfl rfl (by assumption) ?_ | refine zw_ialn rfl (by assumption) (by omega) ?_ | refine zw_laln rfl (by assumption) (by omega) ?_ | refine zw_iastn rfl (by omega) (by assumption) (by omega) ?_ | refine zw_lastn rfl (by assumption) (by omega) ?_ | refine zw_iald0 rfl (by assumption) (by omega) ?_ | refine zw_lald0 rfl (by assumption) (by omega) ?_ | refine zw_aaln rfl (by assumption) rfl (by omega) ?_ | refine zw_getR rfl (by assumption) (by assumption) ?_ | refine zw_alen rfl (by assumption) rfl ?_ | refine zw_iald rfl (by assumption) (by omega) (by omega) ?_ | refine zw_iast rfl (by omega) (by assumption) (by omega) (by omega) ?_ | refine zw_putI rfl (by assumption) ?_ | refine zw_lald rfl (by assumption) (by omega) (by omega) ?_ | refine zw_last rfl (by assumption) (by omega) (by omega) ?_ | refine zw_iadd rfl (by omega) (by omega) ?_ | refine zw_isub rfl (by omega) (by omega) ?_ | refine zw_iinc rfl rfl rfl (by omega) (by omega) ?_ | refine zw_imul rfl (by omega) (by omega) ?_)
      refine zw_callv rfl rfl rfl rfl rfl rfl (by assumption) ?_
      refine ZC.le (show 0 + 1 ≤ _ by omega) ?_
      refine c_mcounts (n := 1) (rd := (n : Int)) hk0 h8 (by omega) hag hf hcb (Or.inl rfl) (fun x hx => by rw [hfm x hx]; have := z_fb_le meas x; omega) (Or.inr ⟨h19, h15, by omega, by omega, hcr⟩) (fun t f1 ht hf1 hfl => ?_)
      have hfl := hfl rfl (fun x hx => by rw [hfm x hx]; have := z_fb_le meas x; omega)
      have ef1 : ∀ x, x ≤ 1000 → f1 x = z_fb meas x + (z_fb up x + z_fb dn x) := fun x hx => by
        rw [hf1]
        dsimp only
        rw [ecn x, hfm x hx]
        omega
      have s1 : ZSf F I F (z_up I 87 f1) := (ZSf.refl F I).row 87 f1 (by omega)
      have hmo : ∀ x, 1000 < x → up.testBit x = false := fun x hx => by rw [hup, hln.more hy x, decide_eq_false (by omega), Bool.false_and]
      have hmd : ∀ x, 1000 < x → dn.testBit x = false := fun x hx => by rw [hdn, hla2.less hy x, z_tb_far (last + 1) hln.1 (by omega), Bool.and_false]
      have fz : ∀ {a x : Nat}, a.testBit x = false → z_fb a x = 0 := fun q => by unfold z_fb; rw [if_neg (by rw [q]; decide)]
      rcases hfl with ⟨t0, hle⟩ | ⟨t1, x, hx1, hx⟩
      · have all : ∀ x, z_fb meas x + (z_fb up x + z_fb dn x) ≤ 1 := fun x => by
          by_cases hx : x ≤ 1000
          · rw [← ef1 x hx]; exact hle x hx
          · have q := z_fb_le meas x
            rw [fz (hmo x (by omega)), fz (hmd x (by omega))]
            omega
        have hz1 : up &&& dn = 0 := by
          rw [Nat.and_comm]
          exact z_fb_one (fun x => by have := all x; have := z_fb_le meas x; omega)
        have eu : ∀ x, z_fb (up ||| dn) x = z_fb up x + z_fb dn x := fun x => z_fb_o2 x hz1
        have hz2 : (up ||| dn) &&& meas = 0 := z_fb_one (fun x => by rw [eu x]; exact all x)
        have efn : fn y = z_rs n (z_or n) left (mask ||| 1 <<< y) y (up ||| 1) (dn ||| 1 <<< n) (meas ||| up ||| dn) := by
          rw [hfn]
          dsimp only
          rw [← hup, ← hdn, z_beq0.2 hz1, z_beq0.2 hz2]
          rfl
        rw [efn] at hlen
        repeat (first | refine zw_t rfl rfl ?_ | refine zw_jump rfl rfl ?_ | refine zw_getI rfl rfl (by assumption) ?_ | refine zw_ialn rfl (by assumption) (by omega) ?_ | refine zw_laln rfl (by assumption) (by omega) ?_ | refine zw_iastn rfl (by omega) (by assumption) (by omega) ?_ | refine zw_lastn rfl (by assumption) (by omega) ?_ | refine zw_iald0 rfl (by assumption) (by omega) ?_ | refine zw_lald0 rfl (by assumption) (by omega) ?_ | refine zw_aaln rfl (by assumption) rfl (by omega) ?_ | refine zw_getR rfl (by assumption) (by assumption) ?_ | refine zw_alen rfl (by assumption) rfl ?_ | refine zw_iald rfl (by assumption) (by omega) (by omega) ?_ | refine zw_iast rfl (by omega) (by assumption) (by omega) (by omega) ?_ | refine zw_putI rfl (by assumption) ?_ | refine zw_lald rfl (by assumption) (by omega) (by omega) ?_ | refine zw_last rfl (by assumption) (by omega) (by omega) ?_ | refine zw_iadd rfl (by omega) (by omega) ?_ | refine zw_isub rfl (by omega) (by omega) ?_ | refine zw_iinc rfl rfl rfl (by omega) (by omega) ?_ | refine zw_imul rfl (by omega) (by omega) ?_)
        refine zw_if_ne_f rfl t0 ?_
        repeat (refine zw_ne 53 rfl ?_; first | refine zw_t rfl rfl ?_ | refine zw_jump rfl rfl ?_ | refine zw_getI rfl rfl (by assumption) ?_ | refine zw_ialn rfl (by assumption) (by omega) ?_ | refine zw_laln rfl (by assumption) (by omega) ?_ | refine zw_iastn rfl (by omega) (by assumption) (by omega) ?_ | refine zw_lastn rfl (by assumption) (by omega) ?_ | refine zw_iald0 rfl (by assumption) (by omega) ?_ | refine zw_lald0 rfl (by assumption) (by omega) ?_ | refine zw_aaln rfl (by assumption) rfl (by omega) ?_ | refine zw_getR rfl (by assumption) (by assumption) ?_ | refine zw_alen rfl (by assumption) rfl ?_ | refine zw_iald rfl (by assumption) (by omega) (by omega) ?_ | refine zw_iast rfl (by omega) (by assumption) (by omega) (by omega) ?_ | refine zw_putI rfl (by assumption) ?_ | refine zw_lald rfl (by assumption) (by omega) (by omega) ?_ | refine zw_last rfl (by assumption) (by omega) (by omega) ?_ | refine zw_iadd rfl (by omega) (by omega) ?_ | refine zw_isub rfl (by omega) (by omega) ?_ | refine zw_iinc rfl rfl rfl (by omega) (by omega) ?_ | refine zw_imul rfl (by omega) (by omega) ?_)
        rw [h8, Int.toNat_natCast]
        obtain ⟨F2, hF2⟩ : ∃ F2, F2 = z_u2 F 79 8 ((c : Int) + 1) := ⟨_, rfl⟩
        obtain ⟨I2, hI2⟩ : ∃ I2, I2 = z_u2 (z_up I 87 f1) 86 c (y : Int) := ⟨_, rfl⟩
        rw [← hF2, ← hI2]
        have s2 : ZSf F I F2 I2 := by rw [hF2, hI2]; exact (s1.cell c _).fld 8 _ (by omega)
        have r86 : ZAgr (I2 86) (z_up w c (y : Int)) (c + 1) := fun j hj => by
          rw [hI2]
          by_cases hjc : j = c
          · rw [hjc, z_u2_same, z_up_same]
          · rw [z_u2_nk _ _ _ _ hjc, z_up_ne _ _ hjc, z_up_ne _ _ (by omega)]
            exact hag j (by omega)
        have hln2 : ZLn (mask ||| 1 <<< y) y (up ||| 1) := by rw [hup]; exact hln.add hy
        have hla3 : ZLa n (mask ||| 1 <<< y) y (dn ||| 1 <<< n) := by rw [hdn]; exact hla2.add hy
        refine hN (y : Int) t (mask ||| 1 <<< y) y (up ||| 1) (dn ||| 1 <<< n) (meas ||| up ||| dn) (c + 1) (z_up w c (y : Int)) f1 F2 I2 l Q (by rw [s2.1 79 14 (by omega), h14]; omega) (by rw [s2.1 79 15 (by omega)]; exact h15) (by rw [s2.1 79 17 (by omega)]; exact h17) (by rw [s2.1 79 19 (by omega)]; exact h19) (by rw [hF2, z_u2_same]; omega) hln2 hla3 (hmr.snoc hln.1 hy) r86 (by rw [hI2, z_u2_ad _ _ _ (by omega), z_up_same]) (fun x hx => by rw [Nat.or_assoc, z_fb_or hz2, eu x]; exact ef1 x hx) (fun x hx => by rw [Nat.testBit_or, Nat.testBit_or, hme x hx, hmo x hx, hmd x hx]; rfl) (by omega) (by omega) (hac.fr (by rw [hF2, z_u2_nk _ _ _ _ (by omega)]) (by rw [hF2, z_u2_nk _ _ _ _ (by omega)]) (by rw [hI2, z_u2_ad _ _ _ (by omega), z_up_ne _ _ (by omega)])) (by omega) (fun F' I' s3 b1 b2 b3 b4 => ?_)
        repeat (refine zw_ne 85 rfl ?_; first | refine zw_t rfl rfl ?_ | refine zw_jump rfl rfl ?_ | refine zw_getI rfl rfl (by assumption) ?_ | refine zw_ialn rfl (by assumption) (by omega) ?_ | refine zw_laln rfl (by assumption) (by omega) ?_ | refine zw_iastn rfl (by omega) (by assumption) (by omega) ?_ | refine zw_lastn rfl (by assumption) (by omega) ?_ | refine zw_iald0 rfl (by assumption) (by omega) ?_ | refine zw_lald0 rfl (by assumption) (by omega) ?_ | refine zw_aaln rfl (by assumption) rfl (by omega) ?_ | refine zw_getR rfl (by assumption) (by assumption) ?_ | refine zw_alen rfl (by assumption) rfl ?_ | refine zw_iald rfl (by assumption) (by omega) (by omega) ?_ | refine zw_iast rfl (by omega) (by assumption) (by omega) (by omega) ?_ | refine zw_putI rfl (by assumption) ?_ | refine zw_lald rfl (by assumption) (by omega) (by omega) ?_ | refine zw_last rfl (by assumption) (by omega) (by omega) ?_ | refine zw_iadd rfl (by omega) (by omega) ?_ | refine zw_isub rfl (by omega) (by omega) ?_ | refine zw_iinc rfl rfl rfl (by omega) (by omega) ?_ | refine zw_imul rfl (by omega) (by omega) ?_)
        rw [b1, show ((c + 1 : Nat) : Int) - 1 = (c : Int) by omega]
        refine nxt t _ I' f1 _ hf1 ((s2.trans s3).fld 8 _ (by omega)) (z_u2_same _ _ _ _) (fun j hj => ?_) b3 (b4.fr (z_u2_nk _ _ _ _ (by omega)) (z_u2_nk _ _ _ _ (by omega)) rfl) (by rw [efn])
        rw [b2 j (by omega), z_up_ne _ _ (by omega)]
      · have efn : fn y = [] := by
          rw [hfn]
          dsimp only
          rw [← hup, ← hdn]
          cases q1 : Nat.beq (up &&& dn) 0 with
          | false => rfl
          | true =>
            cases q2 : Nat.beq ((up ||| dn) &&& meas) 0 with
            | false => rfl
            | true =>
              exfalso
              have e2 := z_fb_or (a := meas) (b := up ||| dn) (x := x) (z_beq0.1 q2)
              rw [z_fb_o2 x (z_beq0.1 q1), ← ef1 x hx1] at e2
              have := z_fb_le (meas ||| (up ||| dn)) x
              omega
        repeat (first | refine zw_t rfl rfl ?_ | refine zw_jump rfl rfl ?_ | refine zw_getI rfl rfl (by assumption) ?_ | refine zw_ialn rfl (by assumption) (by omega) ?_ | refine zw_laln rfl (by assumption) (by omega) ?_ | refine zw_iastn rfl (by omega) (by assumption) (by omega) ?_ | refine zw_lastn rfl (by assumption) (by omega) ?_ | refine zw_iald0 rfl (by assumption) (by omega) ?_ | refine zw_lald0 rfl (by assumption) (by omega) ?_ | refine zw_aaln rfl (by assumption) rfl (by omega) ?_ | refine zw_getR rfl (by assumption) (by assumption) ?_ | refine zw_alen rfl (by assumption) rfl ?_ | refine zw_iald rfl (by assumption) (by omega) (by omega) ?_ | refine zw_iast rfl (by omega) (by assumption) (by omega) (by omega) ?_ | refine zw_putI rfl (by assumption) ?_ | refine zw_lald rfl (by assumption) (by omega) (by omega) ?_ | refine zw_last rfl (by assumption) (by omega) (by omega) ?_ | refine zw_iadd rfl (by omega) (by omega) ?_ | refine zw_isub rfl (by omega) (by omega) ?_ | refine zw_iinc rfl rfl rfl (by omega) (by omega) ?_ | refine zw_imul rfl (by omega) (by omega) ?_)
        refine zw_if_ne_t rfl (by omega) ?_
        exact nxt t F _ f1 l hf1 s1 h8 (by rw [z_up_ne _ _ (by omega)]; exact hag) (z_up_same _ _ _) (hac.fr rfl rfl (z_up_ne _ _ (by omega))) (by rw [efn, List.append_nil])
  refine ze_M_goCycle ?_
  rw [z_rs_succ, ← hfn] at K hlen
  repeat (first | refine zw_t rfl rfl ?_ | refine zw_jump rfl rfl ?_ | refine zw_getI rfl rfl (by assumption) ?_ | refine zw_ialn rfl (by assumption) (by omega) ?_ | refine zw_laln rfl (by assumption) (by omega) ?_ | refine zw_iastn rfl (by omega) (by assumption) (by omega) ?_ | refine zw_lastn rfl (by assumption) (by omega) ?_ | refine zw_iald0 rfl (by assumption) (by omega) ?_ | refine zw_lald0 rfl (by assumption) (by omega) ?_ | refine zw_aaln rfl (by assumption) rfl (by omega) ?_ | refine zw_getR rfl (by assumption) (by assumption) ?_ | refine zw_alen rfl (by assumption) rfl ?_ | refine zw_iald rfl (by assumption) (by omega) (by omega) ?_ | refine zw_iast rfl (by omega) (by assumption) (by omega) (by omega) ?_ | refine zw_putI rfl (by assumption) ?_ | refine zw_lald rfl (by assumption) (by omega) (by omega) ?_ | refine zw_last rfl (by assumption) (by omega) (by omega) ?_ | refine zw_iadd rfl (by omega) (by omega) ?_ | refine zw_isub rfl (by omega) (by omega) ?_ | refine zw_iinc rfl rfl rfl (by omega) (by omega) ?_ | refine zw_imul rfl (by omega) (by omega) ?_)
  rw [show (F 79 8 - 1).toNat = c - 1 by omega, hag (c - 1) (by omega), htop]
  repeat (refine zw_ne 14 rfl ?_; first | refine zw_t rfl rfl ?_ | refine zw_jump rfl rfl ?_ | refine zw_getI rfl rfl (by assumption) ?_ | refine zw_ialn rfl (by assumption) (by omega) ?_ | refine zw_laln rfl (by assumption) (by omega) ?_ | refine zw_iastn rfl (by omega) (by assumption) (by omega) ?_ | refine zw_lastn rfl (by assumption) (by omega) ?_ | refine zw_iald0 rfl (by assumption) (by omega) ?_ | refine zw_lald0 rfl (by assumption) (by omega) ?_ | refine zw_aaln rfl (by assumption) rfl (by omega) ?_ | refine zw_getR rfl (by assumption) (by assumption) ?_ | refine zw_alen rfl (by assumption) rfl ?_ | refine zw_iald rfl (by assumption) (by omega) (by omega) ?_ | refine zw_iast rfl (by omega) (by assumption) (by omega) (by omega) ?_ | refine zw_putI rfl (by assumption) ?_ | refine zw_lald rfl (by assumption) (by omega) (by omega) ?_ | refine zw_last rfl (by assumption) (by omega) (by omega) ?_ | refine zw_iadd rfl (by omega) (by omega) ?_ | refine zw_isub rfl (by omega) (by omega) ?_ | refine zw_iinc rfl rfl rfl (by omega) (by omega) ?_ | refine zw_imul rfl (by omega) (by omega) ?_)
  have lp := loop (n - 1 - last) (last + 1) none F I l h14 h15 h17 h19 h8 hag hf (by omega) (by omega) hac hlen K
  exact lp
theorem z_gors (hk : ZMk k) (hn : 2 ≤ n ∧ n ≤ 40) : ∀ left : Nat, ZGoR k L R n ask left (d + left + 4)
  | 0 => z_gor hk hn (by omega) (z_nxr_0 hk hn (by omega))
  | left + 1 => z_gor hk hn (by omega) (z_nxr_s hk (z_gors hk hn left) (by omega))
theorem m_rings {e m i to : Int} (hk : ZMk k) (h : ZMA A F I L) (K : ∀ F' I' L', ZMf F I L F' I' L' → ZMA (sp_rings A e m i to).2 F' I' L' → Q (some (.inl (sp_rings A e m i to).1)) (k, F', I', L', R)) : ZC (d + 15) 207 [.inr (.inr (some 79)), .inl e, .inl m, .inl i, .inl to] (k, F, I, L, R) Q := by
  have hT := hk.1.1
  unfold sp_rings at K
  refine ze_M_rings ?_
  repeat (first | refine zw_t rfl rfl ?_ | refine zw_jump rfl rfl ?_ | refine zw_getI rfl rfl (by assumption) ?_ | refine zw_ialn rfl (by assumption) (by omega) ?_ | refine zw_laln rfl (by assumption) (by omega) ?_ | refine zw_iastn rfl (by omega) (by assumption) (by omega) ?_ | refine zw_lastn rfl (by assumption) (by omega) ?_ | refine zw_iald0 rfl (by assumption) (by omega) ?_ | refine zw_lald0 rfl (by assumption) (by omega) ?_ | refine zw_aaln rfl (by assumption) rfl (by omega) ?_ | refine zw_getR rfl (by assumption) (by assumption) ?_ | refine zw_alen rfl (by assumption) rfl ?_ | refine zw_iald rfl (by assumption) (by omega) (by omega) ?_ | refine zw_iast rfl (by omega) (by assumption) (by omega) (by omega) ?_ | refine zw_putI rfl (by assumption) ?_ | refine zw_lald rfl (by assumption) (by omega) (by omega) ?_ | refine zw_last rfl (by assumption) (by omega) (by omega) ?_ | refine zw_iadd rfl (by omega) (by omega) ?_ | refine zw_isub rfl (by omega) (by omega) ?_ | refine zw_iinc rfl rfl rfl (by omega) (by omega) ?_ | refine zw_imul rfl (by omega) (by omega) ?_)
  refine zw_calls rfl rfl rfl rfl rfl rfl ?_
  refine c_misShelf ?_
  by_cases hx : 0 ≤ to ∧ to < 16
  · rw [if_pos hx] at K ⊢
    refine zw_if_ne_t rfl (by decide) ?_
    have five : ¬ (2 ≤ e ∧ e ≤ 40 ∧ 1 ≤ m ∧ m ≤ 6) → ZW (d + 14) 207 36 [some (.inr (.inr (some 79))), some (.inl e), some (.inl m), some (.inl i), some (.inl to)] [] (k, F, I, L, R) Q := by
      intro hb
      rw [if_neg hb] at K
      repeat (first | refine zw_t rfl rfl ?_ | refine zw_jump rfl rfl ?_ | refine zw_getI rfl rfl (by assumption) ?_ | refine zw_ialn rfl (by assumption) (by omega) ?_ | refine zw_laln rfl (by assumption) (by omega) ?_ | refine zw_iastn rfl (by omega) (by assumption) (by omega) ?_ | refine zw_lastn rfl (by assumption) (by omega) ?_ | refine zw_iald0 rfl (by assumption) (by omega) ?_ | refine zw_lald0 rfl (by assumption) (by omega) ?_ | refine zw_aaln rfl (by assumption) rfl (by omega) ?_ | refine zw_getR rfl (by assumption) (by assumption) ?_ | refine zw_alen rfl (by assumption) rfl ?_ | refine zw_iald rfl (by assumption) (by omega) (by omega) ?_ | refine zw_iast rfl (by omega) (by assumption) (by omega) (by omega) ?_ | refine zw_putI rfl (by assumption) ?_ | refine zw_lald rfl (by assumption) (by omega) (by omega) ?_ | refine zw_last rfl (by assumption) (by omega) (by omega) ?_ | refine zw_iadd rfl (by omega) (by omega) ?_ | refine zw_isub rfl (by omega) (by omega) ?_ | refine zw_iinc rfl rfl rfl (by omega) (by omega) ?_ | refine zw_imul rfl (by omega) (by omega) ?_)
      refine zw_callv rfl rfl rfl rfl rfl rfl (by assumption) ?_
      refine c_mnone hT ?_
      exact zw_iret rfl (K _ _ _ (z_mref h 5).1 (z_mref h 5).2)
    repeat (first | refine zw_t rfl rfl ?_ | refine zw_jump rfl rfl ?_ | refine zw_getI rfl rfl (by assumption) ?_ | refine zw_ialn rfl (by assumption) (by omega) ?_ | refine zw_laln rfl (by assumption) (by omega) ?_ | refine zw_iastn rfl (by omega) (by assumption) (by omega) ?_ | refine zw_lastn rfl (by assumption) (by omega) ?_ | refine zw_iald0 rfl (by assumption) (by omega) ?_ | refine zw_lald0 rfl (by assumption) (by omega) ?_ | refine zw_aaln rfl (by assumption) rfl (by omega) ?_ | refine zw_getR rfl (by assumption) (by assumption) ?_ | refine zw_alen rfl (by assumption) rfl ?_ | refine zw_iald rfl (by assumption) (by omega) (by omega) ?_ | refine zw_iast rfl (by omega) (by assumption) (by omega) (by omega) ?_ | refine zw_putI rfl (by assumption) ?_ | refine zw_lald rfl (by assumption) (by omega) (by omega) ?_ | refine zw_last rfl (by assumption) (by omega) (by omega) ?_ | refine zw_iadd rfl (by omega) (by omega) ?_ | refine zw_isub rfl (by omega) (by omega) ?_ | refine zw_iinc rfl rfl rfl (by omega) (by omega) ?_ | refine zw_imul rfl (by omega) (by omega) ?_)
    refine zw_icmp_lt rfl (fun h1 => five (by omega)) (fun h1 => ?_)
    repeat (first | refine zw_t rfl rfl ?_ | refine zw_jump rfl rfl ?_ | refine zw_getI rfl rfl (by assumption) ?_ | refine zw_ialn rfl (by assumption) (by omega) ?_ | refine zw_laln rfl (by assumption) (by omega) ?_ | refine zw_iastn rfl (by omega) (by assumption) (by omega) ?_ | refine zw_lastn rfl (by assumption) (by omega) ?_ | refine zw_iald0 rfl (by assumption) (by omega) ?_ | refine zw_lald0 rfl (by assumption) (by omega) ?_ | refine zw_aaln rfl (by assumption) rfl (by omega) ?_ | refine zw_getR rfl (by assumption) (by assumption) ?_ | refine zw_alen rfl (by assumption) rfl ?_ | refine zw_iald rfl (by assumption) (by omega) (by omega) ?_ | refine zw_iast rfl (by omega) (by assumption) (by omega) (by omega) ?_ | refine zw_putI rfl (by assumption) ?_ | refine zw_lald rfl (by assumption) (by omega) (by omega) ?_ | refine zw_last rfl (by assumption) (by omega) (by omega) ?_ | refine zw_iadd rfl (by omega) (by omega) ?_ | refine zw_isub rfl (by omega) (by omega) ?_ | refine zw_iinc rfl rfl rfl (by omega) (by omega) ?_ | refine zw_imul rfl (by omega) (by omega) ?_)
    refine zw_icmp_gt rfl (fun h2 => five (by omega)) (fun h2 => ?_)
    repeat (first | refine zw_t rfl rfl ?_ | refine zw_jump rfl rfl ?_ | refine zw_getI rfl rfl (by assumption) ?_ | refine zw_ialn rfl (by assumption) (by omega) ?_ | refine zw_laln rfl (by assumption) (by omega) ?_ | refine zw_iastn rfl (by omega) (by assumption) (by omega) ?_ | refine zw_lastn rfl (by assumption) (by omega) ?_ | refine zw_iald0 rfl (by assumption) (by omega) ?_ | refine zw_lald0 rfl (by assumption) (by omega) ?_ | refine zw_aaln rfl (by assumption) rfl (by omega) ?_ | refine zw_getR rfl (by assumption) (by assumption) ?_ | refine zw_alen rfl (by assumption) rfl ?_ | refine zw_iald rfl (by assumption) (by omega) (by omega) ?_ | refine zw_iast rfl (by omega) (by assumption) (by omega) (by omega) ?_ | refine zw_putI rfl (by assumption) ?_ | refine zw_lald rfl (by assumption) (by omega) (by omega) ?_ | refine zw_last rfl (by assumption) (by omega) (by omega) ?_ | refine zw_iadd rfl (by omega) (by omega) ?_ | refine zw_isub rfl (by omega) (by omega) ?_ | refine zw_iinc rfl rfl rfl (by omega) (by omega) ?_ | refine zw_imul rfl (by omega) (by omega) ?_)
    refine zw_icmp_lt rfl (fun h3 => five (by omega)) (fun h3 => ?_)
    repeat (first | refine zw_t rfl rfl ?_ | refine zw_jump rfl rfl ?_ | refine zw_getI rfl rfl (by assumption) ?_ | refine zw_ialn rfl (by assumption) (by omega) ?_ | refine zw_laln rfl (by assumption) (by omega) ?_ | refine zw_iastn rfl (by omega) (by assumption) (by omega) ?_ | refine zw_lastn rfl (by assumption) (by omega) ?_ | refine zw_iald0 rfl (by assumption) (by omega) ?_ | refine zw_lald0 rfl (by assumption) (by omega) ?_ | refine zw_aaln rfl (by assumption) rfl (by omega) ?_ | refine zw_getR rfl (by assumption) (by assumption) ?_ | refine zw_alen rfl (by assumption) rfl ?_ | refine zw_iald rfl (by assumption) (by omega) (by omega) ?_ | refine zw_iast rfl (by omega) (by assumption) (by omega) (by omega) ?_ | refine zw_putI rfl (by assumption) ?_ | refine zw_lald rfl (by assumption) (by omega) (by omega) ?_ | refine zw_last rfl (by assumption) (by omega) (by omega) ?_ | refine zw_iadd rfl (by omega) (by omega) ?_ | refine zw_isub rfl (by omega) (by omega) ?_ | refine zw_iinc rfl rfl rfl (by omega) (by omega) ?_ | refine zw_imul rfl (by omega) (by omega) ?_)
    refine zw_icmp_le rfl (fun h4 => ?_) (fun h4 => five (by omega))
    rw [if_pos (by omega)] at K
    obtain ⟨n, rfl⟩ : ∃ n : Nat, e = (n : Int) := ⟨e.toNat, by omega⟩
    obtain ⟨j, rfl⟩ : ∃ j : Nat, m = (j : Int) := ⟨m.toNat, by omega⟩
    obtain ⟨t, rfl⟩ : ∃ t : Nat, to = (t : Int) := ⟨to.toNat, by omega⟩
    rw [Int.toNat_natCast, Int.toNat_natCast] at K
    have hlen := z_rgb_len (n := n) (m := j) (by omega) (by omega)
    have hgd : ∀ r ∈ z_rgb n j, ZGd n j r := fun r hr => (z_rgb_gd (by omega) (by omega) hr).1
    have hz := ZCu.start h
    have el : z_rgb n j = z_rs n (z_or n) (j - 1) 1 0 1 (1 <<< n) 0 := rfl
    obtain ⟨l, hl⟩ : ∃ l, l = z_rgb n j := ⟨_, rfl⟩
    rw [← hl] at K hlen hgd el
    have fin : ∀ F2 I2, ZCu A F I L F2 I2 → ZAc F2 I2 i l → ZW (d + 14) 207 82 [some (.inr (.inr (some 79))), some (.inl (n : Int)), some (.inl (j : Int)), some (.inl i), some (.inl (t : Int))] [] (k, F2, I2, L, R) Q := by
      intro F2 I2 z2 hac
      have h16 := hac.1
      have nine : ¬ (0 ≤ i ∧ i < (l.length : Int)) → ZW (d + 14) 207 94 [some (.inr (.inr (some 79))), some (.inl (n : Int)), some (.inl (j : Int)), some (.inl i), some (.inl (t : Int))] [] (k, F2, I2, L, R) Q := by
        intro hb
        rw [show sp_settle A l i (n : Int) (t : Int) = (-1, A.1, A.2.1, 9) from if_neg hb] at K
        repeat (first | refine zw_t rfl rfl ?_ | refine zw_jump rfl rfl ?_ | refine zw_getI rfl rfl (by assumption) ?_ | refine zw_ialn rfl (by assumption) (by omega) ?_ | refine zw_laln rfl (by assumption) (by omega) ?_ | refine zw_iastn rfl (by omega) (by assumption) (by omega) ?_ | refine zw_lastn rfl (by assumption) (by omega) ?_ | refine zw_iald0 rfl (by assumption) (by omega) ?_ | refine zw_lald0 rfl (by assumption) (by omega) ?_ | refine zw_aaln rfl (by assumption) rfl (by omega) ?_ | refine zw_getR rfl (by assumption) (by assumption) ?_ | refine zw_alen rfl (by assumption) rfl ?_ | refine zw_iald rfl (by assumption) (by omega) (by omega) ?_ | refine zw_iast rfl (by omega) (by assumption) (by omega) (by omega) ?_ | refine zw_putI rfl (by assumption) ?_ | refine zw_lald rfl (by assumption) (by omega) (by omega) ?_ | refine zw_last rfl (by assumption) (by omega) (by omega) ?_ | refine zw_iadd rfl (by omega) (by omega) ?_ | refine zw_isub rfl (by omega) (by omega) ?_ | refine zw_iinc rfl rfl rfl (by omega) (by omega) ?_ | refine zw_imul rfl (by omega) (by omega) ?_)
        refine zw_callv rfl rfl rfl rfl rfl rfl (by assumption) ?_
        refine ZC.le (show 0 + 1 ≤ _ by omega) ?_
        refine c_mnone hT ?_
        exact zw_iret rfl (K _ _ _ (z2.stat 9).1 (z2.stat 9).2)
      repeat (first | refine zw_t rfl rfl ?_ | refine zw_jump rfl rfl ?_ | refine zw_getI rfl rfl (by assumption) ?_ | refine zw_ialn rfl (by assumption) (by omega) ?_ | refine zw_laln rfl (by assumption) (by omega) ?_ | refine zw_iastn rfl (by omega) (by assumption) (by omega) ?_ | refine zw_lastn rfl (by assumption) (by omega) ?_ | refine zw_iald0 rfl (by assumption) (by omega) ?_ | refine zw_lald0 rfl (by assumption) (by omega) ?_ | refine zw_aaln rfl (by assumption) rfl (by omega) ?_ | refine zw_getR rfl (by assumption) (by assumption) ?_ | refine zw_alen rfl (by assumption) rfl ?_ | refine zw_iald rfl (by assumption) (by omega) (by omega) ?_ | refine zw_iast rfl (by omega) (by assumption) (by omega) (by omega) ?_ | refine zw_putI rfl (by assumption) ?_ | refine zw_lald rfl (by assumption) (by omega) (by omega) ?_ | refine zw_last rfl (by assumption) (by omega) (by omega) ?_ | refine zw_iadd rfl (by omega) (by omega) ?_ | refine zw_isub rfl (by omega) (by omega) ?_ | refine zw_iinc rfl rfl rfl (by omega) (by omega) ?_ | refine zw_imul rfl (by omega) (by omega) ?_)
      refine zw_if_lt rfl (fun h5 => nine (by omega)) (fun h5 => ?_)
      repeat (first | refine zw_t rfl rfl ?_ | refine zw_jump rfl rfl ?_ | refine zw_getI rfl rfl (by assumption) ?_ | refine zw_ialn rfl (by assumption) (by omega) ?_ | refine zw_laln rfl (by assumption) (by omega) ?_ | refine zw_iastn rfl (by omega) (by assumption) (by omega) ?_ | refine zw_lastn rfl (by assumption) (by omega) ?_ | refine zw_iald0 rfl (by assumption) (by omega) ?_ | refine zw_lald0 rfl (by assumption) (by omega) ?_ | refine zw_aaln rfl (by assumption) rfl (by omega) ?_ | refine zw_getR rfl (by assumption) (by assumption) ?_ | refine zw_alen rfl (by assumption) rfl ?_ | refine zw_iald rfl (by assumption) (by omega) (by omega) ?_ | refine zw_iast rfl (by omega) (by assumption) (by omega) (by omega) ?_ | refine zw_putI rfl (by assumption) ?_ | refine zw_lald rfl (by assumption) (by omega) (by omega) ?_ | refine zw_last rfl (by assumption) (by omega) (by omega) ?_ | refine zw_iadd rfl (by omega) (by omega) ?_ | refine zw_isub rfl (by omega) (by omega) ?_ | refine zw_iinc rfl rfl rfl (by omega) (by omega) ?_ | refine zw_imul rfl (by omega) (by omega) ?_)
      rw [h16]
      refine zw_icmp_lt rfl (fun h6 => ?_) (fun h6 => nine (by omega))
      rw [show sp_settle A l i (n : Int) (t : Int) = ((l.length : Int), A.1, z_up A.2.1 t ((z_row (l.getD i.toNat 0)).2, (n : Int), (z_row (l.getD i.toNat 0)).1), 0) from if_pos ⟨h5, h6⟩] at K
      repeat (first | refine zw_t rfl rfl ?_ | refine zw_jump rfl rfl ?_ | refine zw_getI rfl rfl (by assumption) ?_ | refine zw_ialn rfl (by assumption) (by omega) ?_ | refine zw_laln rfl (by assumption) (by omega) ?_ | refine zw_iastn rfl (by omega) (by assumption) (by omega) ?_ | refine zw_lastn rfl (by assumption) (by omega) ?_ | refine zw_iald0 rfl (by assumption) (by omega) ?_ | refine zw_lald0 rfl (by assumption) (by omega) ?_ | refine zw_aaln rfl (by assumption) rfl (by omega) ?_ | refine zw_getR rfl (by assumption) (by assumption) ?_ | refine zw_alen rfl (by assumption) rfl ?_ | refine zw_iald rfl (by assumption) (by omega) (by omega) ?_ | refine zw_iast rfl (by omega) (by assumption) (by omega) (by omega) ?_ | refine zw_putI rfl (by assumption) ?_ | refine zw_lald rfl (by assumption) (by omega) (by omega) ?_ | refine zw_last rfl (by assumption) (by omega) (by omega) ?_ | refine zw_iadd rfl (by omega) (by omega) ?_ | refine zw_isub rfl (by omega) (by omega) ?_ | refine zw_iinc rfl rfl rfl (by omega) (by omega) ?_ | refine zw_imul rfl (by omega) (by omega) ?_)
      refine zw_callv rfl rfl rfl rfl rfl rfl (by assumption) ?_
      refine ZC.le (show 0 + 2 ≤ _ by omega) ?_
      refine c_giveAnswer (rd := (n : Int)) hk z2 hac h5 h6 (by omega) hgd (by omega) (by omega) (Or.inr ⟨by omega, by omega, rfl⟩) (fun F3 I3 z3 e16 => ?_)
      repeat (first | refine zw_t rfl rfl ?_ | refine zw_jump rfl rfl ?_ | refine zw_getI rfl rfl (by assumption) ?_ | refine zw_ialn rfl (by assumption) (by omega) ?_ | refine zw_laln rfl (by assumption) (by omega) ?_ | refine zw_iastn rfl (by omega) (by assumption) (by omega) ?_ | refine zw_lastn rfl (by assumption) (by omega) ?_ | refine zw_iald0 rfl (by assumption) (by omega) ?_ | refine zw_lald0 rfl (by assumption) (by omega) ?_ | refine zw_aaln rfl (by assumption) rfl (by omega) ?_ | refine zw_getR rfl (by assumption) (by assumption) ?_ | refine zw_alen rfl (by assumption) rfl ?_ | refine zw_iald rfl (by assumption) (by omega) (by omega) ?_ | refine zw_iast rfl (by omega) (by assumption) (by omega) (by omega) ?_ | refine zw_putI rfl (by assumption) ?_ | refine zw_lald rfl (by assumption) (by omega) (by omega) ?_ | refine zw_last rfl (by assumption) (by omega) (by omega) ?_ | refine zw_iadd rfl (by omega) (by omega) ?_ | refine zw_isub rfl (by omega) (by omega) ?_ | refine zw_iinc rfl rfl rfl (by omega) (by omega) ?_ | refine zw_imul rfl (by omega) (by omega) ?_)
      rw [z_u2_nk _ _ _ _ (show (16 : Nat) ≠ 0 by omega), e16]
      exact zw_iret rfl (K _ _ _ (z3.stat 0).1 (z3.stat 0).2)
    repeat (first | refine zw_t rfl rfl ?_ | refine zw_jump rfl rfl ?_ | refine zw_getI rfl rfl (by assumption) ?_ | refine zw_ialn rfl (by assumption) (by omega) ?_ | refine zw_laln rfl (by assumption) (by omega) ?_ | refine zw_iastn rfl (by omega) (by assumption) (by omega) ?_ | refine zw_lastn rfl (by assumption) (by omega) ?_ | refine zw_iald0 rfl (by assumption) (by omega) ?_ | refine zw_lald0 rfl (by assumption) (by omega) ?_ | refine zw_aaln rfl (by assumption) rfl (by omega) ?_ | refine zw_getR rfl (by assumption) (by assumption) ?_ | refine zw_alen rfl (by assumption) rfl ?_ | refine zw_iald rfl (by assumption) (by omega) (by omega) ?_ | refine zw_iast rfl (by omega) (by assumption) (by omega) (by omega) ?_ | refine zw_putI rfl (by assumption) ?_ | refine zw_lald rfl (by assumption) (by omega) (by omega) ?_ | refine zw_last rfl (by assumption) (by omega) (by omega) ?_ | refine zw_iadd rfl (by omega) (by omega) ?_ | refine zw_isub rfl (by omega) (by omega) ?_ | refine zw_iinc rfl rfl rfl (by omega) (by omega) ?_ | refine zw_imul rfl (by omega) (by omega) ?_)
    obtain ⟨F3, hF3⟩ : ∃ F3, F3 = z_u2 (z_u2 (z_u2 (z_u2 F 79 19 2) 79 14 (j : Int)) 79 15 (n : Int)) 79 17 i := ⟨_, rfl⟩
    rw [← hF3]
    have z3 : ZCu A F I L F3 I := by rw [hF3]; exact (((hz.fld 19 _ (by omega)).fld 14 _ (by omega)).fld 15 _ (by omega)).fld 17 _ (by omega)
    have e19 : F3 79 19 = 2 := by rw [hF3, z_u2_nk _ _ _ _ (by omega), z_u2_nk _ _ _ _ (by omega), z_u2_nk _ _ _ _ (by omega), z_u2_same]
    have e14 : F3 79 14 = (j : Int) := by rw [hF3, z_u2_nk _ _ _ _ (by omega), z_u2_nk _ _ _ _ (by omega), z_u2_same]
    have e15 : F3 79 15 = (n : Int) := by rw [hF3, z_u2_nk _ _ _ _ (by omega), z_u2_same]
    have e17 : F3 79 17 = i := by rw [hF3, z_u2_same]
    refine zw_callv rfl rfl rfl rfl rfl rfl (by assumption) ?_
    refine ZC.le (show 0 + 1 ≤ _ by omega) ?_
    refine c_mclear hk (fun F4 I4 s4 f8 _ f16 i86 i87 _ => ?_)
    have hac : ZAc F4 I4 i [] := ZAc.nil f16
    have hag : ZAgr (I4 86) (fun _ => 0) 1 := fun j hj => by rw [show j = 0 by omega]; exact i86
    have h19 : F4 79 19 = 2 := by rw [s4.1 79 19 (by omega)]; exact e19
    have h17 : F4 79 17 = i := by rw [s4.1 79 17 (by omega)]; exact e17
    have h15 : F4 79 15 = (n : Int) := by rw [s4.1 79 15 (by omega)]; exact e15
    repeat (first | refine zw_t rfl rfl ?_ | refine zw_jump rfl rfl ?_ | refine zw_getI rfl rfl (by assumption) ?_ | refine zw_ialn rfl (by assumption) (by omega) ?_ | refine zw_laln rfl (by assumption) (by omega) ?_ | refine zw_iastn rfl (by omega) (by assumption) (by omega) ?_ | refine zw_lastn rfl (by assumption) (by omega) ?_ | refine zw_iald0 rfl (by assumption) (by omega) ?_ | refine zw_lald0 rfl (by assumption) (by omega) ?_ | refine zw_aaln rfl (by assumption) rfl (by omega) ?_ | refine zw_getR rfl (by assumption) (by assumption) ?_ | refine zw_alen rfl (by assumption) rfl ?_ | refine zw_iald rfl (by assumption) (by omega) (by omega) ?_ | refine zw_iast rfl (by omega) (by assumption) (by omega) (by omega) ?_ | refine zw_putI rfl (by assumption) ?_ | refine zw_lald rfl (by assumption) (by omega) (by omega) ?_ | refine zw_last rfl (by assumption) (by omega) (by omega) ?_ | refine zw_iadd rfl (by omega) (by omega) ?_ | refine zw_isub rfl (by omega) (by omega) ?_ | refine zw_iinc rfl rfl rfl (by omega) (by omega) ?_ | refine zw_imul rfl (by omega) (by omega) ?_)
    by_cases hj1 : j = 1
    · subst hj1
      refine zw_icmp_ne_f rfl rfl ?_
      repeat (first | refine zw_t rfl rfl ?_ | refine zw_jump rfl rfl ?_ | refine zw_getI rfl rfl (by assumption) ?_ | refine zw_ialn rfl (by assumption) (by omega) ?_ | refine zw_laln rfl (by assumption) (by omega) ?_ | refine zw_iastn rfl (by omega) (by assumption) (by omega) ?_ | refine zw_lastn rfl (by assumption) (by omega) ?_ | refine zw_iald0 rfl (by assumption) (by omega) ?_ | refine zw_lald0 rfl (by assumption) (by omega) ?_ | refine zw_aaln rfl (by assumption) rfl (by omega) ?_ | refine zw_getR rfl (by assumption) (by assumption) ?_ | refine zw_alen rfl (by assumption) rfl ?_ | refine zw_iald rfl (by assumption) (by omega) (by omega) ?_ | refine zw_iast rfl (by omega) (by assumption) (by omega) (by omega) ?_ | refine zw_putI rfl (by assumption) ?_ | refine zw_lald rfl (by assumption) (by omega) (by omega) ?_ | refine zw_last rfl (by assumption) (by omega) (by omega) ?_ | refine zw_iadd rfl (by omega) (by omega) ?_ | refine zw_isub rfl (by omega) (by omega) ?_ | refine zw_iinc rfl rfl rfl (by omega) (by omega) ?_ | refine zw_imul rfl (by omega) (by omega) ?_)
      refine zw_callv rfl rfl rfl rfl rfl rfl (by assumption) ?_
      refine ZC.le (show 0 + 4 ≤ _ by omega) ?_
      have hg1 : ZGd n 1 1 := z_gd1 (by omega)
      have hrow : ZRow (fun _ => 0) 1 (n : Int) := hg1.zrow ZMR.one (by omega) (by omega) (Or.inr ⟨by omega, by omega, rfl⟩)
      refine c_mtells (c := 1) (w := fun _ => 0) (mask := 1) (own := z_or n 1) (rd := (n : Int)) hk f8 (by omega) hag ZMR.one hrow (Or.inl ⟨h19, h15⟩) h17 hac (by simp) (z_or_form (by omega) ZMR.one (by omega) hrow) (fun F5 I5 s5 b1 b2 b3 b4 => ?_)
      repeat (refine zw_ne 82 rfl ?_; first | refine zw_t rfl rfl ?_ | refine zw_jump rfl rfl ?_ | refine zw_getI rfl rfl (by assumption) ?_ | refine zw_ialn rfl (by assumption) (by omega) ?_ | refine zw_laln rfl (by assumption) (by omega) ?_ | refine zw_iastn rfl (by omega) (by assumption) (by omega) ?_ | refine zw_lastn rfl (by assumption) (by omega) ?_ | refine zw_iald0 rfl (by assumption) (by omega) ?_ | refine zw_lald0 rfl (by assumption) (by omega) ?_ | refine zw_aaln rfl (by assumption) rfl (by omega) ?_ | refine zw_getR rfl (by assumption) (by assumption) ?_ | refine zw_alen rfl (by assumption) rfl ?_ | refine zw_iald rfl (by assumption) (by omega) (by omega) ?_ | refine zw_iast rfl (by omega) (by assumption) (by omega) (by omega) ?_ | refine zw_putI rfl (by assumption) ?_ | refine zw_lald rfl (by assumption) (by omega) (by omega) ?_ | refine zw_last rfl (by assumption) (by omega) (by omega) ?_ | refine zw_iadd rfl (by omega) (by omega) ?_ | refine zw_isub rfl (by omega) (by omega) ?_ | refine zw_iinc rfl rfl rfl (by omega) (by omega) ?_ | refine zw_imul rfl (by omega) (by omega) ?_)
      refine fin F5 I5 (s5.cu (s4.cu z3)) ?_
      rw [el]
      exact b4
    · refine zw_icmp_ne_t rfl (by omega) ?_
      repeat (first | refine zw_t rfl rfl ?_ | refine zw_jump rfl rfl ?_ | refine zw_getI rfl rfl (by assumption) ?_ | refine zw_ialn rfl (by assumption) (by omega) ?_ | refine zw_laln rfl (by assumption) (by omega) ?_ | refine zw_iastn rfl (by omega) (by assumption) (by omega) ?_ | refine zw_lastn rfl (by assumption) (by omega) ?_ | refine zw_iald0 rfl (by assumption) (by omega) ?_ | refine zw_lald0 rfl (by assumption) (by omega) ?_ | refine zw_aaln rfl (by assumption) rfl (by omega) ?_ | refine zw_getR rfl (by assumption) (by assumption) ?_ | refine zw_alen rfl (by assumption) rfl ?_ | refine zw_iald rfl (by assumption) (by omega) (by omega) ?_ | refine zw_iast rfl (by omega) (by assumption) (by omega) (by omega) ?_ | refine zw_putI rfl (by assumption) ?_ | refine zw_lald rfl (by assumption) (by omega) (by omega) ?_ | refine zw_last rfl (by assumption) (by omega) (by omega) ?_ | refine zw_iadd rfl (by omega) (by omega) ?_ | refine zw_isub rfl (by omega) (by omega) ?_ | refine zw_iinc rfl rfl rfl (by omega) (by omega) ?_ | refine zw_imul rfl (by omega) (by omega) ?_)
      refine zw_callv rfl rfl rfl rfl rfl rfl (by assumption) ?_
      have hG := z_gors (k := k) (L := L) (R := R) (n := n) (ask := i) (d := 0) hk (by omega) (j - 2)
      refine ZC.le (show 0 + (j - 2) + 4 + 1 ≤ _ by omega) ?_
      rw [show j - 1 = j - 2 + 1 by omega] at el
      refine hG 1 0 1 (1 <<< n) 0 1 (fun _ => 0) (I4 87) F4 I4 [] _ (by rw [s4.1 79 14 (by omega), e14]; omega) h15 h17 h19 f8 ZLn.one ZLa.one ZMR.one hag rfl (fun x hx => by rw [i87 x hx]; unfold z_fb; rw [Nat.zero_testBit, if_neg (by decide)]) (fun x _ => Nat.zero_testBit x) (by omega) (by omega) hac (by rw [← el]; simp; omega) (fun F5 I5 s5 b1 b2 b3 b4 => ?_)
      refine fin F5 I5 (s5.cu (s4.cu z3)) ?_
      rw [el]
      exact b4
  · rw [if_neg hx] at K ⊢
    refine zw_if_ne_f rfl rfl ?_
    repeat (first | refine zw_t rfl rfl ?_ | refine zw_jump rfl rfl ?_ | refine zw_getI rfl rfl (by assumption) ?_ | refine zw_ialn rfl (by assumption) (by omega) ?_ | refine zw_laln rfl (by assumption) (by omega) ?_ | refine zw_iastn rfl (by omega) (by assumption) (by omega) ?_ | refine zw_lastn rfl (by assumption) (by omega) ?_ | refine zw_iald0 rfl (by assumption) (by omega) ?_ | refine zw_lald0 rfl (by assumption) (by omega) ?_ | refine zw_aaln rfl (by assumption) rfl (by omega) ?_ | refine zw_getR rfl (by assumption) (by assumption) ?_ | refine zw_alen rfl (by assumption) rfl ?_ | refine zw_iald rfl (by assumption) (by omega) (by omega) ?_ | refine zw_iast rfl (by omega) (by assumption) (by omega) (by omega) ?_ | refine zw_putI rfl (by assumption) ?_ | refine zw_lald rfl (by assumption) (by omega) (by omega) ?_ | refine zw_last rfl (by assumption) (by omega) (by omega) ?_ | refine zw_iadd rfl (by omega) (by omega) ?_ | refine zw_isub rfl (by omega) (by omega) ?_ | refine zw_iinc rfl rfl rfl (by omega) (by omega) ?_ | refine zw_imul rfl (by omega) (by omega) ?_)
    refine zw_callv rfl rfl rfl rfl rfl rfl (by assumption) ?_
    refine c_mnone hT ?_
    exact zw_iret rfl (K _ _ _ (z_mref h 2).1 (z_mref h 2).2)
end ZRef15
