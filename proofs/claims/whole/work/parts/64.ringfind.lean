/-! RINGS: the class's search and its call -/
/-- all but what was found, the candidate and the forms' own places is as it was -/
def ZRr (F F' I I' : Nat → Nat → Int) (L L' : Nat → Nat → Int64) : Prop := (∀ a j, a ≠ 9 → a ≠ 10 → a ≠ 12 → a ≠ 73 → ¬ (a = 66 ∧ j = 1) → F' a j = F a j) ∧ (∀ a, a ≠ 11 → a ≠ 13 → a ≠ 14 → a ≠ 74 → I' a = I a) ∧ (∀ a, a ≠ 67 → L' a = L a)
theorem ZRr.refl (F I : Nat → Nat → Int) (L : Nat → Nat → Int64) : ZRr F F I I L L := ⟨fun _ _ _ _ _ _ _ => rfl, fun _ _ _ _ _ => rfl, fun _ _ => rfl⟩
theorem ZRr.trans {F F' F2 I I' I2 : Nat → Nat → Int} {L L' L2 : Nat → Nat → Int64} (h : ZRr F F' I I' L L') (h' : ZRr F' F2 I' I2 L' L2) : ZRr F F2 I I2 L L2 := ⟨fun a j q1 q2 q3 q4 q5 => (h'.1 a j q1 q2 q3 q4 q5).trans (h.1 a j q1 q2 q3 q4 q5), fun a q1 q2 q3 q4 => (h'.2.1 a q1 q2 q3 q4).trans (h.2.1 a q1 q2 q3 q4), fun a q => (h'.2.2 a q).trans (h.2.2 a q)⟩
theorem z_or_of {n m c : Nat} {w : Nat → Int} (hw : ZMR m w c) (h : ∀ a : Nat, 1 ≤ a → a < n → Nat.gcd a n = 1 → ∀ h, ZCan w c n a h → z_bef h w (c - 1) 1 = false) : ZOr n m := by
  intro v e hv a a1 a2 a3 g hg
  have hce := hv.cnt hw
  subst hce
  have ag := hv.agr hw
  rw [← h a a1 a2 a3 g (hg.cong ag)]
  exact z_bef_cong _ _ (fun j _ _ => rfl) (fun j q1 q2 => ag j (by omega))
theorem z_less {ahead y last : Nat} (h1 : last ≤ y) (h2 : y < 64) (h3 : ahead < 2 ^ 64) : ((Int64.ofNat ahead).toUInt64 >>> ((Int32.ofInt ((y : Int) - (last : Int))).toInt64.toUInt64 &&& Int64.toUInt64 63)).toInt64 = Int64.ofNat (ahead >>> (y - last)) := by
  rw [show (y : Int) - (last : Int) = ((y - last : Nat) : Int) by omega, z_on_shr _ _ (by omega) h3]
theorem z_shr_lt {a s n : Nat} (h : a < 2 ^ n) : a >>> s < 2 ^ n := Nat.lt_of_le_of_lt (Nat.shiftRight_le a s) h
section ZRing
variable {k : ZK} {R : Nat → Nat → Option Nat} {n : Nat}
theorem c_rgx (hf : ZFo k 9) (T72 : k.1 72 = (1, 7)) (G0 : k.2.1 72 0 = some 66) (G1 : k.2.1 72 1 = some 9) (G2 : k.2.1 72 2 = some 73) (hr73 : ZRu k 73) (T66 : k.1 66 = (1, 3)) (G66 : k.2.1 66 0 = some 67) (T67 : k.1 67 = (3, 512)) (hn : 2 ≤ n ∧ n ≤ 40) :
    ∀ (left d mask last back ahead barred c0 : Nat) (F I : Nat → Nat → Int) (L : Nat → Nat → Int64) (fl : List Nat) (Q : Option ZV → ZH → Prop), F 72 4 = (n : Int) → ZFoI F I 9 → last < n → mask < 2 ^ (last + 1) → back < 2 ^ (last + 1) → ahead < 2 ^ 41 → barred < 2 ^ 41 → ZGd n c0 mask → c0 + left ≤ 24 → ZFd F L fl → fl.length + (z_rp n (z_or n) left mask last back ahead barred).length ≤ 512 →
      (∀ F' I' L', ZRr F F' I I' L L' → ZFoI F' I' 9 → ZFd F' L' (fl ++ z_rp n (z_or n) left mask last back ahead barred) → Q none (k, F', I', L', R)) → ZC (d + left + 5) 56 [.inr (.inr (some 72)), .inr (.inl (Int64.ofNat mask)), .inl (last : Int), .inl (left : Int), .inr (.inl (Int64.ofNat back)), .inr (.inl (Int64.ofNat ahead)), .inr (.inl (Int64.ofNat barred))] (k, F, I, L, R) Q := by
  intro left
  induction left with
  | zero =>
    intro d mask last back ahead barred c0 F I L fl Q f4 hfi hlast hm hb ha hba hg hc24 hfd hcap K
    have e : z_rp n (z_or n) 0 mask last back ahead barred = bif z_or n mask then [mask] else [] := rfl
    have T9 := hf.1
    have T73 := hr73.2.1
    have hm64 : mask < 2 ^ 64 := z_up_lt hm (by omega)
    have gmr := z_rdm_mr hm64 (I (73 + 1))
    obtain ⟨w0, hw0⟩ := hg.2.2
    have gc := gmr.cnt hw0
    refine ze_RingSearch_extend ?_
    repeat (first | refine zw_t rfl rfl ?_ | refine zw_jump rfl rfl ?_ | refine zw_getI rfl rfl (by assumption) ?_ | refine zw_ialn rfl (by assumption) (by omega) ?_ | refine zw_laln rfl (by assumption) (by omega) ?_ | refine zw_iastn rfl (by omega) (by assumption) (by omega) ?_ | refine zw_lastn rfl (by assumption) (by omega) ?_ | refine zw_iald0 rfl (by assumption) (by omega) ?_ | refine zw_lald0 rfl (by assumption) (by omega) ?_ | refine zw_aaln rfl (by assumption) rfl (by omega) ?_ | refine zw_getR rfl (by assumption) (by assumption) ?_ | refine zw_alen rfl (by assumption) rfl ?_ | refine zw_iald rfl (by assumption) (by omega) (by omega) ?_ | refine zw_iast rfl (by omega) (by assumption) (by omega) (by omega) ?_ | refine zw_putI rfl (by assumption) ?_ | refine zw_lald rfl (by assumption) (by omega) (by omega) ?_ | refine zw_last rfl (by assumption) (by omega) (by omega) ?_ | refine zw_iadd rfl (by omega) (by omega) ?_ | refine zw_isub rfl (by omega) (by omega) ?_ | refine zw_iinc rfl rfl rfl (by omega) (by omega) ?_)
    refine zw_if_gt_f rfl (by omega) ?_
    repeat (first | refine zw_t rfl rfl ?_ | refine zw_jump rfl rfl ?_ | refine zw_getI rfl rfl (by assumption) ?_ | refine zw_ialn rfl (by assumption) (by omega) ?_ | refine zw_laln rfl (by assumption) (by omega) ?_ | refine zw_iastn rfl (by omega) (by assumption) (by omega) ?_ | refine zw_lastn rfl (by assumption) (by omega) ?_ | refine zw_iald0 rfl (by assumption) (by omega) ?_ | refine zw_lald0 rfl (by assumption) (by omega) ?_ | refine zw_aaln rfl (by assumption) rfl (by omega) ?_ | refine zw_getR rfl (by assumption) (by assumption) ?_ | refine zw_alen rfl (by assumption) rfl ?_ | refine zw_iald rfl (by assumption) (by omega) (by omega) ?_ | refine zw_iast rfl (by omega) (by assumption) (by omega) (by omega) ?_ | refine zw_putI rfl (by assumption) ?_ | refine zw_lald rfl (by assumption) (by omega) (by omega) ?_ | refine zw_last rfl (by assumption) (by omega) (by omega) ?_ | refine zw_iadd rfl (by omega) (by omega) ?_ | refine zw_isub rfl (by omega) (by omega) ?_ | refine zw_iinc rfl rfl rfl (by omega) (by omega) ?_)
    rw [f4]
    refine zw_callv rfl rfl rfl rfl rfl rfl (by assumption) ?_
    refine c_readMask hr73 (by rw [gc]; omega) ?_
    obtain ⟨w, hw⟩ : ∃ w, w = (z_rdm (z_lb (Int64.ofNat mask)) (I (73 + 1)) 0 0 64).1 := ⟨_, rfl⟩
    rw [gc, ← hw]
    rw [gc, ← hw] at gmr
    obtain ⟨F1, hF1⟩ : ∃ F1, F1 = z_u2 (z_u2 F 73 1 (c0 : Int)) 73 2 (n : Int) := ⟨_, rfl⟩
    obtain ⟨I1, hI1⟩ : ∃ I1, I1 = z_up I (73 + 1) w := ⟨_, rfl⟩
    rw [← hF1, ← hI1]
    have i1 : I1 (73 + 1) = w := by rw [hI1, z_up_same]
    have g1 : F1 73 1 = (c0 : Int) := by rw [hF1, z_u2_nk _ _ _ _ (by omega), z_u2_same]
    have g2 : F1 73 2 = (n : Int) := by rw [hF1, z_u2_same]
    have fr1 : ∀ a, a ≠ 73 → F1 a = F a := fun a q => by rw [hF1, z_u2_ad _ _ _ q, z_u2_ad _ _ _ q]
    have ir1 : ∀ a, a ≠ 74 → I1 a = I a := fun a q => by rw [hI1, z_up_ne _ _ q]
    have hfi1 : ZFoI F1 I1 9 := by
      obtain ⟨u, q1, q2, q3⟩ := hfi
      unfold ZFoI
      rw [fr1 9 (by omega), ir1 (9 + 5) (by omega)]
      exact ⟨u, q1, q2, q3⟩
    repeat (first | refine zw_t rfl rfl ?_ | refine zw_jump rfl rfl ?_ | refine zw_getI rfl rfl (by assumption) ?_ | refine zw_ialn rfl (by assumption) (by omega) ?_ | refine zw_laln rfl (by assumption) (by omega) ?_ | refine zw_iastn rfl (by omega) (by assumption) (by omega) ?_ | refine zw_lastn rfl (by assumption) (by omega) ?_ | refine zw_iald0 rfl (by assumption) (by omega) ?_ | refine zw_lald0 rfl (by assumption) (by omega) ?_ | refine zw_aaln rfl (by assumption) rfl (by omega) ?_ | refine zw_getR rfl (by assumption) (by assumption) ?_ | refine zw_alen rfl (by assumption) rfl ?_ | refine zw_iald rfl (by assumption) (by omega) (by omega) ?_ | refine zw_iast rfl (by omega) (by assumption) (by omega) (by omega) ?_ | refine zw_putI rfl (by assumption) ?_ | refine zw_lald rfl (by assumption) (by omega) (by omega) ?_ | refine zw_last rfl (by assumption) (by omega) (by omega) ?_ | refine zw_iadd rfl (by omega) (by omega) ?_ | refine zw_isub rfl (by omega) (by omega) ?_ | refine zw_iinc rfl rfl rfl (by omega) (by omega) ?_)
    refine zw_callv rfl rfl rfl rfl rfl rfl (by assumption) ?_
    refine c_isOwnRingForm (c := c0) (w := w) (e := n) hf hfi1 hr73 (by omega) (gmr.zero hg.2.1).1 (by omega) (by omega) g1 g2 i1 gmr.1 (fun j hj => gmr.lt hg.1 hj) (fun F' I' b hk hi hb => ?_)
    have rr : ZRr F F' I I' L L := by
      refine ⟨fun a j q1 q2 q3 q4 q5 => ?_, fun a q1 q2 q3 q4 => ?_, fun a q => rfl⟩
      · rw [hk.1 a (by omega) (by omega) (by omega), fr1 a (by omega)]
      · rw [hk.2 a (by omega) (by omega) (by omega), ir1 a (by omega)]
    have hfd' : ZFd F' L fl := ⟨by rw [hk.1 66 (by omega) (by omega) (by omega), fr1 66 (by omega)]; exact hfd.1, hfd.2⟩
    rcases hb with ⟨hb1, hb2⟩ | ⟨hb1, a, a1, a2, a3, g, hg1, hg2⟩
    · subst hb1
      have ho : z_or n mask = true := z_or_iff.2 (z_or_of gmr hb2)
      rw [e, ho, cond_true] at K hcap
      refine zw_if_eq_f rfl (by decide) ?_
      repeat (first | refine zw_t rfl rfl ?_ | refine zw_jump rfl rfl ?_ | refine zw_getI rfl rfl (by assumption) ?_ | refine zw_ialn rfl (by assumption) (by omega) ?_ | refine zw_laln rfl (by assumption) (by omega) ?_ | refine zw_iastn rfl (by omega) (by assumption) (by omega) ?_ | refine zw_lastn rfl (by assumption) (by omega) ?_ | refine zw_iald0 rfl (by assumption) (by omega) ?_ | refine zw_lald0 rfl (by assumption) (by omega) ?_ | refine zw_aaln rfl (by assumption) rfl (by omega) ?_ | refine zw_getR rfl (by assumption) (by assumption) ?_ | refine zw_alen rfl (by assumption) rfl ?_ | refine zw_iald rfl (by assumption) (by omega) (by omega) ?_ | refine zw_iast rfl (by omega) (by assumption) (by omega) (by omega) ?_ | refine zw_putI rfl (by assumption) ?_ | refine zw_lald rfl (by assumption) (by omega) (by omega) ?_ | refine zw_last rfl (by assumption) (by omega) (by omega) ?_ | refine zw_iadd rfl (by omega) (by omega) ?_ | refine zw_isub rfl (by omega) (by omega) ?_ | refine zw_iinc rfl rfl rfl (by omega) (by omega) ?_)
      refine zw_callv rfl rfl rfl rfl rfl rfl (by assumption) ?_
      refine c_fnote T66 G66 T67 hfd'.1 (by simp at hcap; omega) ?_
      repeat (first | refine zw_t rfl rfl ?_ | refine zw_jump rfl rfl ?_ | refine zw_getI rfl rfl (by assumption) ?_ | refine zw_ialn rfl (by assumption) (by omega) ?_ | refine zw_laln rfl (by assumption) (by omega) ?_ | refine zw_iastn rfl (by omega) (by assumption) (by omega) ?_ | refine zw_lastn rfl (by assumption) (by omega) ?_ | refine zw_iald0 rfl (by assumption) (by omega) ?_ | refine zw_lald0 rfl (by assumption) (by omega) ?_ | refine zw_aaln rfl (by assumption) rfl (by omega) ?_ | refine zw_getR rfl (by assumption) (by assumption) ?_ | refine zw_alen rfl (by assumption) rfl ?_ | refine zw_iald rfl (by assumption) (by omega) (by omega) ?_ | refine zw_iast rfl (by omega) (by assumption) (by omega) (by omega) ?_ | refine zw_putI rfl (by assumption) ?_ | refine zw_lald rfl (by assumption) (by omega) (by omega) ?_ | refine zw_last rfl (by assumption) (by omega) (by omega) ?_ | refine zw_iadd rfl (by omega) (by omega) ?_ | refine zw_isub rfl (by omega) (by omega) ?_ | refine zw_iinc rfl rfl rfl (by omega) (by omega) ?_)
      have nt := ZFr.note F' L ((fl.length : Int) + 1) fl.length (Int64.ofNat mask)
      refine zw_vret rfl (K _ _ _ (rr.trans ⟨fun a j q1 q2 q3 q4 q5 => nt.1 a j q5, fun a _ _ _ _ => rfl, nt.2⟩) ?_ (hfd'.add mask))
      obtain ⟨u, q1, q2, q3⟩ := hi
      unfold ZFoI
      rw [z_u2_ad _ _ _ (by omega)]
      exact ⟨u, q1, q2, q3⟩
    · subst hb1
      have ho : z_or n mask = false := by
        rw [Bool.eq_false_iff]
        intro q
        have := z_or_iff.1 q w c0 gmr a a1 a2 a3 g hg1
        rw [hg2] at this
        cases this
      rw [e, ho, cond_false, List.append_nil] at K
      refine zw_if_eq_t rfl rfl ?_
      exact zw_vret rfl (K _ _ _ rr hi hfd')
  | succ left ih =>
    intro d mask last back ahead barred c0 F I L fl Q f4 hfi hlast hm hb ha hba hg hc24 hfd hcap K
    refine ze_RingSearch_extend ?_
    rw [z_rp_succ] at K hcap
    obtain ⟨g, hgd⟩ : ∃ g : Nat → List Nat, g = (fun y => bif Nat.beq last 0 && !(Nat.beq (n % y) 0) then [] else bif Nat.beq ((back <<< (y - last)) &&& (ahead >>> (y - last))) 0 && Nat.beq (((back <<< (y - last)) ||| (ahead >>> (y - last))) &&& (bif Nat.beq last 0 then z_fnr n y (n - 1) 1 else barred)) 0 then z_rp n (z_or n) left (mask ||| 1 <<< y) y ((back <<< (y - last)) ||| 1) ((ahead >>> (y - last)) ||| 1 <<< n) ((bif Nat.beq last 0 then z_fnr n y (n - 1) 1 else barred) ||| (back <<< (y - last)) ||| (ahead >>> (y - last))) else []) := ⟨_, rfl⟩
    rw [← hgd] at K hcap
    repeat (first | refine zw_t rfl rfl ?_ | refine zw_jump rfl rfl ?_ | refine zw_getI rfl rfl (by assumption) ?_ | refine zw_ialn rfl (by assumption) (by omega) ?_ | refine zw_laln rfl (by assumption) (by omega) ?_ | refine zw_iastn rfl (by omega) (by assumption) (by omega) ?_ | refine zw_lastn rfl (by assumption) (by omega) ?_ | refine zw_iald0 rfl (by assumption) (by omega) ?_ | refine zw_lald0 rfl (by assumption) (by omega) ?_ | refine zw_aaln rfl (by assumption) rfl (by omega) ?_ | refine zw_getR rfl (by assumption) (by assumption) ?_ | refine zw_alen rfl (by assumption) rfl ?_ | refine zw_iald rfl (by assumption) (by omega) (by omega) ?_ | refine zw_iast rfl (by omega) (by assumption) (by omega) (by omega) ?_ | refine zw_putI rfl (by assumption) ?_ | refine zw_lald rfl (by assumption) (by omega) (by omega) ?_ | refine zw_last rfl (by assumption) (by omega) (by omega) ?_ | refine zw_iadd rfl (by omega) (by omega) ?_ | refine zw_isub rfl (by omega) (by omega) ?_ | refine zw_iinc rfl rfl rfl (by omega) (by omega) ?_)
    refine zw_if_gt_t rfl (by omega) ?_
    repeat (refine zw_ne 45 rfl ?_; first | refine zw_t rfl rfl ?_ | refine zw_jump rfl rfl ?_ | refine zw_getI rfl rfl (by assumption) ?_ | refine zw_ialn rfl (by assumption) (by omega) ?_ | refine zw_laln rfl (by assumption) (by omega) ?_ | refine zw_iastn rfl (by omega) (by assumption) (by omega) ?_ | refine zw_lastn rfl (by assumption) (by omega) ?_ | refine zw_iald0 rfl (by assumption) (by omega) ?_ | refine zw_lald0 rfl (by assumption) (by omega) ?_ | refine zw_aaln rfl (by assumption) rfl (by omega) ?_ | refine zw_getR rfl (by assumption) (by assumption) ?_ | refine zw_alen rfl (by assumption) rfl ?_ | refine zw_iald rfl (by assumption) (by omega) (by omega) ?_ | refine zw_iast rfl (by omega) (by assumption) (by omega) (by omega) ?_ | refine zw_putI rfl (by assumption) ?_ | refine zw_lald rfl (by assumption) (by omega) (by omega) ?_ | refine zw_last rfl (by assumption) (by omega) (by omega) ?_ | refine zw_iadd rfl (by omega) (by omega) ?_ | refine zw_isub rfl (by omega) (by omega) ?_ | refine zw_iinc rfl rfl rfl (by omega) (by omega) ?_)
    have loop : ∀ (c y : Nat) (x12 x13 x14 x15 x16 x17 : Option ZV) (F I : Nat → Nat → Int) (L : Nat → Nat → Int64) (fl : List Nat), last < y → (c : Int) + y = (n : Int) - ((left + 1 : Nat) : Int) + 1 ∨ (c = 0 ∧ (n : Int) - ((left + 1 : Nat) : Int) < y) → F 72 4 = (n : Int) → ZFoI F I 9 → ZFd F L fl → fl.length + (z_fl g c y).length ≤ 512 →
        (∀ F' I' L', ZRr F F' I I' L L' → ZFoI F' I' 9 → ZFd F' L' (fl ++ z_fl g c y) → Q none (k, F', I', L', R)) →
        ZW (d + (left + 1) + 4) 56 45 [some (.inr (.inr (some 72))), some (.inr (.inl (Int64.ofNat mask))), none, some (.inl (last : Int)), some (.inl ((left + 1 : Nat) : Int)), some (.inr (.inl (Int64.ofNat back))), none, some (.inr (.inl (Int64.ofNat ahead))), none, some (.inr (.inl (Int64.ofNat barred))), none, some (.inl (y : Int)), x12, x13, x14, x15, x16, x17] [] (k, F, I, L, R) Q := by
      intro c
      induction c with
      | zero =>
        intro y x12 x13 x14 x15 x16 x17 F I L fl hy hc f4 hfi hfd hcap K
        repeat (first | refine zw_t rfl rfl ?_ | refine zw_jump rfl rfl ?_ | refine zw_getI rfl rfl (by assumption) ?_ | refine zw_ialn rfl (by assumption) (by omega) ?_ | refine zw_laln rfl (by assumption) (by omega) ?_ | refine zw_iastn rfl (by omega) (by assumption) (by omega) ?_ | refine zw_lastn rfl (by assumption) (by omega) ?_ | refine zw_iald0 rfl (by assumption) (by omega) ?_ | refine zw_lald0 rfl (by assumption) (by omega) ?_ | refine zw_aaln rfl (by assumption) rfl (by omega) ?_ | refine zw_getR rfl (by assumption) (by assumption) ?_ | refine zw_alen rfl (by assumption) rfl ?_ | refine zw_iald rfl (by assumption) (by omega) (by omega) ?_ | refine zw_iast rfl (by omega) (by assumption) (by omega) (by omega) ?_ | refine zw_putI rfl (by assumption) ?_ | refine zw_lald rfl (by assumption) (by omega) (by omega) ?_ | refine zw_last rfl (by assumption) (by omega) (by omega) ?_ | refine zw_iadd rfl (by omega) (by omega) ?_ | refine zw_isub rfl (by omega) (by omega) ?_ | refine zw_iinc rfl rfl rfl (by omega) (by omega) ?_)
        rw [f4]
        refine zw_icmp_gt_t rfl (by omega) ?_
        refine zw_vret rfl (K _ _ _ (ZRr.refl _ _ _) hfi ?_)
        rw [show z_fl g 0 y = [] from rfl, List.append_nil]
        exact hfd
      | succ c ihc =>
        intro y x12 x13 x14 x15 x16 x17 F I L fl hy hc f4 hfi hfd hcap K
        rw [z_fl_succ] at K hcap
        rw [List.length_append] at hcap
        have hyn : y < n := by omega
        have hbs : back <<< (y - last) < 2 ^ (y + 1) := z_shl_lt hb (by omega)
        have hds : ahead >>> (y - last) < 2 ^ 41 := z_shr_lt ha
        have em1 := z_more (back := back) (show last ≤ y by omega) (show y < 64 by omega)
        have em2 := z_less (ahead := ahead) (show last ≤ y by omega) (show y < 64 by omega) (z_up_lt ha (by omega))
        have jn : ∀ (shut : Nat) (x12 x13 x14 x15 x16 x17 : Option ZV), shut < 2 ^ 41 → g y = (bif Nat.beq ((back <<< (y - last)) &&& (ahead >>> (y - last))) 0 && Nat.beq (((back <<< (y - last)) ||| (ahead >>> (y - last))) &&& shut) 0 then z_rp n (z_or n) left (mask ||| 1 <<< y) y ((back <<< (y - last)) ||| 1) ((ahead >>> (y - last)) ||| 1 <<< n) (shut ||| (back <<< (y - last)) ||| (ahead >>> (y - last))) else []) →
            ZW (d + (left + 1) + 4) 56 89 [some (.inr (.inr (some 72))), some (.inr (.inl (Int64.ofNat mask))), none, some (.inl (last : Int)), some (.inl ((left + 1 : Nat) : Int)), some (.inr (.inl (Int64.ofNat back))), none, some (.inr (.inl (Int64.ofNat ahead))), none, some (.inr (.inl (Int64.ofNat barred))), none, some (.inl (y : Int)), x12, x13, x14, x15, x16, x17] [.inr (.inl (Int64.ofNat shut))] (k, F, I, L, R) Q := by
          intro shut x12 x13 x14 x15 x16 x17 hsh hgy
          have key1 : z_lcmpv (Int64.ofNat back <<< ((Int32.ofInt ((y : Int) - (last : Int))).toInt64 &&& 63) &&& ((Int64.ofNat ahead).toUInt64 >>> ((Int32.ofInt ((y : Int) - (last : Int))).toInt64.toUInt64 &&& Int64.toUInt64 63)).toInt64) (Int64.ofNat 0) = 0 ↔ (back <<< (y - last)) &&& (ahead >>> (y - last)) = 0 := by
            rw [em1, em2, z_on_and, z_lcmp_zero, z_on_zero (z_and_lt (z_up_lt hds (by omega)))]
          have key2 : z_lcmpv ((Int64.ofNat back <<< ((Int32.ofInt ((y : Int) - (last : Int))).toInt64 &&& 63) ||| ((Int64.ofNat ahead).toUInt64 >>> ((Int32.ofInt ((y : Int) - (last : Int))).toInt64.toUInt64 &&& Int64.toUInt64 63)).toInt64) &&& Int64.ofNat shut) (Int64.ofNat 0) = 0 ↔ ((back <<< (y - last)) ||| (ahead >>> (y - last))) &&& shut = 0 := by
            rw [em1, em2, z_on_or, z_on_and, z_lcmp_zero, z_on_zero (z_and_lt (z_up_lt hsh (by omega)))]
          have skip : g y = [] → ∀ (x12 x13 x14 x15 x16 x17 : Option ZV), ZW (d + (left + 1) + 4) 56 169 [some (.inr (.inr (some 72))), some (.inr (.inl (Int64.ofNat mask))), none, some (.inl (last : Int)), some (.inl ((left + 1 : Nat) : Int)), some (.inr (.inl (Int64.ofNat back))), none, some (.inr (.inl (Int64.ofNat ahead))), none, some (.inr (.inl (Int64.ofNat barred))), none, some (.inl (y : Int)), x12, x13, x14, x15, x16, x17] [] (k, F, I, L, R) Q := by
            intro hnil x12 x13 x14 x15 x16 x17
            rw [hnil] at K hcap
            rw [List.nil_append] at K
            repeat (first | refine zw_t rfl rfl ?_ | refine zw_jump rfl rfl ?_ | refine zw_getI rfl rfl (by assumption) ?_ | refine zw_ialn rfl (by assumption) (by omega) ?_ | refine zw_laln rfl (by assumption) (by omega) ?_ | refine zw_iastn rfl (by omega) (by assumption) (by omega) ?_ | refine zw_lastn rfl (by assumption) (by omega) ?_ | refine zw_iald0 rfl (by assumption) (by omega) ?_ | refine zw_lald0 rfl (by assumption) (by omega) ?_ | refine zw_aaln rfl (by assumption) rfl (by omega) ?_ | refine zw_getR rfl (by assumption) (by assumption) ?_ | refine zw_alen rfl (by assumption) rfl ?_ | refine zw_iald rfl (by assumption) (by omega) (by omega) ?_ | refine zw_iast rfl (by omega) (by assumption) (by omega) (by omega) ?_ | refine zw_putI rfl (by assumption) ?_ | refine zw_lald rfl (by assumption) (by omega) (by omega) ?_ | refine zw_last rfl (by assumption) (by omega) (by omega) ?_ | refine zw_iadd rfl (by omega) (by omega) ?_ | refine zw_isub rfl (by omega) (by omega) ?_ | refine zw_iinc rfl rfl rfl (by omega) (by omega) ?_)
            refine zw_goto rfl ?_
            exact ihc (y + 1) _ _ _ _ _ _ F I L fl (by omega) (by omega) f4 hfi hfd (by simpa using hcap) K
          repeat (first | refine zw_t rfl rfl ?_ | refine zw_jump rfl rfl ?_ | refine zw_getI rfl rfl (by assumption) ?_ | refine zw_ialn rfl (by assumption) (by omega) ?_ | refine zw_laln rfl (by assumption) (by omega) ?_ | refine zw_iastn rfl (by omega) (by assumption) (by omega) ?_ | refine zw_lastn rfl (by assumption) (by omega) ?_ | refine zw_iald0 rfl (by assumption) (by omega) ?_ | refine zw_lald0 rfl (by assumption) (by omega) ?_ | refine zw_aaln rfl (by assumption) rfl (by omega) ?_ | refine zw_getR rfl (by assumption) (by assumption) ?_ | refine zw_alen rfl (by assumption) rfl ?_ | refine zw_iald rfl (by assumption) (by omega) (by omega) ?_ | refine zw_iast rfl (by omega) (by assumption) (by omega) (by omega) ?_ | refine zw_putI rfl (by assumption) ?_ | refine zw_lald rfl (by assumption) (by omega) (by omega) ?_ | refine zw_last rfl (by assumption) (by omega) (by omega) ?_ | refine zw_iadd rfl (by omega) (by omega) ?_ | refine zw_isub rfl (by omega) (by omega) ?_ | refine zw_iinc rfl rfl rfl (by omega) (by omega) ?_)
          refine zw_if_ne rfl (fun h => ?_) (fun h => ?_)
          · rw [show Nat.beq ((back <<< (y - last)) &&& (ahead >>> (y - last))) 0 = false from Bool.eq_false_iff.2 (fun q => h (key1.2 (z_beq0.1 q))), Bool.false_and, cond_false] at hgy
            exact skip hgy _ _ _ _ _ _
          · rw [z_beq0.2 (key1.1 h), Bool.true_and] at hgy
            repeat (first | refine zw_t rfl rfl ?_ | refine zw_jump rfl rfl ?_ | refine zw_getI rfl rfl (by assumption) ?_ | refine zw_ialn rfl (by assumption) (by omega) ?_ | refine zw_laln rfl (by assumption) (by omega) ?_ | refine zw_iastn rfl (by omega) (by assumption) (by omega) ?_ | refine zw_lastn rfl (by assumption) (by omega) ?_ | refine zw_iald0 rfl (by assumption) (by omega) ?_ | refine zw_lald0 rfl (by assumption) (by omega) ?_ | refine zw_aaln rfl (by assumption) rfl (by omega) ?_ | refine zw_getR rfl (by assumption) (by assumption) ?_ | refine zw_alen rfl (by assumption) rfl ?_ | refine zw_iald rfl (by assumption) (by omega) (by omega) ?_ | refine zw_iast rfl (by omega) (by assumption) (by omega) (by omega) ?_ | refine zw_putI rfl (by assumption) ?_ | refine zw_lald rfl (by assumption) (by omega) (by omega) ?_ | refine zw_last rfl (by assumption) (by omega) (by omega) ?_ | refine zw_iadd rfl (by omega) (by omega) ?_ | refine zw_isub rfl (by omega) (by omega) ?_ | refine zw_iinc rfl rfl rfl (by omega) (by omega) ?_)
            refine zw_if_ne rfl (fun h2 => ?_) (fun h2 => ?_)
            · rw [show Nat.beq (((back <<< (y - last)) ||| (ahead >>> (y - last))) &&& shut) 0 = false from Bool.eq_false_iff.2 (fun q => h2 (key2.2 (z_beq0.1 q))), cond_false] at hgy
              exact skip hgy _ _ _ _ _ _
            · rw [z_beq0.2 (key2.1 h2), cond_true] at hgy
              rw [hgy] at K hcap
              repeat (first | refine zw_t rfl rfl ?_ | refine zw_jump rfl rfl ?_ | refine zw_getI rfl rfl (by assumption) ?_ | refine zw_ialn rfl (by assumption) (by omega) ?_ | refine zw_laln rfl (by assumption) (by omega) ?_ | refine zw_iastn rfl (by omega) (by assumption) (by omega) ?_ | refine zw_lastn rfl (by assumption) (by omega) ?_ | refine zw_iald0 rfl (by assumption) (by omega) ?_ | refine zw_lald0 rfl (by assumption) (by omega) ?_ | refine zw_aaln rfl (by assumption) rfl (by omega) ?_ | refine zw_getR rfl (by assumption) (by assumption) ?_ | refine zw_alen rfl (by assumption) rfl ?_ | refine zw_iald rfl (by assumption) (by omega) (by omega) ?_ | refine zw_iast rfl (by omega) (by assumption) (by omega) (by omega) ?_ | refine zw_putI rfl (by assumption) ?_ | refine zw_lald rfl (by assumption) (by omega) (by omega) ?_ | refine zw_last rfl (by assumption) (by omega) (by omega) ?_ | refine zw_iadd rfl (by omega) (by omega) ?_ | refine zw_isub rfl (by omega) (by omega) ?_ | refine zw_iinc rfl rfl rfl (by omega) (by omega) ?_)
              rw [f4]
              repeat (first | refine zw_t rfl rfl ?_ | refine zw_jump rfl rfl ?_ | refine zw_getI rfl rfl (by assumption) ?_ | refine zw_ialn rfl (by assumption) (by omega) ?_ | refine zw_laln rfl (by assumption) (by omega) ?_ | refine zw_iastn rfl (by omega) (by assumption) (by omega) ?_ | refine zw_lastn rfl (by assumption) (by omega) ?_ | refine zw_iald0 rfl (by assumption) (by omega) ?_ | refine zw_lald0 rfl (by assumption) (by omega) ?_ | refine zw_aaln rfl (by assumption) rfl (by omega) ?_ | refine zw_getR rfl (by assumption) (by assumption) ?_ | refine zw_alen rfl (by assumption) rfl ?_ | refine zw_iald rfl (by assumption) (by omega) (by omega) ?_ | refine zw_iast rfl (by omega) (by assumption) (by omega) (by omega) ?_ | refine zw_putI rfl (by assumption) ?_ | refine zw_lald rfl (by assumption) (by omega) (by omega) ?_ | refine zw_last rfl (by assumption) (by omega) (by omega) ?_ | refine zw_iadd rfl (by omega) (by omega) ?_ | refine zw_isub rfl (by omega) (by omega) ?_ | refine zw_iinc rfl rfl rfl (by omega) (by omega) ?_)
              refine zw_callv rfl rfl rfl rfl rfl rfl (by assumption) ?_
              refine ZC.le (show d + left + 5 ≤ _ by omega) ?_
              refine zc_eqv (args' := [.inr (.inr (some 72)), .inr (.inl (Int64.ofNat (mask ||| 1 <<< y))), .inl (y : Int), .inl (left : Int), .inr (.inl (Int64.ofNat (back <<< (y - last) ||| 1))), .inr (.inl (Int64.ofNat (ahead >>> (y - last) ||| 1 <<< n))), .inr (.inl (Int64.ofNat (shut ||| back <<< (y - last) ||| ahead >>> (y - last))))]) ?_ ?_
              · rw [← z_on_or, ← z_on_or, ← z_on_or, ← z_on_or, ← z_on_or, ← em1, ← em2, ← z_on_shl 1 y (by omega), ← z_on_shl 1 n (by omega), show (left : Int) = ((left + 1 : Nat) : Int) - 1 by omega]
                rfl
              refine ih d _ y _ _ _ (c0 + 1) F I L fl _ f4 hfi hyn (z_or_lt (z_up_lt hm (by omega)) (z_one_lt (by omega))) (z_or_lt hbs (z_up_lt (n := 1) (by decide) (by omega))) (z_or_lt hds (z_one_lt (by omega))) (z_or_lt (z_or_lt hsh (z_up_lt hbs (by omega))) hds) (hg.add (z_tb_far (last + 1) hm (by omega)) hyn) (by omega) hfd (by omega) (fun F' I' L' hr hi' hfd' => ?_)
              repeat (first | refine zw_t rfl rfl ?_ | refine zw_jump rfl rfl ?_ | refine zw_getI rfl rfl (by assumption) ?_ | refine zw_ialn rfl (by assumption) (by omega) ?_ | refine zw_laln rfl (by assumption) (by omega) ?_ | refine zw_iastn rfl (by omega) (by assumption) (by omega) ?_ | refine zw_lastn rfl (by assumption) (by omega) ?_ | refine zw_iald0 rfl (by assumption) (by omega) ?_ | refine zw_lald0 rfl (by assumption) (by omega) ?_ | refine zw_aaln rfl (by assumption) rfl (by omega) ?_ | refine zw_getR rfl (by assumption) (by assumption) ?_ | refine zw_alen rfl (by assumption) rfl ?_ | refine zw_iald rfl (by assumption) (by omega) (by omega) ?_ | refine zw_iast rfl (by omega) (by assumption) (by omega) (by omega) ?_ | refine zw_putI rfl (by assumption) ?_ | refine zw_lald rfl (by assumption) (by omega) (by omega) ?_ | refine zw_last rfl (by assumption) (by omega) (by omega) ?_ | refine zw_iadd rfl (by omega) (by omega) ?_ | refine zw_isub rfl (by omega) (by omega) ?_ | refine zw_iinc rfl rfl rfl (by omega) (by omega) ?_)
              refine zw_goto rfl ?_
              refine ihc (y + 1) _ _ _ _ _ _ F' I' L' _ (by omega) (by omega) (by rw [hr.1 72 4 (by omega) (by omega) (by omega) (by omega) (by omega)]; exact f4) hi' hfd' (by rw [List.length_append]; omega) (fun F2 I2 L2 hr2 hi2 hfd2 => K F2 I2 L2 (hr.trans hr2) hi2 ?_)
              rw [List.append_assoc] at hfd2
              exact hfd2
        repeat (first | refine zw_t rfl rfl ?_ | refine zw_jump rfl rfl ?_ | refine zw_getI rfl rfl (by assumption) ?_ | refine zw_ialn rfl (by assumption) (by omega) ?_ | refine zw_laln rfl (by assumption) (by omega) ?_ | refine zw_iastn rfl (by omega) (by assumption) (by omega) ?_ | refine zw_lastn rfl (by assumption) (by omega) ?_ | refine zw_iald0 rfl (by assumption) (by omega) ?_ | refine zw_lald0 rfl (by assumption) (by omega) ?_ | refine zw_aaln rfl (by assumption) rfl (by omega) ?_ | refine zw_getR rfl (by assumption) (by assumption) ?_ | refine zw_alen rfl (by assumption) rfl ?_ | refine zw_iald rfl (by assumption) (by omega) (by omega) ?_ | refine zw_iast rfl (by omega) (by assumption) (by omega) (by omega) ?_ | refine zw_putI rfl (by assumption) ?_ | refine zw_lald rfl (by assumption) (by omega) (by omega) ?_ | refine zw_last rfl (by assumption) (by omega) (by omega) ?_ | refine zw_iadd rfl (by omega) (by omega) ?_ | refine zw_isub rfl (by omega) (by omega) ?_ | refine zw_iinc rfl rfl rfl (by omega) (by omega) ?_)
        rw [f4]
        refine zw_icmp_gt_f rfl (by omega) ?_
        repeat (first | refine zw_t rfl rfl ?_ | refine zw_jump rfl rfl ?_ | refine zw_getI rfl rfl (by assumption) ?_ | refine zw_ialn rfl (by assumption) (by omega) ?_ | refine zw_laln rfl (by assumption) (by omega) ?_ | refine zw_iastn rfl (by omega) (by assumption) (by omega) ?_ | refine zw_lastn rfl (by assumption) (by omega) ?_ | refine zw_iald0 rfl (by assumption) (by omega) ?_ | refine zw_lald0 rfl (by assumption) (by omega) ?_ | refine zw_aaln rfl (by assumption) rfl (by omega) ?_ | refine zw_getR rfl (by assumption) (by assumption) ?_ | refine zw_alen rfl (by assumption) rfl ?_ | refine zw_iald rfl (by assumption) (by omega) (by omega) ?_ | refine zw_iast rfl (by omega) (by assumption) (by omega) (by omega) ?_ | refine zw_putI rfl (by assumption) ?_ | refine zw_lald rfl (by assumption) (by omega) (by omega) ?_ | refine zw_last rfl (by assumption) (by omega) (by omega) ?_ | refine zw_iadd rfl (by omega) (by omega) ?_ | refine zw_isub rfl (by omega) (by omega) ?_ | refine zw_iinc rfl rfl rfl (by omega) (by omega) ?_)
        by_cases hl0 : last = 0
        · have hlb : Nat.beq last 0 = true := by rw [hl0]; rfl
          have hg' : g y = (bif Nat.beq last 0 && !(Nat.beq (n % y) 0) then [] else bif Nat.beq ((back <<< (y - last)) &&& (ahead >>> (y - last))) 0 && Nat.beq (((back <<< (y - last)) ||| (ahead >>> (y - last))) &&& (bif Nat.beq last 0 then z_fnr n y (n - 1) 1 else barred)) 0 then z_rp n (z_or n) left (mask ||| 1 <<< y) y ((back <<< (y - last)) ||| 1) ((ahead >>> (y - last)) ||| 1 <<< n) ((bif Nat.beq last 0 then z_fnr n y (n - 1) 1 else barred) ||| (back <<< (y - last)) ||| (ahead >>> (y - last))) else []) := by rw [hgd]
          rw [hlb, Bool.true_and, cond_true] at hg'
          refine zw_if_ne_f rfl (by omega) ?_
          repeat (first | refine zw_t rfl rfl ?_ | refine zw_jump rfl rfl ?_ | refine zw_getI rfl rfl (by assumption) ?_ | refine zw_ialn rfl (by assumption) (by omega) ?_ | refine zw_laln rfl (by assumption) (by omega) ?_ | refine zw_iastn rfl (by omega) (by assumption) (by omega) ?_ | refine zw_lastn rfl (by assumption) (by omega) ?_ | refine zw_iald0 rfl (by assumption) (by omega) ?_ | refine zw_lald0 rfl (by assumption) (by omega) ?_ | refine zw_aaln rfl (by assumption) rfl (by omega) ?_ | refine zw_getR rfl (by assumption) (by assumption) ?_ | refine zw_alen rfl (by assumption) rfl ?_ | refine zw_iald rfl (by assumption) (by omega) (by omega) ?_ | refine zw_iast rfl (by omega) (by assumption) (by omega) (by omega) ?_ | refine zw_putI rfl (by assumption) ?_ | refine zw_lald rfl (by assumption) (by omega) (by omega) ?_ | refine zw_last rfl (by assumption) (by omega) (by omega) ?_ | refine zw_iadd rfl (by omega) (by omega) ?_ | refine zw_isub rfl (by omega) (by omega) ?_ | refine zw_iinc rfl rfl rfl (by omega) (by omega) ?_)
          rw [f4]
          refine zw_irem rfl (by omega) (by omega) ?_
          have em : (n : Int) % (y : Int) = ((n % y : Nat) : Int) := by omega
          rw [em]
          refine zw_if_eq rfl (fun h => ?_) (fun h => ?_)
          · rw [show Nat.beq (n % y) 0 = true from z_beq0.2 (by omega), Bool.not_true, cond_false] at hg'
            repeat (first | refine zw_t rfl rfl ?_ | refine zw_jump rfl rfl ?_ | refine zw_getI rfl rfl (by assumption) ?_ | refine zw_ialn rfl (by assumption) (by omega) ?_ | refine zw_laln rfl (by assumption) (by omega) ?_ | refine zw_iastn rfl (by omega) (by assumption) (by omega) ?_ | refine zw_lastn rfl (by assumption) (by omega) ?_ | refine zw_iald0 rfl (by assumption) (by omega) ?_ | refine zw_lald0 rfl (by assumption) (by omega) ?_ | refine zw_aaln rfl (by assumption) rfl (by omega) ?_ | refine zw_getR rfl (by assumption) (by assumption) ?_ | refine zw_alen rfl (by assumption) rfl ?_ | refine zw_iald rfl (by assumption) (by omega) (by omega) ?_ | refine zw_iast rfl (by omega) (by assumption) (by omega) (by omega) ?_ | refine zw_putI rfl (by assumption) ?_ | refine zw_lald rfl (by assumption) (by omega) (by omega) ?_ | refine zw_last rfl (by assumption) (by omega) (by omega) ?_ | refine zw_iadd rfl (by omega) (by omega) ?_ | refine zw_isub rfl (by omega) (by omega) ?_ | refine zw_iinc rfl rfl rfl (by omega) (by omega) ?_)
            refine zw_if_ne_f rfl (by omega) ?_
            repeat (first | refine zw_t rfl rfl ?_ | refine zw_jump rfl rfl ?_ | refine zw_getI rfl rfl (by assumption) ?_ | refine zw_ialn rfl (by assumption) (by omega) ?_ | refine zw_laln rfl (by assumption) (by omega) ?_ | refine zw_iastn rfl (by omega) (by assumption) (by omega) ?_ | refine zw_lastn rfl (by assumption) (by omega) ?_ | refine zw_iald0 rfl (by assumption) (by omega) ?_ | refine zw_lald0 rfl (by assumption) (by omega) ?_ | refine zw_aaln rfl (by assumption) rfl (by omega) ?_ | refine zw_getR rfl (by assumption) (by assumption) ?_ | refine zw_alen rfl (by assumption) rfl ?_ | refine zw_iald rfl (by assumption) (by omega) (by omega) ?_ | refine zw_iast rfl (by omega) (by assumption) (by omega) (by omega) ?_ | refine zw_putI rfl (by assumption) ?_ | refine zw_lald rfl (by assumption) (by omega) (by omega) ?_ | refine zw_last rfl (by assumption) (by omega) (by omega) ?_ | refine zw_iadd rfl (by omega) (by omega) ?_ | refine zw_isub rfl (by omega) (by omega) ?_ | refine zw_iinc rfl rfl rfl (by omega) (by omega) ?_)
            refine zw_callv rfl rfl rfl rfl rfl rfl (by assumption) ?_
            refine ZC.le (show d + 2 ≤ _ by omega) ?_
            refine c_finerThan T72 f4 (by omega) (fun t ht => ?_)
            have et : t = Int64.ofNat (z_fnr n y (n - 1) 1) := zbit_ext (fun x hx => by
              rw [zbit_ofNat _ _ hx, Bool.eq_iff_iff, ht x hx, z_fnr_bit, Bool.and_eq_true, decide_eq_true_iff]
              have : Nat.blt (Nat.gcd x n) y = true ↔ ((Nat.gcd x n : Nat) : Int) < (y : Int) := by
                constructor
                · intro q
                  have : Nat.gcd x n + 1 ≤ y := Nat.le_of_ble_eq_true q
                  omega
                · intro q
                  exact Nat.ble_eq_true_of_le (show Nat.gcd x n + 1 ≤ y by omega)
              rw [this]
              constructor
              · rintro ⟨q1, q2, q3⟩; exact ⟨⟨q1, by omega⟩, q3⟩
              · rintro ⟨⟨q1, q2⟩, q3⟩; exact ⟨q1, by omega, q3⟩)
            rw [et]
            repeat (refine zw_ne 89 rfl ?_; first | refine zw_t rfl rfl ?_ | refine zw_jump rfl rfl ?_ | refine zw_getI rfl rfl (by assumption) ?_ | refine zw_ialn rfl (by assumption) (by omega) ?_ | refine zw_laln rfl (by assumption) (by omega) ?_ | refine zw_iastn rfl (by omega) (by assumption) (by omega) ?_ | refine zw_lastn rfl (by assumption) (by omega) ?_ | refine zw_iald0 rfl (by assumption) (by omega) ?_ | refine zw_lald0 rfl (by assumption) (by omega) ?_ | refine zw_aaln rfl (by assumption) rfl (by omega) ?_ | refine zw_getR rfl (by assumption) (by assumption) ?_ | refine zw_alen rfl (by assumption) rfl ?_ | refine zw_iald rfl (by assumption) (by omega) (by omega) ?_ | refine zw_iast rfl (by omega) (by assumption) (by omega) (by omega) ?_ | refine zw_putI rfl (by assumption) ?_ | refine zw_lald rfl (by assumption) (by omega) (by omega) ?_ | refine zw_last rfl (by assumption) (by omega) (by omega) ?_ | refine zw_iadd rfl (by omega) (by omega) ?_ | refine zw_isub rfl (by omega) (by omega) ?_ | refine zw_iinc rfl rfl rfl (by omega) (by omega) ?_)
            refine jn _ _ _ _ _ _ _ ?_ hg'
            refine Nat.lt_pow_two_of_testBit _ (fun i hi => ?_)
            rw [z_fnr_bit, decide_eq_false (by omega), Bool.false_and]
          · rw [show Nat.beq (n % y) 0 = false from Bool.eq_false_iff.2 (fun q => h (by have := z_beq0.1 q; omega)), Bool.not_false, cond_true] at hg'
            rw [hg'] at K hcap
            rw [List.nil_append] at K
            repeat (first | refine zw_t rfl rfl ?_ | refine zw_jump rfl rfl ?_ | refine zw_getI rfl rfl (by assumption) ?_ | refine zw_ialn rfl (by assumption) (by omega) ?_ | refine zw_laln rfl (by assumption) (by omega) ?_ | refine zw_iastn rfl (by omega) (by assumption) (by omega) ?_ | refine zw_lastn rfl (by assumption) (by omega) ?_ | refine zw_iald0 rfl (by assumption) (by omega) ?_ | refine zw_lald0 rfl (by assumption) (by omega) ?_ | refine zw_aaln rfl (by assumption) rfl (by omega) ?_ | refine zw_getR rfl (by assumption) (by assumption) ?_ | refine zw_alen rfl (by assumption) rfl ?_ | refine zw_iald rfl (by assumption) (by omega) (by omega) ?_ | refine zw_iast rfl (by omega) (by assumption) (by omega) (by omega) ?_ | refine zw_putI rfl (by assumption) ?_ | refine zw_lald rfl (by assumption) (by omega) (by omega) ?_ | refine zw_last rfl (by assumption) (by omega) (by omega) ?_ | refine zw_iadd rfl (by omega) (by omega) ?_ | refine zw_isub rfl (by omega) (by omega) ?_ | refine zw_iinc rfl rfl rfl (by omega) (by omega) ?_)
            refine zw_goto rfl ?_
            exact ihc (y + 1) _ _ _ _ _ _ F I L fl (by omega) (by omega) f4 hfi hfd (by simpa using hcap) K
        · have hlb : Nat.beq last 0 = false := Bool.eq_false_iff.2 (fun q => hl0 (Nat.eq_of_beq_eq_true q))
          have hg' : g y = (bif Nat.beq last 0 && !(Nat.beq (n % y) 0) then [] else bif Nat.beq ((back <<< (y - last)) &&& (ahead >>> (y - last))) 0 && Nat.beq (((back <<< (y - last)) ||| (ahead >>> (y - last))) &&& (bif Nat.beq last 0 then z_fnr n y (n - 1) 1 else barred)) 0 then z_rp n (z_or n) left (mask ||| 1 <<< y) y ((back <<< (y - last)) ||| 1) ((ahead >>> (y - last)) ||| 1 <<< n) ((bif Nat.beq last 0 then z_fnr n y (n - 1) 1 else barred) ||| (back <<< (y - last)) ||| (ahead >>> (y - last))) else []) := by rw [hgd]
          rw [hlb, Bool.false_and, cond_false, cond_false] at hg'
          refine zw_if_ne_t rfl (by omega) ?_
          repeat (first | refine zw_t rfl rfl ?_ | refine zw_jump rfl rfl ?_ | refine zw_getI rfl rfl (by assumption) ?_ | refine zw_ialn rfl (by assumption) (by omega) ?_ | refine zw_laln rfl (by assumption) (by omega) ?_ | refine zw_iastn rfl (by omega) (by assumption) (by omega) ?_ | refine zw_lastn rfl (by assumption) (by omega) ?_ | refine zw_iald0 rfl (by assumption) (by omega) ?_ | refine zw_lald0 rfl (by assumption) (by omega) ?_ | refine zw_aaln rfl (by assumption) rfl (by omega) ?_ | refine zw_getR rfl (by assumption) (by assumption) ?_ | refine zw_alen rfl (by assumption) rfl ?_ | refine zw_iald rfl (by assumption) (by omega) (by omega) ?_ | refine zw_iast rfl (by omega) (by assumption) (by omega) (by omega) ?_ | refine zw_putI rfl (by assumption) ?_ | refine zw_lald rfl (by assumption) (by omega) (by omega) ?_ | refine zw_last rfl (by assumption) (by omega) (by omega) ?_ | refine zw_iadd rfl (by omega) (by omega) ?_ | refine zw_isub rfl (by omega) (by omega) ?_ | refine zw_iinc rfl rfl rfl (by omega) (by omega) ?_)
          refine zw_if_ne_t rfl (by omega) ?_
          repeat (refine zw_ne 89 rfl ?_; first | refine zw_t rfl rfl ?_ | refine zw_jump rfl rfl ?_ | refine zw_getI rfl rfl (by assumption) ?_ | refine zw_ialn rfl (by assumption) (by omega) ?_ | refine zw_laln rfl (by assumption) (by omega) ?_ | refine zw_iastn rfl (by omega) (by assumption) (by omega) ?_ | refine zw_lastn rfl (by assumption) (by omega) ?_ | refine zw_iald0 rfl (by assumption) (by omega) ?_ | refine zw_lald0 rfl (by assumption) (by omega) ?_ | refine zw_aaln rfl (by assumption) rfl (by omega) ?_ | refine zw_getR rfl (by assumption) (by assumption) ?_ | refine zw_alen rfl (by assumption) rfl ?_ | refine zw_iald rfl (by assumption) (by omega) (by omega) ?_ | refine zw_iast rfl (by omega) (by assumption) (by omega) (by omega) ?_ | refine zw_putI rfl (by assumption) ?_ | refine zw_lald rfl (by assumption) (by omega) (by omega) ?_ | refine zw_last rfl (by assumption) (by omega) (by omega) ?_ | refine zw_iadd rfl (by omega) (by omega) ?_ | refine zw_isub rfl (by omega) (by omega) ?_ | refine zw_iinc rfl rfl rfl (by omega) (by omega) ?_)
          exact jn barred _ _ _ _ _ _ hba hg'
    exact loop (n - (left + 1) - last) (last + 1) none none none none none none F I L fl (by omega) (by omega) f4 hfi hfd hcap K
end ZRing
