/-! THE BENCH: forms -/
def ZForm (v : Nat → Int) (c : Nat) (rd : Int) (g : Nat → Int) : Prop := (0 < rd ∧ ZBest v c rd.toNat g) ∨ (rd = 0 ∧ ZAgr g (z_frm v c) c)
theorem ZCan.cong {v w h : Nat → Int} {c : Nat} {rd a : Int} (e : ZAgr v w c) (hc : ZCan v c rd a h) : ZCan w c rd a h := by
  obtain ⟨i, hi, h1, h2⟩ := hc
  refine ⟨i, hi, h1, fun y => ?_⟩
  rw [h2 y]
  constructor
  · rintro ⟨j, hj, q⟩; exact ⟨j, hj, by rw [← e j hj, ← e i hi]; exact q⟩
  · rintro ⟨j, hj, q⟩; exact ⟨j, hj, by rw [e j hj, e i hi]; exact q⟩
theorem ZBest.cong {v w g : Nat → Int} {c e : Nat} (h : ZAgr v w c) (hb : ZBest v c e g) : ZBest w c e g := by
  refine ⟨fun a a1 a2 a3 x hx => hb.1 a a1 a2 a3 x (hx.cong h.symm), ?_⟩
  obtain ⟨a, a1, a2, a3, a4⟩ := hb.2
  exact ⟨a, a1, a2, a3, a4.cong h⟩
theorem z_frm_cong {v w : Nat → Int} {c : Nat} (h : ZAgr v w c) : ZAgr (z_frm v c) (z_frm w c) c := by
  have e1 : ZAgr (z_trn v c) (z_trn w c) c := fun j hj => by unfold z_trn; rw [h (c - 1) (by omega), h (c - 1 - j) (by omega)]
  have e2 : z_bef (z_trn v c) v c 0 = z_bef (z_trn w c) w c 0 := z_bef_cong _ _ (fun j _ hj => e1 j (by omega)) (fun j _ hj => h j (by omega))
  unfold z_frm
  rw [e2]
  split
  · exact e1
  · exact h
theorem ZForm.cong {v w g : Nat → Int} {c : Nat} {rd : Int} (h : ZAgr v w c) (hb : ZForm v c rd g) : ZForm w c rd g := by
  rcases hb with ⟨h1, h2⟩ | ⟨h1, h2⟩
  · exact Or.inl ⟨h1, h2.cong h⟩
  · exact Or.inr ⟨h1, h2.trans (z_frm_cong h)⟩
theorem ZForm.row {v g : Nat → Int} {c : Nat} {rd : Int} (h : ZRow v c rd) (hc : 0 < c) (hf : ZForm v c rd g) : ZRow g c rd := by
  rcases hf with ⟨h1, h2⟩ | ⟨h1, h2⟩
  · obtain ⟨a, a1, a2, a3, hcan⟩ := h2.2
    have hw := hcan.win (show (0 : Int) < (rd.toNat : Int) by omega)
    obtain ⟨i, hi, hr, hm⟩ := hcan
    obtain ⟨q1, q2, q3, q4, q5, q6⟩ := h
    refine ⟨q1, hr, fun j hj => by have := hw j hj; omega, q4, fun r => ⟨(q5 r).1, fun j hj => by have := hw j hj; omega⟩, fun _ => z_rise_zero hr (fun j hj => (hw j hj).1) ((hm 0).2 ⟨i, hi, ?_⟩)⟩
    rw [Int.sub_self, Int.mul_zero, Int.zero_emod]
  · subst h1
    refine ZRow.agr ?_ h2
    obtain ⟨q1, q2, q3, q4, q5, q6⟩ := h
    unfold z_frm
    split
    · refine ⟨q1, z_trn_rise q2, fun j hj => ?_, q4, fun r => by omega, fun _ => ?_⟩
      · have b1 := q2.le (show c - 1 - j ≤ c - 1 by omega) (by omega)
        have b2 := q3 (c - 1) (by omega)
        have b3 := q3 (c - 1 - j) (by omega)
        unfold z_trn
        omega
      · unfold z_trn
        rw [show c - 1 - 0 = c - 1 by omega]
        omega
    · exact ⟨q1, q2, q3, q4, q5, q6⟩
section ZBench10
variable {d t c : Nat} {A : ZA} {k : ZK} {F I F' I' : Nat → Nat → Int} {L : Nat → Nat → Int64} {R : Nat → Nat → Option Nat} {Q : Option ZV → ZH → Prop} {s to rd : Int} {v : Nat → Int}
theorem ZB.forms (h : ZB A k F I L R) (hk : ZFoK 9 F I F' I') (hi : ZFoI F' I' 9) : ZKp F I L F' I' L ∧ ZB A k F' I' L R := by
  refine ⟨fun a h1 h2 => ⟨hk.1 a (by omega) (by omega) (by omega), hk.2 a (by omega) (by omega) (by omega), rfl⟩, h.1.scr (fun a ha => hk.1 a (by omega) (by omega) (by omega)) (fun a h1 h2 => hk.2 a (by omega) (by omega) (by omega)), h.2.upd (fun j => by rw [hk.2 8 (by omega) (by omega) (by omega)]; exact h.2.2.2.1 j) hi (fun a ha => hk.2 a (by omega) (by omega) (by omega)) (fun a _ => rfl)⟩
/-- the form of a shelf -/
theorem c_form_shelf (h : ZB A k F I L R) (ht : t < 16) (hc0 : 0 < c) (f1 : F (34 + 2 * t) 1 = (c : Int)) (f2 : F (34 + 2 * t) 2 = rd) (hrow : ZRow v c rd) (hag : ZAgr (I (34 + 2 * t + 1)) v c)
    (K : ∀ F' I', ZKp F I L F' I' L → ZB A k F' I' L R → ZFoK 9 F I F' I' → F' 12 1 = (c : Int) → F' 12 2 = rd → ZForm v c rd (I' 13) → Q (some (.inr (.inr (some 12)))) (k, F', I', L, R)) : ZC (d + 4) 18 [.inr (.inr (some 9)), .inr (.inr (some (34 + 2 * t)))] (k, F, I, L, R) Q := by
  obtain ⟨_, ⟨_, _, hf⟩, _⟩ := h.2.1
  have hru := h.2.1.2.2.2.2.2.1 t ht
  have hrow' := hrow.agr hag
  by_cases hr : 0 < rd
  · obtain ⟨e, rfl⟩ : ∃ e : Nat, rd = (e : Int) := ⟨rd.toNat, by omega⟩
    have q := (hrow'.2.2.2.2.1 hr)
    have q2 := hrow'.2.2.2.1
    refine c_formOf_ring (e := e) hf h.2.2.2.2.1 hru (by omega) hc0 hrow.1 (by omega) f1 f2 rfl hrow'.2.1 (fun j hj => ⟨(hrow'.2.2.1 j hj).1, q.2 j hj⟩) (hrow'.2.2.2.2.2 hc0) (fun F' I' hk hi g1 g2 hb => ?_)
    have l := h.forms hk hi
    exact K F' I' l.1 l.2 hk g1 g2 (Or.inl ⟨hr, by rw [Int.toNat_natCast]; exact hb.cong hag⟩)
  · have hr0 : rd = 0 := by have := hrow.2.2.2.1; omega
    subst hr0
    refine c_formOf_ruler hf h.2.2.2.2.1 hru (by omega) hc0 hrow.1 f1 f2 rfl hrow'.2.1 hrow'.2.2.1 (fun F' I' hk hi g1 g2 hb => ?_)
    have l := h.forms hk hi
    exact K F' I' l.1 l.2 hk g1 g2 (Or.inr ⟨rfl, hb.trans (z_frm_cong hag)⟩)
theorem z_same_iff {f g : Nat → Int} : (z_int (decide (c = c) && !z_bef f g c 0 && !z_bef g f c 0) = 1 ∧ ZAgr f g c) ∨ (z_int (decide (c = c) && !z_bef f g c 0 && !z_bef g f c 0) = 0 ∧ ¬ ZAgr f g c) := by
  rw [decide_eq_true rfl]
  cases h1 : z_bef f g c 0 with
  | true => exact Or.inr ⟨rfl, fun e => by rw [z_bef_irr _ _ (fun j _ hj => e j (by omega))] at h1; cases h1⟩
  | false =>
    cases h2 : z_bef g f c 0 with
    | true => exact Or.inr ⟨rfl, fun e => by rw [z_bef_irr _ _ (fun j _ hj => (e j (by omega)).symm)] at h2; cases h2⟩
    | false => exact Or.inl ⟨rfl, fun j hj => z_bef_tri _ _ h1 h2 j (by omega) (by omega)⟩
theorem b_form (h : ZB A k F I L R) (K0 : sp_mf A s to ≠ 0 → ∀ F' I' L', ZKp F I L F' I' L' → ZB (A.1, A.2.1, sp_mf A s to) k F' I' L' R → Q (some (.inl (-1))) (k, F', I', L', R))
    (K1 : sp_mf A s to = 0 → ∀ F' I' L' (g : Nat → Int) (b : Int), ZForm (A.2.1 s.toNat).2.2 (A.2.1 s.toNat).1 (A.2.1 s.toNat).2.1 g → ((b = 1 ∧ ZAgr g (A.2.1 s.toNat).2.2 (A.2.1 s.toNat).1) ∨ (b = 0 ∧ ¬ ZAgr g (A.2.1 s.toNat).2.2 (A.2.1 s.toNat).1)) → ZKp F I L F' I' L' → ZB (A.1, z_up A.2.1 to.toNat ((A.2.1 s.toNat).1, (A.2.1 s.toNat).2.1, g), 0) k F' I' L' R → Q (some (.inl b)) (k, F', I', L', R)) : ZC (d + 6) 106 [.inr (.inr (some 2)), .inl s, .inl to] (k, F, I, L, R) Q := by
  have hR := h.2.2.1
  obtain ⟨⟨a1, a2, a3, a4, a5, a6, a7, a8, a9, a10, a11, a12, a13, a14⟩, ⟨_, _, hfo⟩, _⟩ := h.2.1
  obtain ⟨o1, _, _, _, _, _, ou, _⟩ := hfo
  have ou0 := ou
  obtain ⟨p1, p2, p3, p4⟩ := ou
  refine ze_B_form ?_
  repeat (first | refine zw_t rfl rfl ?_ | refine zw_jump rfl rfl ?_ | refine zw_getI rfl rfl (by assumption) ?_ | refine zw_ialn rfl (by assumption) (by omega) ?_ | refine zw_laln rfl (by assumption) (by omega) ?_ | refine zw_iastn rfl (by omega) (by assumption) (by omega) ?_ | refine zw_lastn rfl (by assumption) (by omega) ?_ | refine zw_iald0 rfl (by assumption) (by omega) ?_ | refine zw_lald0 rfl (by assumption) (by omega) ?_ | refine zw_aaln rfl (by assumption) rfl (by omega) ?_ | refine zw_getR rfl (by assumption) (by assumption) ?_ | refine zw_alen rfl (by assumption) rfl ?_ | refine zw_iald rfl (by assumption) (by omega) (by omega) ?_ | refine zw_iast rfl (by omega) (by assumption) (by omega) (by omega) ?_ | refine zw_putI rfl (by assumption) ?_ | refine zw_lald rfl (by assumption) (by omega) (by omega) ?_ | refine zw_last rfl (by assumption) (by omega) (by omega) ?_ | refine zw_iadd rfl (by omega) (by omega) ?_ | refine zw_isub rfl (by omega) (by omega) ?_ | refine zw_iinc rfl rfl rfl (by omega) (by omega) ?_)
  refine zw_callv rfl rfl rfl rfl rfl rfl (by assumption) ?_
  refine c_moveFault h ?_
  by_cases hf : sp_mf A s to = 0
  · have K := K1 hf
    obtain ⟨hf1, u, rfl, hu⟩ := sp_mf_to hf
    obtain ⟨t, c, rd, v, rfl, ht, hy, hc0, f1, f2, hrow, hag, hru, hr4, hrow'⟩ := h.at hf1
    rw [Int.toNat_natCast, Int.toNat_natCast, hy] at K
    dsimp only at K
    have hru0 := hru
    obtain ⟨r1, r2, r3, r4⟩ := hru
    have huu := h.2.1.2.2.2.2.2.1 u hu
    have hu4 := hR.2 u hu
    have huu0 := huu
    obtain ⟨u1, u2, u3, u4⟩ := huu
    rw [hf]
    refine zw_callv rfl rfl rfl rfl rfl rfl (by assumption) ?_
    refine c_passes a1 ?_
    rw [if_pos rfl]
    refine zw_if_ne_t rfl (by decide) ?_
    repeat (first | refine zw_t rfl rfl ?_ | refine zw_jump rfl rfl ?_ | refine zw_getI rfl rfl (by assumption) ?_ | refine zw_ialn rfl (by assumption) (by omega) ?_ | refine zw_laln rfl (by assumption) (by omega) ?_ | refine zw_iastn rfl (by omega) (by assumption) (by omega) ?_ | refine zw_lastn rfl (by assumption) (by omega) ?_ | refine zw_iald0 rfl (by assumption) (by omega) ?_ | refine zw_lald0 rfl (by assumption) (by omega) ?_ | refine zw_aaln rfl (by assumption) rfl (by omega) ?_ | refine zw_getR rfl (by assumption) (by assumption) ?_ | refine zw_alen rfl (by assumption) rfl ?_ | refine zw_iald rfl (by assumption) (by omega) (by omega) ?_ | refine zw_iast rfl (by omega) (by assumption) (by omega) (by omega) ?_ | refine zw_putI rfl (by assumption) ?_ | refine zw_lald rfl (by assumption) (by omega) (by omega) ?_ | refine zw_last rfl (by assumption) (by omega) (by omega) ?_ | refine zw_iadd rfl (by omega) (by omega) ?_ | refine zw_isub rfl (by omega) (by omega) ?_ | refine zw_iinc rfl rfl rfl (by omega) (by omega) ?_)
    rw [hr4]
    have l := z_refused h 0
    refine zw_callv rfl rfl rfl rfl rfl rfl (by assumption) ?_
    refine c_form_shelf l.2 ht hc0 (by rw [z_u2_ad _ _ _ (by omega)]; exact f1) (by rw [z_u2_ad _ _ _ (by omega)]; exact f2) hrow hag (fun F1 I1 l1 l2 hk g1 g2 hform => ?_)
    have e1 : F1 (34 + 2 * t) 1 = (c : Int) := by rw [hk.1 _ (by omega) (by omega) (by omega), z_u2_ad _ _ _ (by omega)]; exact f1
    have e2 : I1 (34 + 2 * t + 1) = I (34 + 2 * t + 1) := hk.2 _ (by omega) (by omega) (by omega)
    have l3 := ZB.cpy (t := u) (c := c) (o := 12) (rd := rd) (v := I1 13) l2 hu g1 g2 (hform.row hrow hc0) (fun j hj => rfl)
    repeat (first | refine zw_t rfl rfl ?_ | refine zw_jump rfl rfl ?_ | refine zw_getI rfl rfl (by assumption) ?_ | refine zw_ialn rfl (by assumption) (by omega) ?_ | refine zw_laln rfl (by assumption) (by omega) ?_ | refine zw_iastn rfl (by omega) (by assumption) (by omega) ?_ | refine zw_lastn rfl (by assumption) (by omega) ?_ | refine zw_iald0 rfl (by assumption) (by omega) ?_ | refine zw_lald0 rfl (by assumption) (by omega) ?_ | refine zw_aaln rfl (by assumption) rfl (by omega) ?_ | refine zw_getR rfl (by assumption) (by assumption) ?_ | refine zw_alen rfl (by assumption) rfl ?_ | refine zw_iald rfl (by assumption) (by omega) (by omega) ?_ | refine zw_iast rfl (by omega) (by assumption) (by omega) (by omega) ?_ | refine zw_putI rfl (by assumption) ?_ | refine zw_lald rfl (by assumption) (by omega) (by omega) ?_ | refine zw_last rfl (by assumption) (by omega) (by omega) ?_ | refine zw_iadd rfl (by omega) (by omega) ?_ | refine zw_isub rfl (by omega) (by omega) ?_ | refine zw_iinc rfl rfl rfl (by omega) (by omega) ?_)
    rw [hr4]
    refine zw_callv rfl rfl rfl rfl rfl rfl (by assumption) ?_
    refine c_sameMarks ou0 hru0 g1 hrow.1 e1 hrow.1 ?_
    have hs := z_same_iff (c := c) (f := I1 (9 + 3 + 1)) (g := I1 (34 + 2 * t + 1))
    obtain ⟨b, hb⟩ : ∃ b, b = z_int (decide (c = c) && !z_bef (I1 (9 + 3 + 1)) (I1 (34 + 2 * t + 1)) c 0 && !z_bef (I1 (34 + 2 * t + 1)) (I1 (9 + 3 + 1)) c 0) := ⟨_, rfl⟩
    rw [← hb] at hs ⊢
    have hs' : (b = 1 ∧ ZAgr (I1 13) v c) ∨ (b = 0 ∧ ¬ ZAgr (I1 13) v c) := by
      rw [e2] at hs
      rcases hs with ⟨q1, q2⟩ | ⟨q1, q2⟩
      · exact Or.inl ⟨q1, ZAgr.trans q2 hag⟩
      · exact Or.inr ⟨q1, fun q3 => q2 (ZAgr.trans q3 hag.symm)⟩
    have fin := K _ _ _ _ b hform hs' ((l.1.trans l1).trans l3.1) l3.2
    repeat (first | refine zw_t rfl rfl ?_ | refine zw_jump rfl rfl ?_ | refine zw_getI rfl rfl (by assumption) ?_ | refine zw_ialn rfl (by assumption) (by omega) ?_ | refine zw_laln rfl (by assumption) (by omega) ?_ | refine zw_iastn rfl (by omega) (by assumption) (by omega) ?_ | refine zw_lastn rfl (by assumption) (by omega) ?_ | refine zw_iald0 rfl (by assumption) (by omega) ?_ | refine zw_lald0 rfl (by assumption) (by omega) ?_ | refine zw_aaln rfl (by assumption) rfl (by omega) ?_ | refine zw_getR rfl (by assumption) (by assumption) ?_ | refine zw_alen rfl (by assumption) rfl ?_ | refine zw_iald rfl (by assumption) (by omega) (by omega) ?_ | refine zw_iast rfl (by omega) (by assumption) (by omega) (by omega) ?_ | refine zw_putI rfl (by assumption) ?_ | refine zw_lald rfl (by assumption) (by omega) (by omega) ?_ | refine zw_last rfl (by assumption) (by omega) (by omega) ?_ | refine zw_iadd rfl (by omega) (by omega) ?_ | refine zw_isub rfl (by omega) (by omega) ?_ | refine zw_iinc rfl rfl rfl (by omega) (by omega) ?_)
    rw [hu4]
    repeat (first | refine zw_t rfl rfl ?_ | refine zw_jump rfl rfl ?_ | refine zw_getI rfl rfl (by assumption) ?_ | refine zw_ialn rfl (by assumption) (by omega) ?_ | refine zw_laln rfl (by assumption) (by omega) ?_ | refine zw_iastn rfl (by omega) (by assumption) (by omega) ?_ | refine zw_lastn rfl (by assumption) (by omega) ?_ | refine zw_iald0 rfl (by assumption) (by omega) ?_ | refine zw_lald0 rfl (by assumption) (by omega) ?_ | refine zw_aaln rfl (by assumption) rfl (by omega) ?_ | refine zw_getR rfl (by assumption) (by assumption) ?_ | refine zw_alen rfl (by assumption) rfl ?_ | refine zw_iald rfl (by assumption) (by omega) (by omega) ?_ | refine zw_iast rfl (by omega) (by assumption) (by omega) (by omega) ?_ | refine zw_putI rfl (by assumption) ?_ | refine zw_lald rfl (by assumption) (by omega) (by omega) ?_ | refine zw_last rfl (by assumption) (by omega) (by omega) ?_ | refine zw_iadd rfl (by omega) (by omega) ?_ | refine zw_isub rfl (by omega) (by omega) ?_ | refine zw_iinc rfl rfl rfl (by omega) (by omega) ?_)
    refine zw_callv rfl rfl rfl rfl rfl rfl (by assumption) ?_
    refine c_copy huu0 ou0 (by omega) ?_
    repeat (first | refine zw_t rfl rfl ?_ | refine zw_jump rfl rfl ?_ | refine zw_getI rfl rfl (by assumption) ?_ | refine zw_ialn rfl (by assumption) (by omega) ?_ | refine zw_laln rfl (by assumption) (by omega) ?_ | refine zw_iastn rfl (by omega) (by assumption) (by omega) ?_ | refine zw_lastn rfl (by assumption) (by omega) ?_ | refine zw_iald0 rfl (by assumption) (by omega) ?_ | refine zw_lald0 rfl (by assumption) (by omega) ?_ | refine zw_aaln rfl (by assumption) rfl (by omega) ?_ | refine zw_getR rfl (by assumption) (by assumption) ?_ | refine zw_alen rfl (by assumption) rfl ?_ | refine zw_iald rfl (by assumption) (by omega) (by omega) ?_ | refine zw_iast rfl (by omega) (by assumption) (by omega) (by omega) ?_ | refine zw_putI rfl (by assumption) ?_ | refine zw_lald rfl (by assumption) (by omega) (by omega) ?_ | refine zw_last rfl (by assumption) (by omega) (by omega) ?_ | refine zw_iadd rfl (by omega) (by omega) ?_ | refine zw_isub rfl (by omega) (by omega) ?_ | refine zw_iinc rfl rfl rfl (by omega) (by omega) ?_)
    rcases hs' with ⟨q1, q2⟩ | ⟨q1, q2⟩
    · subst q1
      refine zw_if_eq_f rfl (by decide) ?_
      repeat (first | refine zw_t rfl rfl ?_ | refine zw_jump rfl rfl ?_ | refine zw_getI rfl rfl (by assumption) ?_ | refine zw_ialn rfl (by assumption) (by omega) ?_ | refine zw_laln rfl (by assumption) (by omega) ?_ | refine zw_iastn rfl (by omega) (by assumption) (by omega) ?_ | refine zw_lastn rfl (by assumption) (by omega) ?_ | refine zw_iald0 rfl (by assumption) (by omega) ?_ | refine zw_lald0 rfl (by assumption) (by omega) ?_ | refine zw_aaln rfl (by assumption) rfl (by omega) ?_ | refine zw_getR rfl (by assumption) (by assumption) ?_ | refine zw_alen rfl (by assumption) rfl ?_ | refine zw_iald rfl (by assumption) (by omega) (by omega) ?_ | refine zw_iast rfl (by omega) (by assumption) (by omega) (by omega) ?_ | refine zw_putI rfl (by assumption) ?_ | refine zw_lald rfl (by assumption) (by omega) (by omega) ?_ | refine zw_last rfl (by assumption) (by omega) (by omega) ?_ | refine zw_iadd rfl (by omega) (by omega) ?_ | refine zw_isub rfl (by omega) (by omega) ?_ | refine zw_iinc rfl rfl rfl (by omega) (by omega) ?_)
      exact zw_iret rfl fin
    · subst q1
      refine zw_if_eq_t rfl rfl ?_
      repeat (first | refine zw_t rfl rfl ?_ | refine zw_jump rfl rfl ?_ | refine zw_getI rfl rfl (by assumption) ?_ | refine zw_ialn rfl (by assumption) (by omega) ?_ | refine zw_laln rfl (by assumption) (by omega) ?_ | refine zw_iastn rfl (by omega) (by assumption) (by omega) ?_ | refine zw_lastn rfl (by assumption) (by omega) ?_ | refine zw_iald0 rfl (by assumption) (by omega) ?_ | refine zw_lald0 rfl (by assumption) (by omega) ?_ | refine zw_aaln rfl (by assumption) rfl (by omega) ?_ | refine zw_getR rfl (by assumption) (by assumption) ?_ | refine zw_alen rfl (by assumption) rfl ?_ | refine zw_iald rfl (by assumption) (by omega) (by omega) ?_ | refine zw_iast rfl (by omega) (by assumption) (by omega) (by omega) ?_ | refine zw_putI rfl (by assumption) ?_ | refine zw_lald rfl (by assumption) (by omega) (by omega) ?_ | refine zw_last rfl (by assumption) (by omega) (by omega) ?_ | refine zw_iadd rfl (by omega) (by omega) ?_ | refine zw_isub rfl (by omega) (by omega) ?_ | refine zw_iinc rfl rfl rfl (by omega) (by omega) ?_)
      exact zw_iret rfl fin
  · refine zw_callv rfl rfl rfl rfl rfl rfl (by assumption) ?_
    refine c_passes a1 ?_
    rw [if_neg hf]
    refine zw_if_ne_f rfl rfl ?_
    repeat (first | refine zw_t rfl rfl ?_ | refine zw_jump rfl rfl ?_ | refine zw_getI rfl rfl (by assumption) ?_ | refine zw_ialn rfl (by assumption) (by omega) ?_ | refine zw_laln rfl (by assumption) (by omega) ?_ | refine zw_iastn rfl (by omega) (by assumption) (by omega) ?_ | refine zw_lastn rfl (by assumption) (by omega) ?_ | refine zw_iald0 rfl (by assumption) (by omega) ?_ | refine zw_lald0 rfl (by assumption) (by omega) ?_ | refine zw_aaln rfl (by assumption) rfl (by omega) ?_ | refine zw_getR rfl (by assumption) (by assumption) ?_ | refine zw_alen rfl (by assumption) rfl ?_ | refine zw_iald rfl (by assumption) (by omega) (by omega) ?_ | refine zw_iast rfl (by omega) (by assumption) (by omega) (by omega) ?_ | refine zw_putI rfl (by assumption) ?_ | refine zw_lald rfl (by assumption) (by omega) (by omega) ?_ | refine zw_last rfl (by assumption) (by omega) (by omega) ?_ | refine zw_iadd rfl (by omega) (by omega) ?_ | refine zw_isub rfl (by omega) (by omega) ?_ | refine zw_iinc rfl rfl rfl (by omega) (by omega) ?_)
    exact zw_iret rfl (K0 hf _ _ _ (z_refused h _).1 (z_refused h _).2)
end ZBench10
