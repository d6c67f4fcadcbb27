/-! THE LAW: the calls, side by side, the rest -/
section ZLawC
variable {A : ZA} {d n i : Nat} {f : Nat → Int} {k : ZK} {F I : Nat → Nat → Int} {L : Nat → Nat → Int64} {R : Nat → Nat → Option Nat} {Q : Option ZV → ZH → Prop}
theorem ZB.lf_pos {a b : Int} (hB : ZB A k F I L R) (hf : sp_lf A a b = 0) : 0 < (A.2.1 a.toNat).1 := by
  have hc1 : sp_mf A a b = 0 := by
    unfold sp_lf at hf
    by_cases e : sp_mf A a b = 0
    · exact e
    · rw [if_neg e] at hf; exact absurd hf e
  obtain ⟨t, c, rd, v, es, ht, hy, hc0, _⟩ := hB.at (sp_mf_to hc1).1
  rw [es, Int.toNat_natCast, hy]; exact hc0
theorem l_turn (h : ZJ A n f k F I L R) (hn : n ≤ 2560) (hi : i + 5 ≤ n) (nx : ZNx (d + 40) n i f k Q) : ZW (d + 40) 229 722 [some (.inr (.inr (some 0))), some (.inr (.inr (some 2))), some (.inr (.inr (some 79))), some (.inl (i : Int))] [] (k, F, I, L, R) Q := by
  obtain ⟨hB, hk, hM, hT, hI, hx⟩ := h
  have hT2 : k.1 2 = (1, 11) := hB.2.1.1.1
  have hT79 : k.1 79 = (1, 12) := hk.1.1
  repeat (first | refine zw_t rfl rfl ?_ | refine zw_jump rfl rfl ?_ | refine zw_getI rfl rfl (by assumption) ?_ | refine zw_ialn rfl (by assumption) (by omega) ?_ | refine zw_laln rfl (by assumption) (by omega) ?_ | refine zw_iastn rfl (by omega) (by assumption) (by omega) ?_ | refine zw_lastn rfl (by assumption) (by omega) ?_ | refine zw_iald0 rfl (by assumption) (by omega) ?_ | refine zw_lald0 rfl (by assumption) (by omega) ?_ | refine zw_aaln rfl (by assumption) rfl (by omega) ?_ | refine zw_getR rfl (by assumption) (by assumption) ?_ | refine zw_alen rfl (by assumption) rfl ?_ | refine zw_iald rfl (by assumption) (by omega) (by omega) ?_ | refine zw_iast rfl (by omega) (by assumption) (by omega) (by omega) ?_ | refine zw_putI rfl (by assumption) ?_ | refine zw_lald rfl (by assumption) (by omega) (by omega) ?_ | refine zw_last rfl (by assumption) (by omega) (by omega) ?_ | refine zw_iadd rfl (by omega) (by omega) ?_ | refine zw_isub rfl (by omega) (by omega) ?_ | refine zw_iinc rfl rfl rfl (by omega) (by omega) ?_ | refine zw_imul rfl (by omega) (by omega) ?_)
  refine zw_callv rfl rfl rfl rfl rfl rfl (by assumption) ?_
  refine b_turn hB (fun F1 I1 L1 q1 hB1 => ?_)
  have e1 : I1 0 = I 0 := (q1 0 (Or.inl rfl) (by omega)).2.1
  repeat (first | refine zw_t rfl rfl ?_ | refine zw_jump rfl rfl ?_ | refine zw_getI rfl rfl (by assumption) ?_ | refine zw_ialn rfl (by assumption) (by omega) ?_ | refine zw_laln rfl (by assumption) (by omega) ?_ | refine zw_iastn rfl (by omega) (by assumption) (by omega) ?_ | refine zw_lastn rfl (by assumption) (by omega) ?_ | refine zw_iald0 rfl (by assumption) (by omega) ?_ | refine zw_lald0 rfl (by assumption) (by omega) ?_ | refine zw_aaln rfl (by assumption) rfl (by omega) ?_ | refine zw_getR rfl (by assumption) (by assumption) ?_ | refine zw_alen rfl (by assumption) rfl ?_ | refine zw_iald rfl (by assumption) (by omega) (by omega) ?_ | refine zw_iast rfl (by omega) (by assumption) (by omega) (by omega) ?_ | refine zw_putI rfl (by assumption) ?_ | refine zw_lald rfl (by assumption) (by omega) (by omega) ?_ | refine zw_last rfl (by assumption) (by omega) (by omega) ?_ | refine zw_iadd rfl (by omega) (by omega) ?_ | refine zw_isub rfl (by omega) (by omega) ?_ | refine zw_iinc rfl rfl rfl (by omega) (by omega) ?_ | refine zw_imul rfl (by omega) (by omega) ?_)
  rw [e1]
  refine zw_callv rfl rfl rfl rfl rfl rfl (by assumption) ?_
  refine m_turn hk (hM.kp q1) (fun F2 I2 L2 q2 hM2 => ?_)
  refine zw_icmp_eq_t rfl rfl ?_
  exact nx _ _ _ _ _ _ (ZJ.same hk hT hI hx q1 q2 hB1 hM2) (ZG.refl _ _ _)
theorem l_form (h : ZJ A n f k F I L R) (hn : n ≤ 2560) (hi : i + 5 ≤ n) (nx : ZNx (d + 40) n i f k Q) : ZW (d + 40) 229 755 [some (.inr (.inr (some 0))), some (.inr (.inr (some 2))), some (.inr (.inr (some 79))), some (.inl (i : Int))] [] (k, F, I, L, R) Q := by
  obtain ⟨hB, hk, hM, hT, hI, hx⟩ := h
  have hT2 : k.1 2 = (1, 11) := hB.2.1.1.1
  have hT79 : k.1 79 = (1, 12) := hk.1.1
  repeat (first | refine zw_t rfl rfl ?_ | refine zw_jump rfl rfl ?_ | refine zw_getI rfl rfl (by assumption) ?_ | refine zw_ialn rfl (by assumption) (by omega) ?_ | refine zw_laln rfl (by assumption) (by omega) ?_ | refine zw_iastn rfl (by omega) (by assumption) (by omega) ?_ | refine zw_lastn rfl (by assumption) (by omega) ?_ | refine zw_iald0 rfl (by assumption) (by omega) ?_ | refine zw_lald0 rfl (by assumption) (by omega) ?_ | refine zw_aaln rfl (by assumption) rfl (by omega) ?_ | refine zw_getR rfl (by assumption) (by assumption) ?_ | refine zw_alen rfl (by assumption) rfl ?_ | refine zw_iald rfl (by assumption) (by omega) (by omega) ?_ | refine zw_iast rfl (by omega) (by assumption) (by omega) (by omega) ?_ | refine zw_putI rfl (by assumption) ?_ | refine zw_lald rfl (by assumption) (by omega) (by omega) ?_ | refine zw_last rfl (by assumption) (by omega) (by omega) ?_ | refine zw_iadd rfl (by omega) (by omega) ?_ | refine zw_isub rfl (by omega) (by omega) ?_ | refine zw_iinc rfl rfl rfl (by omega) (by omega) ?_ | refine zw_imul rfl (by omega) (by omega) ?_)
  refine zw_callv rfl rfl rfl rfl rfl rfl (by assumption) ?_
  refine b_form hB (fun hf F1 I1 L1 q1 hB1 => ?_) (fun hf F1 I1 L1 g x hg hg1 q1 hB1 => ?_)
  · have e1 : I1 0 = I 0 := (q1 0 (Or.inl rfl) (by omega)).2.1
    repeat (first | refine zw_t rfl rfl ?_ | refine zw_jump rfl rfl ?_ | refine zw_getI rfl rfl (by assumption) ?_ | refine zw_ialn rfl (by assumption) (by omega) ?_ | refine zw_laln rfl (by assumption) (by omega) ?_ | refine zw_iastn rfl (by omega) (by assumption) (by omega) ?_ | refine zw_lastn rfl (by assumption) (by omega) ?_ | refine zw_iald0 rfl (by assumption) (by omega) ?_ | refine zw_lald0 rfl (by assumption) (by omega) ?_ | refine zw_aaln rfl (by assumption) rfl (by omega) ?_ | refine zw_getR rfl (by assumption) (by assumption) ?_ | refine zw_alen rfl (by assumption) rfl ?_ | refine zw_iald rfl (by assumption) (by omega) (by omega) ?_ | refine zw_iast rfl (by omega) (by assumption) (by omega) (by omega) ?_ | refine zw_putI rfl (by assumption) ?_ | refine zw_lald rfl (by assumption) (by omega) (by omega) ?_ | refine zw_last rfl (by assumption) (by omega) (by omega) ?_ | refine zw_iadd rfl (by omega) (by omega) ?_ | refine zw_isub rfl (by omega) (by omega) ?_ | refine zw_iinc rfl rfl rfl (by omega) (by omega) ?_ | refine zw_imul rfl (by omega) (by omega) ?_)
    rw [e1]
    refine zw_callv rfl rfl rfl rfl rfl rfl (by assumption) ?_
    refine m_form hk (hM.kp q1) (fun _ F2 I2 L2 q2 hM2 => ?_) (fun hf' => absurd hf' hf)
    refine zw_icmp_eq_t rfl rfl ?_
    exact nx _ _ _ _ _ _ (ZJ.same hk hT hI hx q1 q2 hB1 hM2) (ZG.refl _ _ _)
  · have e1 : I1 0 = I 0 := (q1 0 (Or.inl rfl) (by omega)).2.1
    repeat (first | refine zw_t rfl rfl ?_ | refine zw_jump rfl rfl ?_ | refine zw_getI rfl rfl (by assumption) ?_ | refine zw_ialn rfl (by assumption) (by omega) ?_ | refine zw_laln rfl (by assumption) (by omega) ?_ | refine zw_iastn rfl (by omega) (by assumption) (by omega) ?_ | refine zw_lastn rfl (by assumption) (by omega) ?_ | refine zw_iald0 rfl (by assumption) (by omega) ?_ | refine zw_lald0 rfl (by assumption) (by omega) ?_ | refine zw_aaln rfl (by assumption) rfl (by omega) ?_ | refine zw_getR rfl (by assumption) (by assumption) ?_ | refine zw_alen rfl (by assumption) rfl ?_ | refine zw_iald rfl (by assumption) (by omega) (by omega) ?_ | refine zw_iast rfl (by omega) (by assumption) (by omega) (by omega) ?_ | refine zw_putI rfl (by assumption) ?_ | refine zw_lald rfl (by assumption) (by omega) (by omega) ?_ | refine zw_last rfl (by assumption) (by omega) (by omega) ?_ | refine zw_iadd rfl (by omega) (by omega) ?_ | refine zw_isub rfl (by omega) (by omega) ?_ | refine zw_iinc rfl rfl rfl (by omega) (by omega) ?_ | refine zw_imul rfl (by omega) (by omega) ?_)
    rw [e1]
    refine zw_callv rfl rfl rfl rfl rfl rfl (by assumption) ?_
    refine m_form hk (hM.kp q1) (fun hf' => absurd hf hf') (fun _ F2 I2 L2 g' x' hg' hg2 q2 hM2 => ?_)
    obtain ⟨hf1, u, eu, hu⟩ := sp_mf_to hf
    obtain ⟨t, c, rd, v, es, ht, hy, hc0, _⟩ := hB.at hf1
    rw [es, Int.toNat_natCast, hy, eu, Int.toNat_natCast] at hB1 hM2
    rw [es, Int.toNat_natCast, hy] at hg hg' hg1 hg2
    dsimp only at hB1 hM2 hg hg' hg1 hg2
    have ag := ZForm.uniq hc0 hg hg'
    refine zw_icmp_eq_t rfl (z_form_ans hg1 hg2 ag) ?_
    have hr : ZRow g c rd := by
      have q := hB1.1.2.1 u hu
      have q : ZSh F1 I1 u (z_up A.2.1 u (c, rd, g) u) := q
      rw [z_up_same] at q
      exact q.2.2.1
    exact nx _ _ _ _ _ _ (ZJ.same hk hT hI hx q1 q2 hB1 (hM2.agr ag hr)) (ZG.refl _ _ _)
theorem l_alike (h : ZJ A n f k F I L R) (hn : n ≤ 2560) (hi : i + 5 ≤ n) (nx : ZNx (d + 40) n i f k Q) : ZW (d + 40) 229 788 [some (.inr (.inr (some 0))), some (.inr (.inr (some 2))), some (.inr (.inr (some 79))), some (.inl (i : Int))] [] (k, F, I, L, R) Q := by
  obtain ⟨hB, hk, hM, hT, hI, hx⟩ := h
  have hT2 : k.1 2 = (1, 11) := hB.2.1.1.1
  have hT79 : k.1 79 = (1, 12) := hk.1.1
  repeat (first | refine zw_t rfl rfl ?_ | refine zw_jump rfl rfl ?_ | refine zw_getI rfl rfl (by assumption) ?_ | refine zw_ialn rfl (by assumption) (by omega) ?_ | refine zw_laln rfl (by assumption) (by omega) ?_ | refine zw_iastn rfl (by omega) (by assumption) (by omega) ?_ | refine zw_lastn rfl (by assumption) (by omega) ?_ | refine zw_iald0 rfl (by assumption) (by omega) ?_ | refine zw_lald0 rfl (by assumption) (by omega) ?_ | refine zw_aaln rfl (by assumption) rfl (by omega) ?_ | refine zw_getR rfl (by assumption) (by assumption) ?_ | refine zw_alen rfl (by assumption) rfl ?_ | refine zw_iald rfl (by assumption) (by omega) (by omega) ?_ | refine zw_iast rfl (by omega) (by assumption) (by omega) (by omega) ?_ | refine zw_putI rfl (by assumption) ?_ | refine zw_lald rfl (by assumption) (by omega) (by omega) ?_ | refine zw_last rfl (by assumption) (by omega) (by omega) ?_ | refine zw_iadd rfl (by omega) (by omega) ?_ | refine zw_isub rfl (by omega) (by omega) ?_ | refine zw_iinc rfl rfl rfl (by omega) (by omega) ?_ | refine zw_imul rfl (by omega) (by omega) ?_)
  refine zw_callv rfl rfl rfl rfl rfl rfl (by assumption) ?_
  refine b_alike hB (fun hf F1 I1 L1 q1 hB1 => ?_) (fun hf hs F1 I1 L1 q1 hB1 => ?_) (fun hf hs F1 I1 L1 g1 g2 x hg1 hg2 hx1 q1 hB1 => ?_)
  · have e1 : I1 0 = I 0 := (q1 0 (Or.inl rfl) (by omega)).2.1
    repeat (first | refine zw_t rfl rfl ?_ | refine zw_jump rfl rfl ?_ | refine zw_getI rfl rfl (by assumption) ?_ | refine zw_ialn rfl (by assumption) (by omega) ?_ | refine zw_laln rfl (by assumption) (by omega) ?_ | refine zw_iastn rfl (by omega) (by assumption) (by omega) ?_ | refine zw_lastn rfl (by assumption) (by omega) ?_ | refine zw_iald0 rfl (by assumption) (by omega) ?_ | refine zw_lald0 rfl (by assumption) (by omega) ?_ | refine zw_aaln rfl (by assumption) rfl (by omega) ?_ | refine zw_getR rfl (by assumption) (by assumption) ?_ | refine zw_alen rfl (by assumption) rfl ?_ | refine zw_iald rfl (by assumption) (by omega) (by omega) ?_ | refine zw_iast rfl (by omega) (by assumption) (by omega) (by omega) ?_ | refine zw_putI rfl (by assumption) ?_ | refine zw_lald rfl (by assumption) (by omega) (by omega) ?_ | refine zw_last rfl (by assumption) (by omega) (by omega) ?_ | refine zw_iadd rfl (by omega) (by omega) ?_ | refine zw_isub rfl (by omega) (by omega) ?_ | refine zw_iinc rfl rfl rfl (by omega) (by omega) ?_ | refine zw_imul rfl (by omega) (by omega) ?_)
    rw [e1]
    refine zw_callv rfl rfl rfl rfl rfl rfl (by assumption) ?_
    refine m_alike hk (hM.kp q1) (fun _ F2 I2 L2 q2 hM2 => ?_) (fun hf' => absurd hf' hf) (fun hf' => absurd hf' hf)
    refine zw_icmp_eq_t rfl rfl ?_
    exact nx _ _ _ _ _ _ (ZJ.same hk hT hI hx q1 q2 hB1 hM2) (ZG.refl _ _ _)
  · have e1 : I1 0 = I 0 := (q1 0 (Or.inl rfl) (by omega)).2.1
    repeat (first | refine zw_t rfl rfl ?_ | refine zw_jump rfl rfl ?_ | refine zw_getI rfl rfl (by assumption) ?_ | refine zw_ialn rfl (by assumption) (by omega) ?_ | refine zw_laln rfl (by assumption) (by omega) ?_ | refine zw_iastn rfl (by omega) (by assumption) (by omega) ?_ | refine zw_lastn rfl (by assumption) (by omega) ?_ | refine zw_iald0 rfl (by assumption) (by omega) ?_ | refine zw_lald0 rfl (by assumption) (by omega) ?_ | refine zw_aaln rfl (by assumption) rfl (by omega) ?_ | refine zw_getR rfl (by assumption) (by assumption) ?_ | refine zw_alen rfl (by assumption) rfl ?_ | refine zw_iald rfl (by assumption) (by omega) (by omega) ?_ | refine zw_iast rfl (by omega) (by assumption) (by omega) (by omega) ?_ | refine zw_putI rfl (by assumption) ?_ | refine zw_lald rfl (by assumption) (by omega) (by omega) ?_ | refine zw_last rfl (by assumption) (by omega) (by omega) ?_ | refine zw_iadd rfl (by omega) (by omega) ?_ | refine zw_isub rfl (by omega) (by omega) ?_ | refine zw_iinc rfl rfl rfl (by omega) (by omega) ?_ | refine zw_imul rfl (by omega) (by omega) ?_)
    rw [e1]
    refine zw_callv rfl rfl rfl rfl rfl rfl (by assumption) ?_
    refine m_alike hk (hM.kp q1) (fun hf' => absurd hf hf') (fun _ _ F2 I2 L2 q2 hM2 => ?_) (fun _ hs' => absurd hs' hs)
    refine zw_icmp_eq_t rfl rfl ?_
    exact nx _ _ _ _ _ _ (ZJ.same hk hT hI hx q1 q2 hB1 hM2) (ZG.refl _ _ _)
  · have e1 : I1 0 = I 0 := (q1 0 (Or.inl rfl) (by omega)).2.1
    repeat (first | refine zw_t rfl rfl ?_ | refine zw_jump rfl rfl ?_ | refine zw_getI rfl rfl (by assumption) ?_ | refine zw_ialn rfl (by assumption) (by omega) ?_ | refine zw_laln rfl (by assumption) (by omega) ?_ | refine zw_iastn rfl (by omega) (by assumption) (by omega) ?_ | refine zw_lastn rfl (by assumption) (by omega) ?_ | refine zw_iald0 rfl (by assumption) (by omega) ?_ | refine zw_lald0 rfl (by assumption) (by omega) ?_ | refine zw_aaln rfl (by assumption) rfl (by omega) ?_ | refine zw_getR rfl (by assumption) (by assumption) ?_ | refine zw_alen rfl (by assumption) rfl ?_ | refine zw_iald rfl (by assumption) (by omega) (by omega) ?_ | refine zw_iast rfl (by omega) (by assumption) (by omega) (by omega) ?_ | refine zw_putI rfl (by assumption) ?_ | refine zw_lald rfl (by assumption) (by omega) (by omega) ?_ | refine zw_last rfl (by assumption) (by omega) (by omega) ?_ | refine zw_iadd rfl (by omega) (by omega) ?_ | refine zw_isub rfl (by omega) (by omega) ?_ | refine zw_iinc rfl rfl rfl (by omega) (by omega) ?_ | refine zw_imul rfl (by omega) (by omega) ?_)
    rw [e1]
    refine zw_callv rfl rfl rfl rfl rfl rfl (by assumption) ?_
    refine m_alike hk (hM.kp q1) (fun hf' => absurd hf hf') (fun _ hs' => absurd hs hs') (fun _ _ F2 I2 L2 g3 g4 x' hg3 hg4 hx2 q2 hM2 => ?_)
    have ca := hB.lf_pos hf
    have ag1 := ZForm.uniq ca hg1 hg3
    have ag2 := ZForm.uniq (by rw [← hs.2]; exact ca) hg2 hg4
    rw [← hs.2] at ag2
    refine zw_icmp_eq_t rfl (z_alike_ans hx1 hx2 ag1 ag2) ?_
    exact nx _ _ _ _ _ _ (ZJ.same hk hT hI hx q1 q2 hB1 hM2) (ZG.refl _ _ _)
theorem l_factor (h : ZJ A n f k F I L R) (hn : n ≤ 2560) (hi : i + 5 ≤ n) (nx : ZNx (d + 40) n i f k Q) : ZW (d + 40) 229 821 [some (.inr (.inr (some 0))), some (.inr (.inr (some 2))), some (.inr (.inr (some 79))), some (.inl (i : Int))] [] (k, F, I, L, R) Q := by
  obtain ⟨hB, hk, hM, hT, hI, hx⟩ := h
  have hT2 : k.1 2 = (1, 11) := hB.2.1.1.1
  have hT79 : k.1 79 = (1, 12) := hk.1.1
  repeat (first | refine zw_t rfl rfl ?_ | refine zw_jump rfl rfl ?_ | refine zw_getI rfl rfl (by assumption) ?_ | refine zw_ialn rfl (by assumption) (by omega) ?_ | refine zw_laln rfl (by assumption) (by omega) ?_ | refine zw_iastn rfl (by omega) (by assumption) (by omega) ?_ | refine zw_lastn rfl (by assumption) (by omega) ?_ | refine zw_iald0 rfl (by assumption) (by omega) ?_ | refine zw_lald0 rfl (by assumption) (by omega) ?_ | refine zw_aaln rfl (by assumption) rfl (by omega) ?_ | refine zw_getR rfl (by assumption) (by assumption) ?_ | refine zw_alen rfl (by assumption) rfl ?_ | refine zw_iald rfl (by assumption) (by omega) (by omega) ?_ | refine zw_iast rfl (by omega) (by assumption) (by omega) (by omega) ?_ | refine zw_putI rfl (by assumption) ?_ | refine zw_lald rfl (by assumption) (by omega) (by omega) ?_ | refine zw_last rfl (by assumption) (by omega) (by omega) ?_ | refine zw_iadd rfl (by omega) (by omega) ?_ | refine zw_isub rfl (by omega) (by omega) ?_ | refine zw_iinc rfl rfl rfl (by omega) (by omega) ?_ | refine zw_imul rfl (by omega) (by omega) ?_)
  refine zw_callv rfl rfl rfl rfl rfl rfl (by assumption) ?_
  refine b_factor hB (fun F1 I1 L1 q1 hB1 => ?_)
  have e1 : I1 0 = I 0 := (q1 0 (Or.inl rfl) (by omega)).2.1
  repeat (first | refine zw_t rfl rfl ?_ | refine zw_jump rfl rfl ?_ | refine zw_getI rfl rfl (by assumption) ?_ | refine zw_ialn rfl (by assumption) (by omega) ?_ | refine zw_laln rfl (by assumption) (by omega) ?_ | refine zw_iastn rfl (by omega) (by assumption) (by omega) ?_ | refine zw_lastn rfl (by assumption) (by omega) ?_ | refine zw_iald0 rfl (by assumption) (by omega) ?_ | refine zw_lald0 rfl (by assumption) (by omega) ?_ | refine zw_aaln rfl (by assumption) rfl (by omega) ?_ | refine zw_getR rfl (by assumption) (by assumption) ?_ | refine zw_alen rfl (by assumption) rfl ?_ | refine zw_iald rfl (by assumption) (by omega) (by omega) ?_ | refine zw_iast rfl (by omega) (by assumption) (by omega) (by omega) ?_ | refine zw_putI rfl (by assumption) ?_ | refine zw_lald rfl (by assumption) (by omega) (by omega) ?_ | refine zw_last rfl (by assumption) (by omega) (by omega) ?_ | refine zw_iadd rfl (by omega) (by omega) ?_ | refine zw_isub rfl (by omega) (by omega) ?_ | refine zw_iinc rfl rfl rfl (by omega) (by omega) ?_ | refine zw_imul rfl (by omega) (by omega) ?_)
  rw [e1]
  refine zw_callv rfl rfl rfl rfl rfl rfl (by assumption) ?_
  refine m_factor hk (hM.kp q1) (fun F2 I2 L2 q2 hM2 => ?_)
  refine zw_icmp_eq_t rfl rfl ?_
  exact nx _ _ _ _ _ _ (ZJ.same hk hT hI hx q1 q2 hB1 hM2) (ZG.refl _ _ _)
theorem l_open (h : ZJ A n f k F I L R) (hn : n ≤ 2560) (hi : i + 5 ≤ n) (nx : ZNx (d + 40) n i f k Q) : ZW (d + 40) 229 864 [some (.inr (.inr (some 0))), some (.inr (.inr (some 2))), some (.inr (.inr (some 79))), some (.inl (i : Int))] [] (k, F, I, L, R) Q := by
  obtain ⟨hB, hk, hM, hT, hI, hx⟩ := h
  have hT2 : k.1 2 = (1, 11) := hB.2.1.1.1
  have hT79 : k.1 79 = (1, 12) := hk.1.1
  repeat (first | refine zw_t rfl rfl ?_ | refine zw_jump rfl rfl ?_ | refine zw_getI rfl rfl (by assumption) ?_ | refine zw_ialn rfl (by assumption) (by omega) ?_ | refine zw_laln rfl (by assumption) (by omega) ?_ | refine zw_iastn rfl (by omega) (by assumption) (by omega) ?_ | refine zw_lastn rfl (by assumption) (by omega) ?_ | refine zw_iald0 rfl (by assumption) (by omega) ?_ | refine zw_lald0 rfl (by assumption) (by omega) ?_ | refine zw_aaln rfl (by assumption) rfl (by omega) ?_ | refine zw_getR rfl (by assumption) (by assumption) ?_ | refine zw_alen rfl (by assumption) rfl ?_ | refine zw_iald rfl (by assumption) (by omega) (by omega) ?_ | refine zw_iast rfl (by omega) (by assumption) (by omega) (by omega) ?_ | refine zw_putI rfl (by assumption) ?_ | refine zw_lald rfl (by assumption) (by omega) (by omega) ?_ | refine zw_last rfl (by assumption) (by omega) (by omega) ?_ | refine zw_iadd rfl (by omega) (by omega) ?_ | refine zw_isub rfl (by omega) (by omega) ?_ | refine zw_iinc rfl rfl rfl (by omega) (by omega) ?_ | refine zw_imul rfl (by omega) (by omega) ?_)
  refine zw_callv rfl rfl rfl rfl rfl rfl (by assumption) ?_
  refine b_open hB (fun F1 I1 L1 q1 hB1 => ?_)
  have e1 : I1 0 = I 0 := (q1 0 (Or.inl rfl) (by omega)).2.1
  repeat (first | refine zw_t rfl rfl ?_ | refine zw_jump rfl rfl ?_ | refine zw_getI rfl rfl (by assumption) ?_ | refine zw_ialn rfl (by assumption) (by omega) ?_ | refine zw_laln rfl (by assumption) (by omega) ?_ | refine zw_iastn rfl (by omega) (by assumption) (by omega) ?_ | refine zw_lastn rfl (by assumption) (by omega) ?_ | refine zw_iald0 rfl (by assumption) (by omega) ?_ | refine zw_lald0 rfl (by assumption) (by omega) ?_ | refine zw_aaln rfl (by assumption) rfl (by omega) ?_ | refine zw_getR rfl (by assumption) (by assumption) ?_ | refine zw_alen rfl (by assumption) rfl ?_ | refine zw_iald rfl (by assumption) (by omega) (by omega) ?_ | refine zw_iast rfl (by omega) (by assumption) (by omega) (by omega) ?_ | refine zw_putI rfl (by assumption) ?_ | refine zw_lald rfl (by assumption) (by omega) (by omega) ?_ | refine zw_last rfl (by assumption) (by omega) (by omega) ?_ | refine zw_iadd rfl (by omega) (by omega) ?_ | refine zw_isub rfl (by omega) (by omega) ?_ | refine zw_iinc rfl rfl rfl (by omega) (by omega) ?_ | refine zw_imul rfl (by omega) (by omega) ?_)
  rw [e1]
  refine zw_callv rfl rfl rfl rfl rfl rfl (by assumption) ?_
  refine m_open hk (hM.kp q1) (fun F2 I2 L2 q2 hM2 => ?_)
  refine zw_icmp_eq_t rfl rfl ?_
  exact nx _ _ _ _ _ _ (ZJ.same hk hT hI hx q1 q2 hB1 hM2) (ZG.refl _ _ _)
theorem l_shortest (h : ZJ A n f k F I L R) (hn : n ≤ 2560) (hi : i + 5 ≤ n) (nx : ZNx (d + 40) n i f k Q) : ZW (d + 40) 229 917 [some (.inr (.inr (some 0))), some (.inr (.inr (some 2))), some (.inr (.inr (some 79))), some (.inl (i : Int))] [] (k, F, I, L, R) Q := by
  obtain ⟨hB, hk, hM, hT, hI, hx⟩ := h
  have hT2 : k.1 2 = (1, 11) := hB.2.1.1.1
  have hT79 : k.1 79 = (1, 12) := hk.1.1
  repeat (first | refine zw_t rfl rfl ?_ | refine zw_jump rfl rfl ?_ | refine zw_getI rfl rfl (by assumption) ?_ | refine zw_ialn rfl (by assumption) (by omega) ?_ | refine zw_laln rfl (by assumption) (by omega) ?_ | refine zw_iastn rfl (by omega) (by assumption) (by omega) ?_ | refine zw_lastn rfl (by assumption) (by omega) ?_ | refine zw_iald0 rfl (by assumption) (by omega) ?_ | refine zw_lald0 rfl (by assumption) (by omega) ?_ | refine zw_aaln rfl (by assumption) rfl (by omega) ?_ | refine zw_getR rfl (by assumption) (by assumption) ?_ | refine zw_alen rfl (by assumption) rfl ?_ | refine zw_iald rfl (by assumption) (by omega) (by omega) ?_ | refine zw_iast rfl (by omega) (by assumption) (by omega) (by omega) ?_ | refine zw_putI rfl (by assumption) ?_ | refine zw_lald rfl (by assumption) (by omega) (by omega) ?_ | refine zw_last rfl (by assumption) (by omega) (by omega) ?_ | refine zw_iadd rfl (by omega) (by omega) ?_ | refine zw_isub rfl (by omega) (by omega) ?_ | refine zw_iinc rfl rfl rfl (by omega) (by omega) ?_ | refine zw_imul rfl (by omega) (by omega) ?_)
  refine zw_callv rfl rfl rfl rfl rfl rfl (by assumption) ?_
  refine b_shortest hB hx (fun k1 F1 I1 L1 R1 g1 q1 hB1 => ?_)
  have hk1 : ZMk k1 := hk.grow hx g1
  have hT1 : k1.1 0 = (2, n) := ((g1.1 0 (by omega)).1).trans hT
  have hT791 : k1.1 79 = (1, 12) := hk1.1.1
  have e1 : I1 0 = I 0 := (q1 0 (Or.inl rfl) (by omega)).2.1
  repeat (first | refine zw_t rfl rfl ?_ | refine zw_jump rfl rfl ?_ | refine zw_getI rfl rfl (by assumption) ?_ | refine zw_ialn rfl (by assumption) (by omega) ?_ | refine zw_laln rfl (by assumption) (by omega) ?_ | refine zw_iastn rfl (by omega) (by assumption) (by omega) ?_ | refine zw_lastn rfl (by assumption) (by omega) ?_ | refine zw_iald0 rfl (by assumption) (by omega) ?_ | refine zw_lald0 rfl (by assumption) (by omega) ?_ | refine zw_aaln rfl (by assumption) rfl (by omega) ?_ | refine zw_getR rfl (by assumption) (by assumption) ?_ | refine zw_alen rfl (by assumption) rfl ?_ | refine zw_iald rfl (by assumption) (by omega) (by omega) ?_ | refine zw_iast rfl (by omega) (by assumption) (by omega) (by omega) ?_ | refine zw_putI rfl (by assumption) ?_ | refine zw_lald rfl (by assumption) (by omega) (by omega) ?_ | refine zw_last rfl (by assumption) (by omega) (by omega) ?_ | refine zw_iadd rfl (by omega) (by omega) ?_ | refine zw_isub rfl (by omega) (by omega) ?_ | refine zw_iinc rfl rfl rfl (by omega) (by omega) ?_ | refine zw_imul rfl (by omega) (by omega) ?_)
  rw [e1]
  refine zw_callv rfl rfl rfl rfl rfl rfl (by assumption) ?_
  refine m_shortest hk1 (hM.kp q1) (fun F2 I2 L2 q2 hM2 => ?_)
  refine zw_icmp_eq_t rfl rfl ?_
  exact nx _ _ _ _ _ _ (ZJ.same hk1 hT1 hI (Nat.le_trans hx g1.2.1) q1 q2 hB1 hM2) (g1.up (by omega) (by omega))
theorem l_many (h : ZJ A n f k F I L R) (hn : n ≤ 2560) (hi : i + 5 ≤ n) (nx : ZNx (d + 40) n i f k Q) : ZW (d + 40) 229 940 [some (.inr (.inr (some 0))), some (.inr (.inr (some 2))), some (.inr (.inr (some 79))), some (.inl (i : Int))] [] (k, F, I, L, R) Q := by
  obtain ⟨hB, hk, hM, hT, hI, hx⟩ := h
  have hT2 : k.1 2 = (1, 11) := hB.2.1.1.1
  have hT79 : k.1 79 = (1, 12) := hk.1.1
  repeat (first | refine zw_t rfl rfl ?_ | refine zw_jump rfl rfl ?_ | refine zw_getI rfl rfl (by assumption) ?_ | refine zw_ialn rfl (by assumption) (by omega) ?_ | refine zw_laln rfl (by assumption) (by omega) ?_ | refine zw_iastn rfl (by omega) (by assumption) (by omega) ?_ | refine zw_lastn rfl (by assumption) (by omega) ?_ | refine zw_iald0 rfl (by assumption) (by omega) ?_ | refine zw_lald0 rfl (by assumption) (by omega) ?_ | refine zw_aaln rfl (by assumption) rfl (by omega) ?_ | refine zw_getR rfl (by assumption) (by assumption) ?_ | refine zw_alen rfl (by assumption) rfl ?_ | refine zw_iald rfl (by assumption) (by omega) (by omega) ?_ | refine zw_iast rfl (by omega) (by assumption) (by omega) (by omega) ?_ | refine zw_putI rfl (by assumption) ?_ | refine zw_lald rfl (by assumption) (by omega) (by omega) ?_ | refine zw_last rfl (by assumption) (by omega) (by omega) ?_ | refine zw_iadd rfl (by omega) (by omega) ?_ | refine zw_isub rfl (by omega) (by omega) ?_ | refine zw_iinc rfl rfl rfl (by omega) (by omega) ?_ | refine zw_imul rfl (by omega) (by omega) ?_)
  refine zw_callv rfl rfl rfl rfl rfl rfl (by assumption) ?_
  refine b_many hB hx (fun k1 F1 I1 L1 R1 g1 q1 hB1 => ?_)
  have hk1 : ZMk k1 := hk.grow hx g1
  have hT1 : k1.1 0 = (2, n) := ((g1.1 0 (by omega)).1).trans hT
  have hT791 : k1.1 79 = (1, 12) := hk1.1.1
  have e1 : I1 0 = I 0 := (q1 0 (Or.inl rfl) (by omega)).2.1
  repeat (first | refine zw_t rfl rfl ?_ | refine zw_jump rfl rfl ?_ | refine zw_getI rfl rfl (by assumption) ?_ | refine zw_ialn rfl (by assumption) (by omega) ?_ | refine zw_laln rfl (by assumption) (by omega) ?_ | refine zw_iastn rfl (by omega) (by assumption) (by omega) ?_ | refine zw_lastn rfl (by assumption) (by omega) ?_ | refine zw_iald0 rfl (by assumption) (by omega) ?_ | refine zw_lald0 rfl (by assumption) (by omega) ?_ | refine zw_aaln rfl (by assumption) rfl (by omega) ?_ | refine zw_getR rfl (by assumption) (by assumption) ?_ | refine zw_alen rfl (by assumption) rfl ?_ | refine zw_iald rfl (by assumption) (by omega) (by omega) ?_ | refine zw_iast rfl (by omega) (by assumption) (by omega) (by omega) ?_ | refine zw_putI rfl (by assumption) ?_ | refine zw_lald rfl (by assumption) (by omega) (by omega) ?_ | refine zw_last rfl (by assumption) (by omega) (by omega) ?_ | refine zw_iadd rfl (by omega) (by omega) ?_ | refine zw_isub rfl (by omega) (by omega) ?_ | refine zw_iinc rfl rfl rfl (by omega) (by omega) ?_ | refine zw_imul rfl (by omega) (by omega) ?_)
  rw [e1]
  refine zw_callv rfl rfl rfl rfl rfl rfl (by assumption) ?_
  refine m_many hk1 (hM.kp q1) (fun F2 I2 L2 q2 hM2 => ?_)
  refine zw_icmp_eq_t rfl rfl ?_
  exact nx _ _ _ _ _ _ (ZJ.same hk1 hT1 hI (Nat.le_trans hx g1.2.1) q1 q2 hB1 hM2) (g1.up (by omega) (by omega))
theorem l_best (h : ZJ A n f k F I L R) (hn : n ≤ 2560) (hi : i + 5 ≤ n) (nx : ZNx (d + 40) n i f k Q) : ZW (d + 40) 229 963 [some (.inr (.inr (some 0))), some (.inr (.inr (some 2))), some (.inr (.inr (some 79))), some (.inl (i : Int))] [] (k, F, I, L, R) Q := by
  obtain ⟨hB, hk, hM, hT, hI, hx⟩ := h
  have hT2 : k.1 2 = (1, 11) := hB.2.1.1.1
  have hT79 : k.1 79 = (1, 12) := hk.1.1
  repeat (first | refine zw_t rfl rfl ?_ | refine zw_jump rfl rfl ?_ | refine zw_getI rfl rfl (by assumption) ?_ | refine zw_ialn rfl (by assumption) (by omega) ?_ | refine zw_laln rfl (by assumption) (by omega) ?_ | refine zw_iastn rfl (by omega) (by assumption) (by omega) ?_ | refine zw_lastn rfl (by assumption) (by omega) ?_ | refine zw_iald0 rfl (by assumption) (by omega) ?_ | refine zw_lald0 rfl (by assumption) (by omega) ?_ | refine zw_aaln rfl (by assumption) rfl (by omega) ?_ | refine zw_getR rfl (by assumption) (by assumption) ?_ | refine zw_alen rfl (by assumption) rfl ?_ | refine zw_iald rfl (by assumption) (by omega) (by omega) ?_ | refine zw_iast rfl (by omega) (by assumption) (by omega) (by omega) ?_ | refine zw_putI rfl (by assumption) ?_ | refine zw_lald rfl (by assumption) (by omega) (by omega) ?_ | refine zw_last rfl (by assumption) (by omega) (by omega) ?_ | refine zw_iadd rfl (by omega) (by omega) ?_ | refine zw_isub rfl (by omega) (by omega) ?_ | refine zw_iinc rfl rfl rfl (by omega) (by omega) ?_ | refine zw_imul rfl (by omega) (by omega) ?_)
  refine zw_callv rfl rfl rfl rfl rfl rfl (by assumption) ?_
  refine b_best hB hx (fun k1 F1 I1 L1 R1 g1 q1 hB1 => ?_)
  have hk1 : ZMk k1 := hk.grow hx g1
  have hT1 : k1.1 0 = (2, n) := ((g1.1 0 (by omega)).1).trans hT
  have hT791 : k1.1 79 = (1, 12) := hk1.1.1
  have e1 : I1 0 = I 0 := (q1 0 (Or.inl rfl) (by omega)).2.1
  repeat (first | refine zw_t rfl rfl ?_ | refine zw_jump rfl rfl ?_ | refine zw_getI rfl rfl (by assumption) ?_ | refine zw_ialn rfl (by assumption) (by omega) ?_ | refine zw_laln rfl (by assumption) (by omega) ?_ | refine zw_iastn rfl (by omega) (by assumption) (by omega) ?_ | refine zw_lastn rfl (by assumption) (by omega) ?_ | refine zw_iald0 rfl (by assumption) (by omega) ?_ | refine zw_lald0 rfl (by assumption) (by omega) ?_ | refine zw_aaln rfl (by assumption) rfl (by omega) ?_ | refine zw_getR rfl (by assumption) (by assumption) ?_ | refine zw_alen rfl (by assumption) rfl ?_ | refine zw_iald rfl (by assumption) (by omega) (by omega) ?_ | refine zw_iast rfl (by omega) (by assumption) (by omega) (by omega) ?_ | refine zw_putI rfl (by assumption) ?_ | refine zw_lald rfl (by assumption) (by omega) (by omega) ?_ | refine zw_last rfl (by assumption) (by omega) (by omega) ?_ | refine zw_iadd rfl (by omega) (by omega) ?_ | refine zw_isub rfl (by omega) (by omega) ?_ | refine zw_iinc rfl rfl rfl (by omega) (by omega) ?_ | refine zw_imul rfl (by omega) (by omega) ?_)
  rw [e1]
  refine zw_callv rfl rfl rfl rfl rfl rfl (by assumption) ?_
  refine m_best hk1 (hM.kp q1) (fun F2 I2 L2 q2 hM2 => ?_)
  refine zw_icmp_eq_t rfl rfl ?_
  exact nx _ _ _ _ _ _ (ZJ.same hk1 hT1 hI (Nat.le_trans hx g1.2.1) q1 q2 hB1 hM2) (g1.up (by omega) (by omega))
theorem l_fewest (h : ZJ A n f k F I L R) (hn : n ≤ 2560) (hi : i + 5 ≤ n) (nx : ZNx (d + 40) n i f k Q) : ZW (d + 40) 229 1006 [some (.inr (.inr (some 0))), some (.inr (.inr (some 2))), some (.inr (.inr (some 79))), some (.inl (i : Int))] [] (k, F, I, L, R) Q := by
  obtain ⟨hB, hk, hM, hT, hI, hx⟩ := h
  have hT2 : k.1 2 = (1, 11) := hB.2.1.1.1
  have hT79 : k.1 79 = (1, 12) := hk.1.1
  repeat (first | refine zw_t rfl rfl ?_ | refine zw_jump rfl rfl ?_ | refine zw_getI rfl rfl (by assumption) ?_ | refine zw_ialn rfl (by assumption) (by omega) ?_ | refine zw_laln rfl (by assumption) (by omega) ?_ | refine zw_iastn rfl (by omega) (by assumption) (by omega) ?_ | refine zw_lastn rfl (by assumption) (by omega) ?_ | refine zw_iald0 rfl (by assumption) (by omega) ?_ | refine zw_lald0 rfl (by assumption) (by omega) ?_ | refine zw_aaln rfl (by assumption) rfl (by omega) ?_ | refine zw_getR rfl (by assumption) (by assumption) ?_ | refine zw_alen rfl (by assumption) rfl ?_ | refine zw_iald rfl (by assumption) (by omega) (by omega) ?_ | refine zw_iast rfl (by omega) (by assumption) (by omega) (by omega) ?_ | refine zw_putI rfl (by assumption) ?_ | refine zw_lald rfl (by assumption) (by omega) (by omega) ?_ | refine zw_last rfl (by assumption) (by omega) (by omega) ?_ | refine zw_iadd rfl (by omega) (by omega) ?_ | refine zw_isub rfl (by omega) (by omega) ?_ | refine zw_iinc rfl rfl rfl (by omega) (by omega) ?_ | refine zw_imul rfl (by omega) (by omega) ?_)
  refine zw_callv rfl rfl rfl rfl rfl rfl (by assumption) ?_
  refine b_fewest hB hx (fun k1 F1 I1 L1 R1 g1 q1 hB1 => ?_)
  have hk1 : ZMk k1 := hk.grow hx g1
  have hT1 : k1.1 0 = (2, n) := ((g1.1 0 (by omega)).1).trans hT
  have hT791 : k1.1 79 = (1, 12) := hk1.1.1
  have e1 : I1 0 = I 0 := (q1 0 (Or.inl rfl) (by omega)).2.1
  repeat (first | refine zw_t rfl rfl ?_ | refine zw_jump rfl rfl ?_ | refine zw_getI rfl rfl (by assumption) ?_ | refine zw_ialn rfl (by assumption) (by omega) ?_ | refine zw_laln rfl (by assumption) (by omega) ?_ | refine zw_iastn rfl (by omega) (by assumption) (by omega) ?_ | refine zw_lastn rfl (by assumption) (by omega) ?_ | refine zw_iald0 rfl (by assumption) (by omega) ?_ | refine zw_lald0 rfl (by assumption) (by omega) ?_ | refine zw_aaln rfl (by assumption) rfl (by omega) ?_ | refine zw_getR rfl (by assumption) (by assumption) ?_ | refine zw_alen rfl (by assumption) rfl ?_ | refine zw_iald rfl (by assumption) (by omega) (by omega) ?_ | refine zw_iast rfl (by omega) (by assumption) (by omega) (by omega) ?_ | refine zw_putI rfl (by assumption) ?_ | refine zw_lald rfl (by assumption) (by omega) (by omega) ?_ | refine zw_last rfl (by assumption) (by omega) (by omega) ?_ | refine zw_iadd rfl (by omega) (by omega) ?_ | refine zw_isub rfl (by omega) (by omega) ?_ | refine zw_iinc rfl rfl rfl (by omega) (by omega) ?_ | refine zw_imul rfl (by omega) (by omega) ?_)
  rw [e1]
  refine zw_callv rfl rfl rfl rfl rfl rfl (by assumption) ?_
  refine m_fewest hk1 (hM.kp q1) (fun F2 I2 L2 q2 hM2 => ?_)
  refine zw_icmp_eq_t rfl rfl ?_
  exact nx _ _ _ _ _ _ (ZJ.same hk1 hT1 hI (Nat.le_trans hx g1.2.1) q1 q2 hB1 hM2) (g1.up (by omega) (by omega))
theorem l_lean (h : ZJ A n f k F I L R) (hn : n ≤ 2560) (hi : i + 5 ≤ n) (nx : ZNx (d + 40) n i f k Q) : ZW (d + 40) 229 1029 [some (.inr (.inr (some 0))), some (.inr (.inr (some 2))), some (.inr (.inr (some 79))), some (.inl (i : Int))] [] (k, F, I, L, R) Q := by
  obtain ⟨hB, hk, hM, hT, hI, hx⟩ := h
  have hT2 : k.1 2 = (1, 11) := hB.2.1.1.1
  have hT79 : k.1 79 = (1, 12) := hk.1.1
  repeat (first | refine zw_t rfl rfl ?_ | refine zw_jump rfl rfl ?_ | refine zw_getI rfl rfl (by assumption) ?_ | refine zw_ialn rfl (by assumption) (by omega) ?_ | refine zw_laln rfl (by assumption) (by omega) ?_ | refine zw_iastn rfl (by omega) (by assumption) (by omega) ?_ | refine zw_lastn rfl (by assumption) (by omega) ?_ | refine zw_iald0 rfl (by assumption) (by omega) ?_ | refine zw_lald0 rfl (by assumption) (by omega) ?_ | refine zw_aaln rfl (by assumption) rfl (by omega) ?_ | refine zw_getR rfl (by assumption) (by assumption) ?_ | refine zw_alen rfl (by assumption) rfl ?_ | refine zw_iald rfl (by assumption) (by omega) (by omega) ?_ | refine zw_iast rfl (by omega) (by assumption) (by omega) (by omega) ?_ | refine zw_putI rfl (by assumption) ?_ | refine zw_lald rfl (by assumption) (by omega) (by omega) ?_ | refine zw_last rfl (by assumption) (by omega) (by omega) ?_ | refine zw_iadd rfl (by omega) (by omega) ?_ | refine zw_isub rfl (by omega) (by omega) ?_ | refine zw_iinc rfl rfl rfl (by omega) (by omega) ?_ | refine zw_imul rfl (by omega) (by omega) ?_)
  refine zw_callv rfl rfl rfl rfl rfl rfl (by assumption) ?_
  refine b_lean hB hx (fun k1 F1 I1 L1 R1 g1 q1 hB1 => ?_)
  have hk1 : ZMk k1 := hk.grow hx g1
  have hT1 : k1.1 0 = (2, n) := ((g1.1 0 (by omega)).1).trans hT
  have hT791 : k1.1 79 = (1, 12) := hk1.1.1
  have e1 : I1 0 = I 0 := (q1 0 (Or.inl rfl) (by omega)).2.1
  repeat (first | refine zw_t rfl rfl ?_ | refine zw_jump rfl rfl ?_ | refine zw_getI rfl rfl (by assumption) ?_ | refine zw_ialn rfl (by assumption) (by omega) ?_ | refine zw_laln rfl (by assumption) (by omega) ?_ | refine zw_iastn rfl (by omega) (by assumption) (by omega) ?_ | refine zw_lastn rfl (by assumption) (by omega) ?_ | refine zw_iald0 rfl (by assumption) (by omega) ?_ | refine zw_lald0 rfl (by assumption) (by omega) ?_ | refine zw_aaln rfl (by assumption) rfl (by omega) ?_ | refine zw_getR rfl (by assumption) (by assumption) ?_ | refine zw_alen rfl (by assumption) rfl ?_ | refine zw_iald rfl (by assumption) (by omega) (by omega) ?_ | refine zw_iast rfl (by omega) (by assumption) (by omega) (by omega) ?_ | refine zw_putI rfl (by assumption) ?_ | refine zw_lald rfl (by assumption) (by omega) (by omega) ?_ | refine zw_last rfl (by assumption) (by omega) (by omega) ?_ | refine zw_iadd rfl (by omega) (by omega) ?_ | refine zw_isub rfl (by omega) (by omega) ?_ | refine zw_iinc rfl rfl rfl (by omega) (by omega) ?_ | refine zw_imul rfl (by omega) (by omega) ?_)
  rw [e1]
  refine zw_callv rfl rfl rfl rfl rfl rfl (by assumption) ?_
  refine m_lean hk1 (hM.kp q1) (fun F2 I2 L2 q2 hM2 => ?_)
  refine zw_icmp_eq_t rfl rfl ?_
  exact nx _ _ _ _ _ _ (ZJ.same hk1 hT1 hI (Nat.le_trans hx g1.2.1) q1 q2 hB1 hM2) (g1.up (by omega) (by omega))
theorem l_rings (h : ZJ A n f k F I L R) (hn : n ≤ 2560) (hi : i + 5 ≤ n) (nx : ZNx (d + 40) n i f k Q) : ZW (d + 40) 229 1072 [some (.inr (.inr (some 0))), some (.inr (.inr (some 2))), some (.inr (.inr (some 79))), some (.inl (i : Int))] [] (k, F, I, L, R) Q := by
  obtain ⟨hB, hk, hM, hT, hI, hx⟩ := h
  have hT2 : k.1 2 = (1, 11) := hB.2.1.1.1
  have hT79 : k.1 79 = (1, 12) := hk.1.1
  repeat (first | refine zw_t rfl rfl ?_ | refine zw_jump rfl rfl ?_ | refine zw_getI rfl rfl (by assumption) ?_ | refine zw_ialn rfl (by assumption) (by omega) ?_ | refine zw_laln rfl (by assumption) (by omega) ?_ | refine zw_iastn rfl (by omega) (by assumption) (by omega) ?_ | refine zw_lastn rfl (by assumption) (by omega) ?_ | refine zw_iald0 rfl (by assumption) (by omega) ?_ | refine zw_lald0 rfl (by assumption) (by omega) ?_ | refine zw_aaln rfl (by assumption) rfl (by omega) ?_ | refine zw_getR rfl (by assumption) (by assumption) ?_ | refine zw_alen rfl (by assumption) rfl ?_ | refine zw_iald rfl (by assumption) (by omega) (by omega) ?_ | refine zw_iast rfl (by omega) (by assumption) (by omega) (by omega) ?_ | refine zw_putI rfl (by assumption) ?_ | refine zw_lald rfl (by assumption) (by omega) (by omega) ?_ | refine zw_last rfl (by assumption) (by omega) (by omega) ?_ | refine zw_iadd rfl (by omega) (by omega) ?_ | refine zw_isub rfl (by omega) (by omega) ?_ | refine zw_iinc rfl rfl rfl (by omega) (by omega) ?_ | refine zw_imul rfl (by omega) (by omega) ?_)
  refine zw_callv rfl rfl rfl rfl rfl rfl (by assumption) ?_
  refine b_rings hB hx (fun k1 F1 I1 L1 R1 g1 q1 hB1 => ?_)
  have hk1 : ZMk k1 := hk.grow hx g1
  have hT1 : k1.1 0 = (2, n) := ((g1.1 0 (by omega)).1).trans hT
  have hT791 : k1.1 79 = (1, 12) := hk1.1.1
  have e1 : I1 0 = I 0 := (q1 0 (Or.inl rfl) (by omega)).2.1
  repeat (first | refine zw_t rfl rfl ?_ | refine zw_jump rfl rfl ?_ | refine zw_getI rfl rfl (by assumption) ?_ | refine zw_ialn rfl (by assumption) (by omega) ?_ | refine zw_laln rfl (by assumption) (by omega) ?_ | refine zw_iastn rfl (by omega) (by assumption) (by omega) ?_ | refine zw_lastn rfl (by assumption) (by omega) ?_ | refine zw_iald0 rfl (by assumption) (by omega) ?_ | refine zw_lald0 rfl (by assumption) (by omega) ?_ | refine zw_aaln rfl (by assumption) rfl (by omega) ?_ | refine zw_getR rfl (by assumption) (by assumption) ?_ | refine zw_alen rfl (by assumption) rfl ?_ | refine zw_iald rfl (by assumption) (by omega) (by omega) ?_ | refine zw_iast rfl (by omega) (by assumption) (by omega) (by omega) ?_ | refine zw_putI rfl (by assumption) ?_ | refine zw_lald rfl (by assumption) (by omega) (by omega) ?_ | refine zw_last rfl (by assumption) (by omega) (by omega) ?_ | refine zw_iadd rfl (by omega) (by omega) ?_ | refine zw_isub rfl (by omega) (by omega) ?_ | refine zw_iinc rfl rfl rfl (by omega) (by omega) ?_ | refine zw_imul rfl (by omega) (by omega) ?_)
  rw [e1]
  refine zw_callv rfl rfl rfl rfl rfl rfl (by assumption) ?_
  refine m_rings hk1 (hM.kp q1) (fun F2 I2 L2 q2 hM2 => ?_)
  refine zw_icmp_eq_t rfl rfl ?_
  exact nx _ _ _ _ _ _ (ZJ.same hk1 hT1 hI (Nat.le_trans hx g1.2.1) q1 q2 hB1 hM2) (g1.up (by omega) (by omega))
theorem l_cases (h : ZJ A n f k F I L R) (hn : n ≤ 2560) (hi : i + 5 ≤ n) (nx : ZNx (d + 40) n i f k Q) : ZW (d + 40) 229 1125 [some (.inr (.inr (some 0))), some (.inr (.inr (some 2))), some (.inr (.inr (some 79))), some (.inl (i : Int))] [] (k, F, I, L, R) Q := by
  obtain ⟨hB, hk, hM, hT, hI, hx⟩ := h
  have hT2 : k.1 2 = (1, 11) := hB.2.1.1.1
  have hT79 : k.1 79 = (1, 12) := hk.1.1
  repeat (first | refine zw_t rfl rfl ?_ | refine zw_jump rfl rfl ?_ | refine zw_getI rfl rfl (by assumption) ?_ | refine zw_ialn rfl (by assumption) (by omega) ?_ | refine zw_laln rfl (by assumption) (by omega) ?_ | refine zw_iastn rfl (by omega) (by assumption) (by omega) ?_ | refine zw_lastn rfl (by assumption) (by omega) ?_ | refine zw_iald0 rfl (by assumption) (by omega) ?_ | refine zw_lald0 rfl (by assumption) (by omega) ?_ | refine zw_aaln rfl (by assumption) rfl (by omega) ?_ | refine zw_getR rfl (by assumption) (by assumption) ?_ | refine zw_alen rfl (by assumption) rfl ?_ | refine zw_iald rfl (by assumption) (by omega) (by omega) ?_ | refine zw_iast rfl (by omega) (by assumption) (by omega) (by omega) ?_ | refine zw_putI rfl (by assumption) ?_ | refine zw_lald rfl (by assumption) (by omega) (by omega) ?_ | refine zw_last rfl (by assumption) (by omega) (by omega) ?_ | refine zw_iadd rfl (by omega) (by omega) ?_ | refine zw_isub rfl (by omega) (by omega) ?_ | refine zw_iinc rfl rfl rfl (by omega) (by omega) ?_ | refine zw_imul rfl (by omega) (by omega) ?_)
  refine zw_callv rfl rfl rfl rfl rfl rfl (by assumption) ?_
  refine b_cases hB (fun F1 I1 q1 hB1 => ?_)
  have e1 : I1 0 = I 0 := (q1 0 (Or.inl rfl) (by omega)).2.1
  repeat (first | refine zw_t rfl rfl ?_ | refine zw_jump rfl rfl ?_ | refine zw_getI rfl rfl (by assumption) ?_ | refine zw_ialn rfl (by assumption) (by omega) ?_ | refine zw_laln rfl (by assumption) (by omega) ?_ | refine zw_iastn rfl (by omega) (by assumption) (by omega) ?_ | refine zw_lastn rfl (by assumption) (by omega) ?_ | refine zw_iald0 rfl (by assumption) (by omega) ?_ | refine zw_lald0 rfl (by assumption) (by omega) ?_ | refine zw_aaln rfl (by assumption) rfl (by omega) ?_ | refine zw_getR rfl (by assumption) (by assumption) ?_ | refine zw_alen rfl (by assumption) rfl ?_ | refine zw_iald rfl (by assumption) (by omega) (by omega) ?_ | refine zw_iast rfl (by omega) (by assumption) (by omega) (by omega) ?_ | refine zw_putI rfl (by assumption) ?_ | refine zw_lald rfl (by assumption) (by omega) (by omega) ?_ | refine zw_last rfl (by assumption) (by omega) (by omega) ?_ | refine zw_iadd rfl (by omega) (by omega) ?_ | refine zw_isub rfl (by omega) (by omega) ?_ | refine zw_iinc rfl rfl rfl (by omega) (by omega) ?_ | refine zw_imul rfl (by omega) (by omega) ?_)
  rw [e1]
  refine zw_callv rfl rfl rfl rfl rfl rfl (by assumption) ?_
  refine m_cases hk (hM.kp q1) (fun F2 I2 L2 q2 hM2 => ?_)
  refine zw_icmp_eq_t rfl rfl ?_
  exact nx _ _ _ _ _ _ (ZJ.same hk hT hI hx q1 q2 hB1 hM2) (ZG.refl _ _ _)
theorem l_apart (h : ZJ A n f k F I L R) (hn : n ≤ 2560) (hi : i + 5 ≤ n) (nx : ZNx (d + 40) n i f k Q) : ZW (d + 40) 229 1168 [some (.inr (.inr (some 0))), some (.inr (.inr (some 2))), some (.inr (.inr (some 79))), some (.inl (i : Int))] [] (k, F, I, L, R) Q := by
  obtain ⟨hB, hk, hM, hT, hI, hx⟩ := h
  have hT2 : k.1 2 = (1, 11) := hB.2.1.1.1
  have hT79 : k.1 79 = (1, 12) := hk.1.1
  repeat (first | refine zw_t rfl rfl ?_ | refine zw_jump rfl rfl ?_ | refine zw_getI rfl rfl (by assumption) ?_ | refine zw_ialn rfl (by assumption) (by omega) ?_ | refine zw_laln rfl (by assumption) (by omega) ?_ | refine zw_iastn rfl (by omega) (by assumption) (by omega) ?_ | refine zw_lastn rfl (by assumption) (by omega) ?_ | refine zw_iald0 rfl (by assumption) (by omega) ?_ | refine zw_lald0 rfl (by assumption) (by omega) ?_ | refine zw_aaln rfl (by assumption) rfl (by omega) ?_ | refine zw_getR rfl (by assumption) (by assumption) ?_ | refine zw_alen rfl (by assumption) rfl ?_ | refine zw_iald rfl (by assumption) (by omega) (by omega) ?_ | refine zw_iast rfl (by omega) (by assumption) (by omega) (by omega) ?_ | refine zw_putI rfl (by assumption) ?_ | refine zw_lald rfl (by assumption) (by omega) (by omega) ?_ | refine zw_last rfl (by assumption) (by omega) (by omega) ?_ | refine zw_iadd rfl (by omega) (by omega) ?_ | refine zw_isub rfl (by omega) (by omega) ?_ | refine zw_iinc rfl rfl rfl (by omega) (by omega) ?_ | refine zw_imul rfl (by omega) (by omega) ?_)
  refine zw_callv rfl rfl rfl rfl rfl rfl (by assumption) ?_
  refine b_apart hB (fun F1 I1 L1 q1 hB1 => ?_)
  have e1 : I1 0 = I 0 := (q1 0 (Or.inl rfl) (by omega)).2.1
  repeat (first | refine zw_t rfl rfl ?_ | refine zw_jump rfl rfl ?_ | refine zw_getI rfl rfl (by assumption) ?_ | refine zw_ialn rfl (by assumption) (by omega) ?_ | refine zw_laln rfl (by assumption) (by omega) ?_ | refine zw_iastn rfl (by omega) (by assumption) (by omega) ?_ | refine zw_lastn rfl (by assumption) (by omega) ?_ | refine zw_iald0 rfl (by assumption) (by omega) ?_ | refine zw_lald0 rfl (by assumption) (by omega) ?_ | refine zw_aaln rfl (by assumption) rfl (by omega) ?_ | refine zw_getR rfl (by assumption) (by assumption) ?_ | refine zw_alen rfl (by assumption) rfl ?_ | refine zw_iald rfl (by assumption) (by omega) (by omega) ?_ | refine zw_iast rfl (by omega) (by assumption) (by omega) (by omega) ?_ | refine zw_putI rfl (by assumption) ?_ | refine zw_lald rfl (by assumption) (by omega) (by omega) ?_ | refine zw_last rfl (by assumption) (by omega) (by omega) ?_ | refine zw_iadd rfl (by omega) (by omega) ?_ | refine zw_isub rfl (by omega) (by omega) ?_ | refine zw_iinc rfl rfl rfl (by omega) (by omega) ?_ | refine zw_imul rfl (by omega) (by omega) ?_)
  rw [e1]
  refine zw_callv rfl rfl rfl rfl rfl rfl (by assumption) ?_
  refine m_apart hk (hM.kp q1) (fun F2 I2 L2 q2 hM2 => ?_)
  refine zw_icmp_eq_t rfl rfl ?_
  exact nx _ _ _ _ _ _ (ZJ.same hk hT hI hx q1 q2 hB1 hM2) (ZG.refl _ _ _)
theorem l_gang (h : ZJ A n f k F I L R) (hn : n ≤ 2560) (hi : i + 5 ≤ n) (nx : ZNx (d + 40) n i f k Q) : ZW (d + 40) 229 1191 [some (.inr (.inr (some 0))), some (.inr (.inr (some 2))), some (.inr (.inr (some 79))), some (.inl (i : Int))] [] (k, F, I, L, R) Q := by
  obtain ⟨hB, hk, hM, hT, hI, hx⟩ := h
  have hT2 : k.1 2 = (1, 11) := hB.2.1.1.1
  have hT79 : k.1 79 = (1, 12) := hk.1.1
  repeat (first | refine zw_t rfl rfl ?_ | refine zw_jump rfl rfl ?_ | refine zw_getI rfl rfl (by assumption) ?_ | refine zw_ialn rfl (by assumption) (by omega) ?_ | refine zw_laln rfl (by assumption) (by omega) ?_ | refine zw_iastn rfl (by omega) (by assumption) (by omega) ?_ | refine zw_lastn rfl (by assumption) (by omega) ?_ | refine zw_iald0 rfl (by assumption) (by omega) ?_ | refine zw_lald0 rfl (by assumption) (by omega) ?_ | refine zw_aaln rfl (by assumption) rfl (by omega) ?_ | refine zw_getR rfl (by assumption) (by assumption) ?_ | refine zw_alen rfl (by assumption) rfl ?_ | refine zw_iald rfl (by assumption) (by omega) (by omega) ?_ | refine zw_iast rfl (by omega) (by assumption) (by omega) (by omega) ?_ | refine zw_putI rfl (by assumption) ?_ | refine zw_lald rfl (by assumption) (by omega) (by omega) ?_ | refine zw_last rfl (by assumption) (by omega) (by omega) ?_ | refine zw_iadd rfl (by omega) (by omega) ?_ | refine zw_isub rfl (by omega) (by omega) ?_ | refine zw_iinc rfl rfl rfl (by omega) (by omega) ?_ | refine zw_imul rfl (by omega) (by omega) ?_)
  refine zw_callv rfl rfl rfl rfl rfl rfl (by assumption) ?_
  refine b_gang hB hx (fun k1 F1 I1 L1 R1 g1 q1 hB1 => ?_)
  have hk1 : ZMk k1 := hk.grow hx g1
  have hT1 : k1.1 0 = (2, n) := ((g1.1 0 (by omega)).1).trans hT
  have hT791 : k1.1 79 = (1, 12) := hk1.1.1
  have e1 : I1 0 = I 0 := (q1 0 (Or.inl rfl) (by omega)).2.1
  repeat (first | refine zw_t rfl rfl ?_ | refine zw_jump rfl rfl ?_ | refine zw_getI rfl rfl (by assumption) ?_ | refine zw_ialn rfl (by assumption) (by omega) ?_ | refine zw_laln rfl (by assumption) (by omega) ?_ | refine zw_iastn rfl (by omega) (by assumption) (by omega) ?_ | refine zw_lastn rfl (by assumption) (by omega) ?_ | refine zw_iald0 rfl (by assumption) (by omega) ?_ | refine zw_lald0 rfl (by assumption) (by omega) ?_ | refine zw_aaln rfl (by assumption) rfl (by omega) ?_ | refine zw_getR rfl (by assumption) (by assumption) ?_ | refine zw_alen rfl (by assumption) rfl ?_ | refine zw_iald rfl (by assumption) (by omega) (by omega) ?_ | refine zw_iast rfl (by omega) (by assumption) (by omega) (by omega) ?_ | refine zw_putI rfl (by assumption) ?_ | refine zw_lald rfl (by assumption) (by omega) (by omega) ?_ | refine zw_last rfl (by assumption) (by omega) (by omega) ?_ | refine zw_iadd rfl (by omega) (by omega) ?_ | refine zw_isub rfl (by omega) (by omega) ?_ | refine zw_iinc rfl rfl rfl (by omega) (by omega) ?_ | refine zw_imul rfl (by omega) (by omega) ?_)
  rw [e1]
  refine zw_callv rfl rfl rfl rfl rfl rfl (by assumption) ?_
  refine m_gang hk1 (hM.kp q1) (fun F2 I2 L2 q2 hM2 => ?_)
  refine zw_icmp_eq_t rfl rfl ?_
  exact nx _ _ _ _ _ _ (ZJ.same hk1 hT1 hI (Nat.le_trans hx g1.2.1) q1 q2 hB1 hM2) (g1.up (by omega) (by omega))
theorem l_lines (h : ZJ A n f k F I L R) (hn : n ≤ 2560) (hi : i + 5 ≤ n) (nx : ZNx (d + 40) n i f k Q) : ZW (d + 40) 229 1244 [some (.inr (.inr (some 0))), some (.inr (.inr (some 2))), some (.inr (.inr (some 79))), some (.inl (i : Int))] [] (k, F, I, L, R) Q := by
  obtain ⟨hB, hk, hM, hT, hI, hx⟩ := h
  have hT2 : k.1 2 = (1, 11) := hB.2.1.1.1
  have hT79 : k.1 79 = (1, 12) := hk.1.1
  repeat (first | refine zw_t rfl rfl ?_ | refine zw_jump rfl rfl ?_ | refine zw_getI rfl rfl (by assumption) ?_ | refine zw_ialn rfl (by assumption) (by omega) ?_ | refine zw_laln rfl (by assumption) (by omega) ?_ | refine zw_iastn rfl (by omega) (by assumption) (by omega) ?_ | refine zw_lastn rfl (by assumption) (by omega) ?_ | refine zw_iald0 rfl (by assumption) (by omega) ?_ | refine zw_lald0 rfl (by assumption) (by omega) ?_ | refine zw_aaln rfl (by assumption) rfl (by omega) ?_ | refine zw_getR rfl (by assumption) (by assumption) ?_ | refine zw_alen rfl (by assumption) rfl ?_ | refine zw_iald rfl (by assumption) (by omega) (by omega) ?_ | refine zw_iast rfl (by omega) (by assumption) (by omega) (by omega) ?_ | refine zw_putI rfl (by assumption) ?_ | refine zw_lald rfl (by assumption) (by omega) (by omega) ?_ | refine zw_last rfl (by assumption) (by omega) (by omega) ?_ | refine zw_iadd rfl (by omega) (by omega) ?_ | refine zw_isub rfl (by omega) (by omega) ?_ | refine zw_iinc rfl rfl rfl (by omega) (by omega) ?_ | refine zw_imul rfl (by omega) (by omega) ?_)
  refine zw_callv rfl rfl rfl rfl rfl rfl (by assumption) ?_
  refine b_lines hB (fun F1 I1 q1 hB1 => ?_)
  have e1 : I1 0 = I 0 := (q1 0 (Or.inl rfl) (by omega)).2.1
  repeat (first | refine zw_t rfl rfl ?_ | refine zw_jump rfl rfl ?_ | refine zw_getI rfl rfl (by assumption) ?_ | refine zw_ialn rfl (by assumption) (by omega) ?_ | refine zw_laln rfl (by assumption) (by omega) ?_ | refine zw_iastn rfl (by omega) (by assumption) (by omega) ?_ | refine zw_lastn rfl (by assumption) (by omega) ?_ | refine zw_iald0 rfl (by assumption) (by omega) ?_ | refine zw_lald0 rfl (by assumption) (by omega) ?_ | refine zw_aaln rfl (by assumption) rfl (by omega) ?_ | refine zw_getR rfl (by assumption) (by assumption) ?_ | refine zw_alen rfl (by assumption) rfl ?_ | refine zw_iald rfl (by assumption) (by omega) (by omega) ?_ | refine zw_iast rfl (by omega) (by assumption) (by omega) (by omega) ?_ | refine zw_putI rfl (by assumption) ?_ | refine zw_lald rfl (by assumption) (by omega) (by omega) ?_ | refine zw_last rfl (by assumption) (by omega) (by omega) ?_ | refine zw_iadd rfl (by omega) (by omega) ?_ | refine zw_isub rfl (by omega) (by omega) ?_ | refine zw_iinc rfl rfl rfl (by omega) (by omega) ?_ | refine zw_imul rfl (by omega) (by omega) ?_)
  rw [e1]
  refine zw_callv rfl rfl rfl rfl rfl rfl (by assumption) ?_
  refine m_lines hk (hM.kp q1) (fun F2 I2 L2 q2 hM2 => ?_)
  refine zw_icmp_eq_t rfl rfl ?_
  exact nx _ _ _ _ _ _ (ZJ.same hk hT hI hx q1 q2 hB1 hM2) (ZG.refl _ _ _)
theorem l_powers (h : ZJ A n f k F I L R) (hn : n ≤ 2560) (hi : i + 5 ≤ n) (nx : ZNx (d + 40) n i f k Q) : ZW (d + 40) 229 1277 [some (.inr (.inr (some 0))), some (.inr (.inr (some 2))), some (.inr (.inr (some 79))), some (.inl (i : Int))] [] (k, F, I, L, R) Q := by
  obtain ⟨hB, hk, hM, hT, hI, hx⟩ := h
  have hT2 : k.1 2 = (1, 11) := hB.2.1.1.1
  have hT79 : k.1 79 = (1, 12) := hk.1.1
  repeat (first | refine zw_t rfl rfl ?_ | refine zw_jump rfl rfl ?_ | refine zw_getI rfl rfl (by assumption) ?_ | refine zw_ialn rfl (by assumption) (by omega) ?_ | refine zw_laln rfl (by assumption) (by omega) ?_ | refine zw_iastn rfl (by omega) (by assumption) (by omega) ?_ | refine zw_lastn rfl (by assumption) (by omega) ?_ | refine zw_iald0 rfl (by assumption) (by omega) ?_ | refine zw_lald0 rfl (by assumption) (by omega) ?_ | refine zw_aaln rfl (by assumption) rfl (by omega) ?_ | refine zw_getR rfl (by assumption) (by assumption) ?_ | refine zw_alen rfl (by assumption) rfl ?_ | refine zw_iald rfl (by assumption) (by omega) (by omega) ?_ | refine zw_iast rfl (by omega) (by assumption) (by omega) (by omega) ?_ | refine zw_putI rfl (by assumption) ?_ | refine zw_lald rfl (by assumption) (by omega) (by omega) ?_ | refine zw_last rfl (by assumption) (by omega) (by omega) ?_ | refine zw_iadd rfl (by omega) (by omega) ?_ | refine zw_isub rfl (by omega) (by omega) ?_ | refine zw_iinc rfl rfl rfl (by omega) (by omega) ?_ | refine zw_imul rfl (by omega) (by omega) ?_)
  refine zw_callv rfl rfl rfl rfl rfl rfl (by assumption) ?_
  refine b_powers hB (fun F1 I1 q1 hB1 => ?_)
  have e1 : I1 0 = I 0 := (q1 0 (Or.inl rfl) (by omega)).2.1
  repeat (first | refine zw_t rfl rfl ?_ | refine zw_jump rfl rfl ?_ | refine zw_getI rfl rfl (by assumption) ?_ | refine zw_ialn rfl (by assumption) (by omega) ?_ | refine zw_laln rfl (by assumption) (by omega) ?_ | refine zw_iastn rfl (by omega) (by assumption) (by omega) ?_ | refine zw_lastn rfl (by assumption) (by omega) ?_ | refine zw_iald0 rfl (by assumption) (by omega) ?_ | refine zw_lald0 rfl (by assumption) (by omega) ?_ | refine zw_aaln rfl (by assumption) rfl (by omega) ?_ | refine zw_getR rfl (by assumption) (by assumption) ?_ | refine zw_alen rfl (by assumption) rfl ?_ | refine zw_iald rfl (by assumption) (by omega) (by omega) ?_ | refine zw_iast rfl (by omega) (by assumption) (by omega) (by omega) ?_ | refine zw_putI rfl (by assumption) ?_ | refine zw_lald rfl (by assumption) (by omega) (by omega) ?_ | refine zw_last rfl (by assumption) (by omega) (by omega) ?_ | refine zw_iadd rfl (by omega) (by omega) ?_ | refine zw_isub rfl (by omega) (by omega) ?_ | refine zw_iinc rfl rfl rfl (by omega) (by omega) ?_ | refine zw_imul rfl (by omega) (by omega) ?_)
  rw [e1]
  refine zw_callv rfl rfl rfl rfl rfl rfl (by assumption) ?_
  refine m_powers hk (hM.kp q1) (fun F2 I2 L2 q2 hM2 => ?_)
  refine zw_icmp_eq_t rfl rfl ?_
  exact nx _ _ _ _ _ _ (ZJ.same hk hT hI hx q1 q2 hB1 hM2) (ZG.refl _ _ _)
end ZLawC
