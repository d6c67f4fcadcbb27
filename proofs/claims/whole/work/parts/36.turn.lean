/-! THE BENCH: rows made of others -/
/-- the row of a set, in order -/
def z_srt (v : Nat → Int) (c : Nat) : Nat → Int := z_bld v (fun _ => 0) 0 c
def ZDis (v : Nat → Int) (c : Nat) : Prop := ∀ a b, a < b → b < c → v a ≠ v b
theorem z_srt_spec {v : Nat → Int} {c : Nat} (h : ZDis v c) : ZRise (z_srt v c) c ∧ (∀ y, ZMem (z_srt v c) c y ↔ ZMem v c y) := z_bld_all h
theorem z_srt_bld {v : Nat → Int} {c : Nat} (h : ZDis v c) (f : Nat → Int) : ZAgr (z_bld v f 0 c) (z_srt v c) c := by
  obtain ⟨a1, a2⟩ := z_bld_all (f := f) h
  obtain ⟨b1, b2⟩ := z_srt_spec h
  exact z_rise_uniq a1 b1 (fun y => by rw [a2 y, b2 y])
/-- two rows of the same numbers -/
theorem z_srt_uniq {v g : Nat → Int} {c : Nat} (h : ZDis v c) (hg : ZRise g c) (hm : ∀ y, ZMem g c y ↔ ZMem v c y) : ZAgr g (z_srt v c) c := by
  obtain ⟨b1, b2⟩ := z_srt_spec h
  exact z_rise_uniq hg b1 (fun y => by rw [hm y, b2 y])
theorem z_srt_row {v : Nat → Int} {c : Nat} {rd : Int} (h : ZDis v c) (hc : c ≤ 24) (hrd : 0 ≤ rd ∧ rd ≤ 400) (h2 : 0 < rd → 2 ≤ rd) (hv : ∀ j, j < c → 0 ≤ v j ∧ v j ≤ 1000) (hw : 0 < rd → ∀ j, j < c → v j < rd) (h0 : 0 < c → ZMem v c 0) : ZRow (z_srt v c) c rd := by
  obtain ⟨b1, b2⟩ := z_srt_spec h
  have m : ∀ j, j < c → ∃ i, i < c ∧ v i = z_srt v c j := fun j hj => (b2 _).1 ⟨j, hj, rfl⟩
  refine ⟨hc, b1, fun j hj => ?_, hrd, fun hr => ⟨h2 hr, fun j hj => ?_⟩, fun hc0 => ?_⟩
  · obtain ⟨i, hi, e⟩ := m j hj
    rw [← e]; exact hv i hi
  · obtain ⟨i, hi, e⟩ := m j hj
    rw [← e]; exact hw hr i hi
  · refine z_rise_zero b1 (fun j hj => ?_) ((b2 0).2 (h0 hc0))
    obtain ⟨i, hi, e⟩ := m j hj
    rw [← e]; exact (hv i hi).1
def sp_turn (A : ZA) (s to : Int) : Int × ZA := if sp_mf A s to = 0 then (1, A.1, z_up A.2.1 to.toNat ((A.2.1 s.toNat).1, (A.2.1 s.toNat).2.1, z_srt (z_tv (A.2.1 s.toNat).2.2 (A.2.1 s.toNat).1 (A.2.1 s.toNat).2.1) (A.2.1 s.toNat).1), 0) else (0, A.1, A.2.1, sp_mf A s to)
def sp_factor (A : ZA) (s x to : Int) : Int × ZA := if sp_mf A s to = 0 then (if z_ff (A.2.1 s.toNat).2.1 x = 0 then (1, A.1, z_up A.2.1 to.toNat ((A.2.1 s.toNat).1, (A.2.1 s.toNat).2.1, z_srt (fun j => (A.2.1 s.toNat).2.2 j * x % (A.2.1 s.toNat).2.1) (A.2.1 s.toNat).1), 0) else (0, A.1, A.2.1, z_ff (A.2.1 s.toNat).2.1 x)) else (0, A.1, A.2.1, sp_mf A s to)
theorem z_tv_dis {v : Nat → Int} {c : Nat} {rd : Int} (h : ZRow v c rd) : ZDis (z_tv v c rd) c := by
  intro a b hab hb
  have q := h.2.1 a b hab hb
  have q1 := h.2.2.1 a (by omega)
  unfold z_tv
  by_cases hr : 0 < rd
  · rw [if_pos hr, if_pos hr, if_neg (show ¬ v b = 0 by omega)]
    have := (h.2.2.2.2.1 hr).2 b hb
    split <;> omega
  · rw [if_neg hr, if_neg hr]; omega
theorem z_tv_row {v : Nat → Int} {c : Nat} {rd : Int} (h : ZRow v c rd) : ZRow (z_srt (z_tv v c rd) c) c rd := by
  have hd := z_tv_dis h
  obtain ⟨h1, h2, h3, h4, h5, h6⟩ := h
  refine z_srt_row hd h1 h4 (fun hr => (h5 hr).1) (fun j hj => ?_) (fun hr j hj => ?_) (fun hc => ?_)
  · have q := h3 j hj
    have q2 := h3 (c - 1) (by omega)
    have q3 := h2.le (show j ≤ c - 1 by omega) (by omega)
    unfold z_tv
    split
    · rename_i hr
      have := (h5 hr).2 j hj
      split <;> omega
    · omega
  · have q := h3 j hj
    unfold z_tv
    rw [if_pos hr]
    split <;> omega
  · by_cases hr : 0 < rd
    · exact ⟨0, hc, by unfold z_tv; rw [if_pos hr, if_pos (h6 hc)]⟩
    · exact ⟨c - 1, by omega, by unfold z_tv; rw [if_neg hr]; omega⟩
theorem z_tv_cong {v w : Nat → Int} {c : Nat} (h : ZAgr v w c) (rd : Int) : ZAgr (z_tv v c rd) (z_tv w c rd) c := by
  intro j hj
  unfold z_tv
  rw [h j hj, h (c - 1) (by omega)]
theorem z_srt_cong {v w : Nat → Int} {c : Nat} (h : ZAgr v w c) (hd : ZDis w c) : ZAgr (z_srt v c) (z_srt w c) c := by
  have hd' : ZDis v c := fun a b hab hb => by rw [h a (by omega), h b hb]; exact hd a b hab hb
  obtain ⟨a1, a2⟩ := z_srt_spec hd'
  exact z_srt_uniq hd a1 (fun y => by rw [a2 y]; exact h.mem y)
/-- turned from behind: the same row -/
theorem z_rev_agr {v : Nat → Int} {c : Nat} (hd : ZDis v c) (f : Nat → Int) : ZAgr (z_bld (fun j => v (c - 1 - j)) f 0 c) (z_srt v c) c := by
  have hd' : ZDis (fun j => v (c - 1 - j)) c := fun a b hab hb e => hd (c - 1 - b) (c - 1 - a) (by omega) (by omega) e.symm
  obtain ⟨a1, a2⟩ := z_bld_all (f := f) hd'
  refine z_srt_uniq hd a1 (fun y => ?_)
  rw [a2 y]
  constructor
  · rintro ⟨j, hj, e⟩; exact ⟨c - 1 - j, by omega, e⟩
  · rintro ⟨j, hj, e⟩; exact ⟨c - 1 - j, by omega, by show v (c - 1 - (c - 1 - j)) = y; rw [show c - 1 - (c - 1 - j) = j by omega]; exact e⟩
theorem z_mul_dis {v : Nat → Int} {c : Nat} {rd x : Int} (h : ZRow v c rd) (hz : z_ff rd x = 0) : (1 ≤ x ∧ x ≤ 400 ∧ 0 < rd) ∧ ZDis (fun j => v j * x % rd) c := by
  have hx : 1 ≤ x ∧ x ≤ 400 ∧ 0 < rd ∧ Nat.gcd x.toNat rd.toNat = 1 := by
    unfold z_ff at hz
    by_cases q1 : x < 1 ∨ 400 < x
    · rw [if_pos q1] at hz; omega
    · rw [if_neg q1] at hz
      by_cases q2 : 0 < rd ∧ Nat.gcd x.toNat rd.toNat = 1
      · exact ⟨by omega, by omega, q2.1, q2.2⟩
      · rw [if_neg q2] at hz; omega
  obtain ⟨x1, x2, x3, x4⟩ := hx
  refine ⟨⟨x1, x2, x3⟩, fun a b hab hb e => ?_⟩
  have q := h.2.1 a b hab hb
  have w := (h.2.2.2.2.1 x3).2
  have n := h.2.2.1
  have := z_unit_inj (a := x.toNat) (rd := rd.toNat) x4 (x := v a) (y := v b) ⟨(n a (by omega)).1, by have := w a (by omega); omega⟩ ⟨(n b hb).1, by have := w b hb; omega⟩ (by rw [Int.toNat_of_nonneg (by omega), Int.toNat_of_nonneg (by omega)]; exact e)
  omega
theorem z_mul_row {v : Nat → Int} {c : Nat} {rd x : Int} (h : ZRow v c rd) (hz : z_ff rd x = 0) : ZRow (z_srt (fun j => v j * x % rd) c) c rd := by
  obtain ⟨⟨x1, x2, x3⟩, hd⟩ := z_mul_dis h hz
  obtain ⟨h1, h2, h3, h4, h5, h6⟩ := h
  have b : ∀ j : Nat, 0 ≤ v j * x % rd ∧ v j * x % rd < rd := fun j => ⟨Int.emod_nonneg _ (by omega), Int.emod_lt_of_pos _ x3⟩
  refine z_srt_row hd h1 h4 (fun hr => (h5 hr).1) (fun j hj => by have := b j; omega) (fun hr j hj => (b j).2) (fun hc => ⟨0, hc, ?_⟩)
  show v 0 * x % rd = 0
  rw [h6 hc, Int.zero_mul, Int.zero_emod]
section ZBench8
variable {d : Nat} {A : ZA} {k : ZK} {F I : Nat → Nat → Int} {L : Nat → Nat → Int64} {R : Nat → Nat → Option Nat} {Q : Option ZV → ZH → Prop} {s x to : Int}
/-- the ruler that calls make first is another one -/
theorem ZB.made (h : ZB A k F I L R) (x y : Int) (g : Nat → Int) : ZKp F I L (z_u2 (z_u2 F 5 1 x) 5 2 y) (z_up I 6 g) L ∧ ZB A k (z_u2 (z_u2 F 5 1 x) 5 2 y) (z_up I 6 g) L R := by
  refine ⟨fun a h1 h2 => ⟨by rw [z_u2_ad _ _ _ (by omega), z_u2_ad _ _ _ (by omega)], z_up_ne _ _ (by omega), rfl⟩, h.1.scr (fun a ha => by rw [z_u2_ad _ _ _ (by omega), z_u2_ad _ _ _ (by omega)]) (fun a h1 h2 => z_up_ne _ _ (by omega)), h.2.upd (fun j => by rw [z_up_ne _ _ (by omega)]; exact h.2.2.2.1 j) ?_ (fun a ha => z_up_ne _ _ (by omega)) (fun a _ => rfl)⟩
  obtain ⟨n, a1, a2, a3⟩ := h.2.2.2.2.1
  unfold ZFoI
  rw [z_u2_ad _ _ _ (by omega), z_u2_ad _ _ _ (by omega), z_up_ne _ _ (by omega)]
  exact ⟨n, a1, a2, a3⟩
/-- a shelf becomes a copy of what was made -/
theorem ZB.cpy {t c o : Nat} {rd : Int} {v : Nat → Int} (h : ZB A k F I L R) (ht : t < 16) (h1 : F o 1 = (c : Int)) (h2 : F o 2 = rd) (h3 : ZRow v c rd) (h4 : ZAgr (I (o + 1)) v c) : ZKp F I L (z_u2 (z_u2 F (34 + 2 * t) 1 (F o 1)) (34 + 2 * t) 2 (F o 2)) (z_up I (34 + 2 * t + 1) (z_cpf 24 (I (o + 1)) (I (34 + 2 * t + 1)))) L ∧ ZB (A.1, z_up A.2.1 t (c, rd, v), A.2.2) k (z_u2 (z_u2 F (34 + 2 * t) 1 (F o 1)) (34 + 2 * t) 2 (F o 2)) (z_up I (34 + 2 * t + 1) (z_cpf 24 (I (o + 1)) (I (34 + 2 * t + 1)))) L R := by
  refine h.put ht (fun a ha => by rw [z_u2_ad _ _ _ ha, z_u2_ad _ _ _ ha]) (fun a ha => z_up_ne _ _ ha) (by rw [z_u2_nk _ _ _ _ (by omega), z_u2_same]; exact h1) (by rw [z_u2_same]; exact h2) h3 (fun j hj => ?_)
  rw [z_up_same]
  unfold z_cpf
  rw [if_pos (by have := h3.1; omega)]
  exact h4 j hj
theorem sp_mf_to (h : sp_mf A s to = 0) : sp_hf A s = 0 ∧ ∃ u : Nat, to = (u : Int) ∧ u < 16 := by
  unfold sp_mf at h
  by_cases hx : 0 ≤ to ∧ to < 16
  · rw [if_pos hx] at h
    exact ⟨h, to.toNat, by omega, by omega⟩
  · rw [if_neg hx] at h; omega
theorem b_turn (h : ZB A k F I L R) (K : ∀ F' I' L', ZKp F I L F' I' L' → ZB (sp_turn A s to).2 k F' I' L' R → Q (some (.inl (sp_turn A s to).1)) (k, F', I', L', R)) : ZC (d + 5) 105 [.inr (.inr (some 2)), .inl s, .inl to] (k, F, I, L, R) Q := by
  have hR := h.2.2.1
  obtain ⟨⟨a1, a2, a3, a4, a5, a6, a7, a8, a9, a10, a11, a12, a13, a14⟩, ⟨hm, _, _⟩, _⟩ := h.2.1
  have hm0 := hm
  obtain ⟨m1, m2, m3, m4⟩ := hm
  refine ze_B_turn ?_
  repeat (first | refine zw_t rfl rfl ?_ | refine zw_jump rfl rfl ?_ | refine zw_getI rfl rfl (by assumption) ?_ | refine zw_ialn rfl (by assumption) (by omega) ?_ | refine zw_laln rfl (by assumption) (by omega) ?_ | refine zw_iastn rfl (by omega) (by assumption) (by omega) ?_ | refine zw_lastn rfl (by assumption) (by omega) ?_ | refine zw_iald0 rfl (by assumption) (by omega) ?_ | refine zw_lald0 rfl (by assumption) (by omega) ?_ | refine zw_aaln rfl (by assumption) rfl (by omega) ?_ | refine zw_getR rfl (by assumption) (by assumption) ?_ | refine zw_alen rfl (by assumption) rfl ?_ | refine zw_iald rfl (by assumption) (by omega) (by omega) ?_ | refine zw_iast rfl (by omega) (by assumption) (by omega) (by omega) ?_ | refine zw_putI rfl (by assumption) ?_ | refine zw_lald rfl (by assumption) (by omega) (by omega) ?_ | refine zw_last rfl (by assumption) (by omega) (by omega) ?_ | refine zw_iadd rfl (by omega) (by omega) ?_ | refine zw_isub rfl (by omega) (by omega) ?_ | refine zw_iinc rfl rfl rfl (by omega) (by omega) ?_)
  refine zw_callv rfl rfl rfl rfl rfl rfl (by assumption) ?_
  refine c_moveFault h ?_
  unfold sp_turn at K
  by_cases hf : sp_mf A s to = 0
  · rw [if_pos hf] at K
    obtain ⟨hf1, u, rfl, hu⟩ := sp_mf_to hf
    obtain ⟨t, c, rd, v, rfl, ht, hy, hc0, f1, f2, hrow, hag, hru, hr4, hrow'⟩ := h.at hf1
    rw [Int.toNat_natCast, Int.toNat_natCast, hy] at K
    dsimp only at K
    have hru0 := hru
    obtain ⟨r1, r2, r3, r4⟩ := hru
    have huu := h.2.1.2.2.2.2.2.1 u hu
    have hu4 := hR.2 u hu
    have huu0 := huu
    obtain ⟨u1, u2, u3, u4⟩ := huu
    rw [hf]
    refine zw_callv rfl rfl rfl rfl rfl rfl (by assumption) ?_
    refine c_passes a1 ?_
    rw [if_pos rfl]
    refine zw_if_ne_t rfl (by decide) ?_
    repeat (first | refine zw_t rfl rfl ?_ | refine zw_jump rfl rfl ?_ | refine zw_getI rfl rfl (by assumption) ?_ | refine zw_ialn rfl (by assumption) (by omega) ?_ | refine zw_laln rfl (by assumption) (by omega) ?_ | refine zw_iastn rfl (by omega) (by assumption) (by omega) ?_ | refine zw_lastn rfl (by assumption) (by omega) ?_ | refine zw_iald0 rfl (by assumption) (by omega) ?_ | refine zw_lald0 rfl (by assumption) (by omega) ?_ | refine zw_aaln rfl (by assumption) rfl (by omega) ?_ | refine zw_getR rfl (by assumption) (by assumption) ?_ | refine zw_alen rfl (by assumption) rfl ?_ | refine zw_iald rfl (by assumption) (by omega) (by omega) ?_ | refine zw_iast rfl (by omega) (by assumption) (by omega) (by omega) ?_ | refine zw_putI rfl (by assumption) ?_ | refine zw_lald rfl (by assumption) (by omega) (by omega) ?_ | refine zw_last rfl (by assumption) (by omega) (by omega) ?_ | refine zw_iadd rfl (by omega) (by omega) ?_ | refine zw_isub rfl (by omega) (by omega) ?_ | refine zw_iinc rfl rfl rfl (by omega) (by omega) ?_)
    rw [hr4]
    have l := z_refused h 0
    refine zw_callv rfl rfl rfl rfl rfl rfl (by assumption) ?_
    refine c_turnFrom (rd := rd) hm0 hru0 (by omega) (by rw [z_u2_ad _ _ _ (by omega)]; exact f1) hrow.1 (by rw [z_u2_ad _ _ _ (by omega)]; exact f2) (by have := hrow.2.2.2.1; omega) hrow'.2.2.1 ?_
    have l2 := ZB.made l.2 (c : Int) rd (z_bld (fun j => z_tv (I (34 + 2 * t + 1)) c rd (c - 1 - j)) (I 6) 0 c)
    obtain ⟨F1, hF1⟩ : ∃ F1, F1 = z_u2 (z_u2 (z_u2 F 2 11 0) 5 1 (c : Int)) 5 2 rd := ⟨_, rfl⟩
    obtain ⟨I1, hI1⟩ : ∃ I1, I1 = z_up I 6 (z_bld (fun j => z_tv (I (34 + 2 * t + 1)) c rd (c - 1 - j)) (I 6) 0 c) := ⟨_, rfl⟩
    rw [show z_up I (5 + 1) (z_bld (fun j => z_tv (I (34 + 2 * t + 1)) c rd (c - 1 - j)) (I (5 + 1)) 0 c) = I1 from hI1.symm, ← hF1]
    rw [← hF1, ← hI1] at l2
    have l3 := ZB.cpy (t := u) (c := c) (o := 5) (rd := rd) (v := z_srt (z_tv v c rd) c) l2.2 hu (by rw [hF1, z_u2_nk _ _ _ _ (by omega), z_u2_same]) (by rw [hF1, z_u2_same]) (z_tv_row hrow) (by
      rw [hI1, show (5 + 1 : Nat) = 6 from rfl, z_up_same]
      exact (z_rev_agr (z_tv_dis hrow') (I 6)).trans (z_srt_cong (z_tv_cong hag rd) (z_tv_dis hrow)))
    repeat (first | refine zw_t rfl rfl ?_ | refine zw_jump rfl rfl ?_ | refine zw_getI rfl rfl (by assumption) ?_ | refine zw_ialn rfl (by assumption) (by omega) ?_ | refine zw_laln rfl (by assumption) (by omega) ?_ | refine zw_iastn rfl (by omega) (by assumption) (by omega) ?_ | refine zw_lastn rfl (by assumption) (by omega) ?_ | refine zw_iald0 rfl (by assumption) (by omega) ?_ | refine zw_lald0 rfl (by assumption) (by omega) ?_ | refine zw_aaln rfl (by assumption) rfl (by omega) ?_ | refine zw_getR rfl (by assumption) (by assumption) ?_ | refine zw_alen rfl (by assumption) rfl ?_ | refine zw_iald rfl (by assumption) (by omega) (by omega) ?_ | refine zw_iast rfl (by omega) (by assumption) (by omega) (by omega) ?_ | refine zw_putI rfl (by assumption) ?_ | refine zw_lald rfl (by assumption) (by omega) (by omega) ?_ | refine zw_last rfl (by assumption) (by omega) (by omega) ?_ | refine zw_iadd rfl (by omega) (by omega) ?_ | refine zw_isub rfl (by omega) (by omega) ?_ | refine zw_iinc rfl rfl rfl (by omega) (by omega) ?_)
    rw [hu4]
    repeat (first | refine zw_t rfl rfl ?_ | refine zw_jump rfl rfl ?_ | refine zw_getI rfl rfl (by assumption) ?_ | refine zw_ialn rfl (by assumption) (by omega) ?_ | refine zw_laln rfl (by assumption) (by omega) ?_ | refine zw_iastn rfl (by omega) (by assumption) (by omega) ?_ | refine zw_lastn rfl (by assumption) (by omega) ?_ | refine zw_iald0 rfl (by assumption) (by omega) ?_ | refine zw_lald0 rfl (by assumption) (by omega) ?_ | refine zw_aaln rfl (by assumption) rfl (by omega) ?_ | refine zw_getR rfl (by assumption) (by assumption) ?_ | refine zw_alen rfl (by assumption) rfl ?_ | refine zw_iald rfl (by assumption) (by omega) (by omega) ?_ | refine zw_iast rfl (by omega) (by assumption) (by omega) (by omega) ?_ | refine zw_putI rfl (by assumption) ?_ | refine zw_lald rfl (by assumption) (by omega) (by omega) ?_ | refine zw_last rfl (by assumption) (by omega) (by omega) ?_ | refine zw_iadd rfl (by omega) (by omega) ?_ | refine zw_isub rfl (by omega) (by omega) ?_ | refine zw_iinc rfl rfl rfl (by omega) (by omega) ?_)
    refine zw_callv rfl rfl rfl rfl rfl rfl (by assumption) ?_
    refine c_copy huu0 hm0 (by omega) ?_
    repeat (first | refine zw_t rfl rfl ?_ | refine zw_jump rfl rfl ?_ | refine zw_getI rfl rfl (by assumption) ?_ | refine zw_ialn rfl (by assumption) (by omega) ?_ | refine zw_laln rfl (by assumption) (by omega) ?_ | refine zw_iastn rfl (by omega) (by assumption) (by omega) ?_ | refine zw_lastn rfl (by assumption) (by omega) ?_ | refine zw_iald0 rfl (by assumption) (by omega) ?_ | refine zw_lald0 rfl (by assumption) (by omega) ?_ | refine zw_aaln rfl (by assumption) rfl (by omega) ?_ | refine zw_getR rfl (by assumption) (by assumption) ?_ | refine zw_alen rfl (by assumption) rfl ?_ | refine zw_iald rfl (by assumption) (by omega) (by omega) ?_ | refine zw_iast rfl (by omega) (by assumption) (by omega) (by omega) ?_ | refine zw_putI rfl (by assumption) ?_ | refine zw_lald rfl (by assumption) (by omega) (by omega) ?_ | refine zw_last rfl (by assumption) (by omega) (by omega) ?_ | refine zw_iadd rfl (by omega) (by omega) ?_ | refine zw_isub rfl (by omega) (by omega) ?_ | refine zw_iinc rfl rfl rfl (by omega) (by omega) ?_)
    exact zw_zret rfl (Or.inr rfl) (K _ _ _ ((l.1.trans l2.1).trans l3.1) l3.2)
  · rw [if_neg hf] at K
    refine zw_callv rfl rfl rfl rfl rfl rfl (by assumption) ?_
    refine c_passes a1 ?_
    rw [if_neg hf]
    refine zw_if_ne_f rfl rfl ?_
    repeat (first | refine zw_t rfl rfl ?_ | refine zw_jump rfl rfl ?_ | refine zw_getI rfl rfl (by assumption) ?_ | refine zw_ialn rfl (by assumption) (by omega) ?_ | refine zw_laln rfl (by assumption) (by omega) ?_ | refine zw_iastn rfl (by omega) (by assumption) (by omega) ?_ | refine zw_lastn rfl (by assumption) (by omega) ?_ | refine zw_iald0 rfl (by assumption) (by omega) ?_ | refine zw_lald0 rfl (by assumption) (by omega) ?_ | refine zw_aaln rfl (by assumption) rfl (by omega) ?_ | refine zw_getR rfl (by assumption) (by assumption) ?_ | refine zw_alen rfl (by assumption) rfl ?_ | refine zw_iald rfl (by assumption) (by omega) (by omega) ?_ | refine zw_iast rfl (by omega) (by assumption) (by omega) (by omega) ?_ | refine zw_putI rfl (by assumption) ?_ | refine zw_lald rfl (by assumption) (by omega) (by omega) ?_ | refine zw_last rfl (by assumption) (by omega) (by omega) ?_ | refine zw_iadd rfl (by omega) (by omega) ?_ | refine zw_isub rfl (by omega) (by omega) ?_ | refine zw_iinc rfl rfl rfl (by omega) (by omega) ?_)
    exact zw_zret rfl (Or.inl rfl) (K _ _ _ (z_refused h _).1 (z_refused h _).2)
theorem b_factor (h : ZB A k F I L R) (K : ∀ F' I' L', ZKp F I L F' I' L' → ZB (sp_factor A s x to).2 k F' I' L' R → Q (some (.inl (sp_factor A s x to).1)) (k, F', I', L', R)) : ZC (d + 5) 108 [.inr (.inr (some 2)), .inl s, .inl x, .inl to] (k, F, I, L, R) Q := by
  have hR := h.2.2.1
  obtain ⟨⟨a1, a2, a3, a4, a5, a6, a7, a8, a9, a10, a11, a12, a13, a14⟩, ⟨hm, _, _⟩, _⟩ := h.2.1
  have hm0 := hm
  obtain ⟨m1, m2, m3, m4⟩ := hm
  have no : ∀ (f : Int), f ≠ 0 → Q (some (.inl 0)) (k, z_u2 F 2 11 f, I, L, R) → ZW (d + 4) 108 25 [some (.inr (.inr (some 2))), some (.inl s), some (.inl x), some (.inl to), some (.inl f)] [] (k, F, I, L, R) Q := by
    intro f hf K
    repeat (first | refine zw_t rfl rfl ?_ | refine zw_jump rfl rfl ?_ | refine zw_getI rfl rfl (by assumption) ?_ | refine zw_ialn rfl (by assumption) (by omega) ?_ | refine zw_laln rfl (by assumption) (by omega) ?_ | refine zw_iastn rfl (by omega) (by assumption) (by omega) ?_ | refine zw_lastn rfl (by assumption) (by omega) ?_ | refine zw_iald0 rfl (by assumption) (by omega) ?_ | refine zw_lald0 rfl (by assumption) (by omega) ?_ | refine zw_aaln rfl (by assumption) rfl (by omega) ?_ | refine zw_getR rfl (by assumption) (by assumption) ?_ | refine zw_alen rfl (by assumption) rfl ?_ | refine zw_iald rfl (by assumption) (by omega) (by omega) ?_ | refine zw_iast rfl (by omega) (by assumption) (by omega) (by omega) ?_ | refine zw_putI rfl (by assumption) ?_ | refine zw_lald rfl (by assumption) (by omega) (by omega) ?_ | refine zw_last rfl (by assumption) (by omega) (by omega) ?_ | refine zw_iadd rfl (by omega) (by omega) ?_ | refine zw_isub rfl (by omega) (by omega) ?_ | refine zw_iinc rfl rfl rfl (by omega) (by omega) ?_)
    refine zw_callv rfl rfl rfl rfl rfl rfl (by assumption) ?_
    refine c_passes a1 ?_
    rw [if_neg hf]
    refine zw_if_ne_f rfl rfl ?_
    repeat (first | refine zw_t rfl rfl ?_ | refine zw_jump rfl rfl ?_ | refine zw_getI rfl rfl (by assumption) ?_ | refine zw_ialn rfl (by assumption) (by omega) ?_ | refine zw_laln rfl (by assumption) (by omega) ?_ | refine zw_iastn rfl (by omega) (by assumption) (by omega) ?_ | refine zw_lastn rfl (by assumption) (by omega) ?_ | refine zw_iald0 rfl (by assumption) (by omega) ?_ | refine zw_lald0 rfl (by assumption) (by omega) ?_ | refine zw_aaln rfl (by assumption) rfl (by omega) ?_ | refine zw_getR rfl (by assumption) (by assumption) ?_ | refine zw_alen rfl (by assumption) rfl ?_ | refine zw_iald rfl (by assumption) (by omega) (by omega) ?_ | refine zw_iast rfl (by omega) (by assumption) (by omega) (by omega) ?_ | refine zw_putI rfl (by assumption) ?_ | refine zw_lald rfl (by assumption) (by omega) (by omega) ?_ | refine zw_last rfl (by assumption) (by omega) (by omega) ?_ | refine zw_iadd rfl (by omega) (by omega) ?_ | refine zw_isub rfl (by omega) (by omega) ?_ | refine zw_iinc rfl rfl rfl (by omega) (by omega) ?_)
    exact zw_zret rfl (Or.inl rfl) K
  refine ze_B_factor ?_
  repeat (first | refine zw_t rfl rfl ?_ | refine zw_jump rfl rfl ?_ | refine zw_getI rfl rfl (by assumption) ?_ | refine zw_ialn rfl (by assumption) (by omega) ?_ | refine zw_laln rfl (by assumption) (by omega) ?_ | refine zw_iastn rfl (by omega) (by assumption) (by omega) ?_ | refine zw_lastn rfl (by assumption) (by omega) ?_ | refine zw_iald0 rfl (by assumption) (by omega) ?_ | refine zw_lald0 rfl (by assumption) (by omega) ?_ | refine zw_aaln rfl (by assumption) rfl (by omega) ?_ | refine zw_getR rfl (by assumption) (by assumption) ?_ | refine zw_alen rfl (by assumption) rfl ?_ | refine zw_iald rfl (by assumption) (by omega) (by omega) ?_ | refine zw_iast rfl (by omega) (by assumption) (by omega) (by omega) ?_ | refine zw_putI rfl (by assumption) ?_ | refine zw_lald rfl (by assumption) (by omega) (by omega) ?_ | refine zw_last rfl (by assumption) (by omega) (by omega) ?_ | refine zw_iadd rfl (by omega) (by omega) ?_ | refine zw_isub rfl (by omega) (by omega) ?_ | refine zw_iinc rfl rfl rfl (by omega) (by omega) ?_)
  refine zw_callv rfl rfl rfl rfl rfl rfl (by assumption) ?_
  refine c_moveFault h ?_
  unfold sp_factor at K
  by_cases hf : sp_mf A s to = 0
  · rw [if_pos hf] at K
    obtain ⟨hf1, u, rfl, hu⟩ := sp_mf_to hf
    obtain ⟨t, c, rd, v, rfl, ht, hy, hc0, f1, f2, hrow, hag, hru, hr4, hrow'⟩ := h.at hf1
    rw [Int.toNat_natCast, Int.toNat_natCast, hy] at K
    dsimp only at K
    have hru0 := hru
    obtain ⟨r1, r2, r3, r4⟩ := hru
    have huu := h.2.1.2.2.2.2.2.1 u hu
    have hu4 := hR.2 u hu
    have huu0 := huu
    obtain ⟨u1, u2, u3, u4⟩ := huu
    rw [hf]
    repeat (first | refine zw_t rfl rfl ?_ | refine zw_jump rfl rfl ?_ | refine zw_getI rfl rfl (by assumption) ?_ | refine zw_ialn rfl (by assumption) (by omega) ?_ | refine zw_laln rfl (by assumption) (by omega) ?_ | refine zw_iastn rfl (by omega) (by assumption) (by omega) ?_ | refine zw_lastn rfl (by assumption) (by omega) ?_ | refine zw_iald0 rfl (by assumption) (by omega) ?_ | refine zw_lald0 rfl (by assumption) (by omega) ?_ | refine zw_aaln rfl (by assumption) rfl (by omega) ?_ | refine zw_getR rfl (by assumption) (by assumption) ?_ | refine zw_alen rfl (by assumption) rfl ?_ | refine zw_iald rfl (by assumption) (by omega) (by omega) ?_ | refine zw_iast rfl (by omega) (by assumption) (by omega) (by omega) ?_ | refine zw_putI rfl (by assumption) ?_ | refine zw_lald rfl (by assumption) (by omega) (by omega) ?_ | refine zw_last rfl (by assumption) (by omega) (by omega) ?_ | refine zw_iadd rfl (by omega) (by omega) ?_ | refine zw_isub rfl (by omega) (by omega) ?_ | refine zw_iinc rfl rfl rfl (by omega) (by omega) ?_)
    refine zw_if_ne_f rfl rfl ?_
    repeat (first | refine zw_t rfl rfl ?_ | refine zw_jump rfl rfl ?_ | refine zw_getI rfl rfl (by assumption) ?_ | refine zw_ialn rfl (by assumption) (by omega) ?_ | refine zw_laln rfl (by assumption) (by omega) ?_ | refine zw_iastn rfl (by omega) (by assumption) (by omega) ?_ | refine zw_lastn rfl (by assumption) (by omega) ?_ | refine zw_iald0 rfl (by assumption) (by omega) ?_ | refine zw_lald0 rfl (by assumption) (by omega) ?_ | refine zw_aaln rfl (by assumption) rfl (by omega) ?_ | refine zw_getR rfl (by assumption) (by assumption) ?_ | refine zw_alen rfl (by assumption) rfl ?_ | refine zw_iald rfl (by assumption) (by omega) (by omega) ?_ | refine zw_iast rfl (by omega) (by assumption) (by omega) (by omega) ?_ | refine zw_putI rfl (by assumption) ?_ | refine zw_lald rfl (by assumption) (by omega) (by omega) ?_ | refine zw_last rfl (by assumption) (by omega) (by omega) ?_ | refine zw_iadd rfl (by omega) (by omega) ?_ | refine zw_isub rfl (by omega) (by omega) ?_ | refine zw_iinc rfl rfl rfl (by omega) (by omega) ?_)
    rw [hr4]
    repeat (first | refine zw_t rfl rfl ?_ | refine zw_jump rfl rfl ?_ | refine zw_getI rfl rfl (by assumption) ?_ | refine zw_ialn rfl (by assumption) (by omega) ?_ | refine zw_laln rfl (by assumption) (by omega) ?_ | refine zw_iastn rfl (by omega) (by assumption) (by omega) ?_ | refine zw_lastn rfl (by assumption) (by omega) ?_ | refine zw_iald0 rfl (by assumption) (by omega) ?_ | refine zw_lald0 rfl (by assumption) (by omega) ?_ | refine zw_aaln rfl (by assumption) rfl (by omega) ?_ | refine zw_getR rfl (by assumption) (by assumption) ?_ | refine zw_alen rfl (by assumption) rfl ?_ | refine zw_iald rfl (by assumption) (by omega) (by omega) ?_ | refine zw_iast rfl (by omega) (by assumption) (by omega) (by omega) ?_ | refine zw_putI rfl (by assumption) ?_ | refine zw_lald rfl (by assumption) (by omega) (by omega) ?_ | refine zw_last rfl (by assumption) (by omega) (by omega) ?_ | refine zw_iadd rfl (by omega) (by omega) ?_ | refine zw_isub rfl (by omega) (by omega) ?_ | refine zw_iinc rfl rfl rfl (by omega) (by omega) ?_)
    refine zw_calls rfl rfl rfl rfl rfl rfl ?_
    refine c_factorFault (rd := rd) hru0 f2 hrow.2.2.2.1 ?_
    by_cases hz : z_ff rd x = 0
    · rw [if_pos hz] at K
      obtain ⟨⟨x1, x2, x3⟩, hd⟩ := z_mul_dis hrow hz
      obtain ⟨_, hd'⟩ := z_mul_dis hrow' hz
      rw [hz]
      repeat (first | refine zw_t rfl rfl ?_ | refine zw_jump rfl rfl ?_ | refine zw_getI rfl rfl (by assumption) ?_ | refine zw_ialn rfl (by assumption) (by omega) ?_ | refine zw_laln rfl (by assumption) (by omega) ?_ | refine zw_iastn rfl (by omega) (by assumption) (by omega) ?_ | refine zw_lastn rfl (by assumption) (by omega) ?_ | refine zw_iald0 rfl (by assumption) (by omega) ?_ | refine zw_lald0 rfl (by assumption) (by omega) ?_ | refine zw_aaln rfl (by assumption) rfl (by omega) ?_ | refine zw_getR rfl (by assumption) (by assumption) ?_ | refine zw_alen rfl (by assumption) rfl ?_ | refine zw_iald rfl (by assumption) (by omega) (by omega) ?_ | refine zw_iast rfl (by omega) (by assumption) (by omega) (by omega) ?_ | refine zw_putI rfl (by assumption) ?_ | refine zw_lald rfl (by assumption) (by omega) (by omega) ?_ | refine zw_last rfl (by assumption) (by omega) (by omega) ?_ | refine zw_iadd rfl (by omega) (by omega) ?_ | refine zw_isub rfl (by omega) (by omega) ?_ | refine zw_iinc rfl rfl rfl (by omega) (by omega) ?_)
      refine zw_callv rfl rfl rfl rfl rfl rfl (by assumption) ?_
      refine c_passes a1 ?_
      rw [if_pos rfl]
      refine zw_if_ne_t rfl (by decide) ?_
      repeat (first | refine zw_t rfl rfl ?_ | refine zw_jump rfl rfl ?_ | refine zw_getI rfl rfl (by assumption) ?_ | refine zw_ialn rfl (by assumption) (by omega) ?_ | refine zw_laln rfl (by assumption) (by omega) ?_ | refine zw_iastn rfl (by omega) (by assumption) (by omega) ?_ | refine zw_lastn rfl (by assumption) (by omega) ?_ | refine zw_iald0 rfl (by assumption) (by omega) ?_ | refine zw_lald0 rfl (by assumption) (by omega) ?_ | refine zw_aaln rfl (by assumption) rfl (by omega) ?_ | refine zw_getR rfl (by assumption) (by assumption) ?_ | refine zw_alen rfl (by assumption) rfl ?_ | refine zw_iald rfl (by assumption) (by omega) (by omega) ?_ | refine zw_iast rfl (by omega) (by assumption) (by omega) (by omega) ?_ | refine zw_putI rfl (by assumption) ?_ | refine zw_lald rfl (by assumption) (by omega) (by omega) ?_ | refine zw_last rfl (by assumption) (by omega) (by omega) ?_ | refine zw_iadd rfl (by omega) (by omega) ?_ | refine zw_isub rfl (by omega) (by omega) ?_ | refine zw_iinc rfl rfl rfl (by omega) (by omega) ?_)
      rw [hr4]
      repeat (first | refine zw_t rfl rfl ?_ | refine zw_jump rfl rfl ?_ | refine zw_getI rfl rfl (by assumption) ?_ | refine zw_ialn rfl (by assumption) (by omega) ?_ | refine zw_laln rfl (by assumption) (by omega) ?_ | refine zw_iastn rfl (by omega) (by assumption) (by omega) ?_ | refine zw_lastn rfl (by assumption) (by omega) ?_ | refine zw_iald0 rfl (by assumption) (by omega) ?_ | refine zw_lald0 rfl (by assumption) (by omega) ?_ | refine zw_aaln rfl (by assumption) rfl (by omega) ?_ | refine zw_getR rfl (by assumption) (by assumption) ?_ | refine zw_alen rfl (by assumption) rfl ?_ | refine zw_iald rfl (by assumption) (by omega) (by omega) ?_ | refine zw_iast rfl (by omega) (by assumption) (by omega) (by omega) ?_ | refine zw_putI rfl (by assumption) ?_ | refine zw_lald rfl (by assumption) (by omega) (by omega) ?_ | refine zw_last rfl (by assumption) (by omega) (by omega) ?_ | refine zw_iadd rfl (by omega) (by omega) ?_ | refine zw_isub rfl (by omega) (by omega) ?_ | refine zw_iinc rfl rfl rfl (by omega) (by omega) ?_)
      have l := z_refused h 0
      refine zw_callv rfl rfl rfl rfl rfl rfl (by assumption) ?_
      refine c_multiplyFrom (rd := rd) hm0 hru0 (by omega) (by rw [z_u2_ad _ _ _ (by omega)]; exact f1) hrow.1 (by rw [z_u2_ad _ _ _ (by omega)]; exact f2) x3 (by omega) hrow'.2.2.1 ?_
      have l2 := ZB.made l.2 (c : Int) rd (z_bld (fun j => I (34 + 2 * t + 1) j * x % rd) (I 6) 0 c)
      obtain ⟨F1, hF1⟩ : ∃ F1, F1 = z_u2 (z_u2 (z_u2 F 2 11 0) 5 1 (c : Int)) 5 2 rd := ⟨_, rfl⟩
      obtain ⟨I1, hI1⟩ : ∃ I1, I1 = z_up I 6 (z_bld (fun j => I (34 + 2 * t + 1) j * x % rd) (I 6) 0 c) := ⟨_, rfl⟩
      rw [show z_up I (5 + 1) (z_bld (fun j => I (34 + 2 * t + 1) j * x % rd) (I (5 + 1)) 0 c) = I1 from hI1.symm, ← hF1]
      rw [← hF1, ← hI1] at l2
      have l3 := ZB.cpy (t := u) (c := c) (o := 5) (rd := rd) (v := z_srt (fun j => v j * x % rd) c) l2.2 hu (by rw [hF1, z_u2_nk _ _ _ _ (by omega), z_u2_same]) (by rw [hF1, z_u2_same]) (z_mul_row hrow hz) (by
        rw [hI1, show (5 + 1 : Nat) = 6 from rfl, z_up_same]
        exact (z_srt_bld hd' (I 6)).trans (z_srt_cong (fun j hj => by rw [hag j hj]) hd))
      repeat (first | refine zw_t rfl rfl ?_ | refine zw_jump rfl rfl ?_ | refine zw_getI rfl rfl (by assumption) ?_ | refine zw_ialn rfl (by assumption) (by omega) ?_ | refine zw_laln rfl (by assumption) (by omega) ?_ | refine zw_iastn rfl (by omega) (by assumption) (by omega) ?_ | refine zw_lastn rfl (by assumption) (by omega) ?_ | refine zw_iald0 rfl (by assumption) (by omega) ?_ | refine zw_lald0 rfl (by assumption) (by omega) ?_ | refine zw_aaln rfl (by assumption) rfl (by omega) ?_ | refine zw_getR rfl (by assumption) (by assumption) ?_ | refine zw_alen rfl (by assumption) rfl ?_ | refine zw_iald rfl (by assumption) (by omega) (by omega) ?_ | refine zw_iast rfl (by omega) (by assumption) (by omega) (by omega) ?_ | refine zw_putI rfl (by assumption) ?_ | refine zw_lald rfl (by assumption) (by omega) (by omega) ?_ | refine zw_last rfl (by assumption) (by omega) (by omega) ?_ | refine zw_iadd rfl (by omega) (by omega) ?_ | refine zw_isub rfl (by omega) (by omega) ?_ | refine zw_iinc rfl rfl rfl (by omega) (by omega) ?_)
      rw [hu4]
      repeat (first | refine zw_t rfl rfl ?_ | refine zw_jump rfl rfl ?_ | refine zw_getI rfl rfl (by assumption) ?_ | refine zw_ialn rfl (by assumption) (by omega) ?_ | refine zw_laln rfl (by assumption) (by omega) ?_ | refine zw_iastn rfl (by omega) (by assumption) (by omega) ?_ | refine zw_lastn rfl (by assumption) (by omega) ?_ | refine zw_iald0 rfl (by assumption) (by omega) ?_ | refine zw_lald0 rfl (by assumption) (by omega) ?_ | refine zw_aaln rfl (by assumption) rfl (by omega) ?_ | refine zw_getR rfl (by assumption) (by assumption) ?_ | refine zw_alen rfl (by assumption) rfl ?_ | refine zw_iald rfl (by assumption) (by omega) (by omega) ?_ | refine zw_iast rfl (by omega) (by assumption) (by omega) (by omega) ?_ | refine zw_putI rfl (by assumption) ?_ | refine zw_lald rfl (by assumption) (by omega) (by omega) ?_ | refine zw_last rfl (by assumption) (by omega) (by omega) ?_ | refine zw_iadd rfl (by omega) (by omega) ?_ | refine zw_isub rfl (by omega) (by omega) ?_ | refine zw_iinc rfl rfl rfl (by omega) (by omega) ?_)
      refine zw_callv rfl rfl rfl rfl rfl rfl (by assumption) ?_
      refine c_copy huu0 hm0 (by omega) ?_
      repeat (first | refine zw_t rfl rfl ?_ | refine zw_jump rfl rfl ?_ | refine zw_getI rfl rfl (by assumption) ?_ | refine zw_ialn rfl (by assumption) (by omega) ?_ | refine zw_laln rfl (by assumption) (by omega) ?_ | refine zw_iastn rfl (by omega) (by assumption) (by omega) ?_ | refine zw_lastn rfl (by assumption) (by omega) ?_ | refine zw_iald0 rfl (by assumption) (by omega) ?_ | refine zw_lald0 rfl (by assumption) (by omega) ?_ | refine zw_aaln rfl (by assumption) rfl (by omega) ?_ | refine zw_getR rfl (by assumption) (by assumption) ?_ | refine zw_alen rfl (by assumption) rfl ?_ | refine zw_iald rfl (by assumption) (by omega) (by omega) ?_ | refine zw_iast rfl (by omega) (by assumption) (by omega) (by omega) ?_ | refine zw_putI rfl (by assumption) ?_ | refine zw_lald rfl (by assumption) (by omega) (by omega) ?_ | refine zw_last rfl (by assumption) (by omega) (by omega) ?_ | refine zw_iadd rfl (by omega) (by omega) ?_ | refine zw_isub rfl (by omega) (by omega) ?_ | refine zw_iinc rfl rfl rfl (by omega) (by omega) ?_)
      exact zw_zret rfl (Or.inr rfl) (K _ _ _ ((l.1.trans l2.1).trans l3.1) l3.2)
    · rw [if_neg hz] at K
      repeat (refine zw_ne 25 rfl ?_; first | refine zw_t rfl rfl ?_ | refine zw_jump rfl rfl ?_ | refine zw_getI rfl rfl (by assumption) ?_ | refine zw_ialn rfl (by assumption) (by omega) ?_ | refine zw_laln rfl (by assumption) (by omega) ?_ | refine zw_iastn rfl (by omega) (by assumption) (by omega) ?_ | refine zw_lastn rfl (by assumption) (by omega) ?_ | refine zw_iald0 rfl (by assumption) (by omega) ?_ | refine zw_lald0 rfl (by assumption) (by omega) ?_ | refine zw_aaln rfl (by assumption) rfl (by omega) ?_ | refine zw_getR rfl (by assumption) (by assumption) ?_ | refine zw_alen rfl (by assumption) rfl ?_ | refine zw_iald rfl (by assumption) (by omega) (by omega) ?_ | refine zw_iast rfl (by omega) (by assumption) (by omega) (by omega) ?_ | refine zw_putI rfl (by assumption) ?_ | refine zw_lald rfl (by assumption) (by omega) (by omega) ?_ | refine zw_last rfl (by assumption) (by omega) (by omega) ?_ | refine zw_iadd rfl (by omega) (by omega) ?_ | refine zw_isub rfl (by omega) (by omega) ?_ | refine zw_iinc rfl rfl rfl (by omega) (by omega) ?_)
      exact no _ hz (K _ _ _ (z_refused h _).1 (z_refused h _).2)
  · rw [if_neg hf] at K
    repeat (first | refine zw_t rfl rfl ?_ | refine zw_jump rfl rfl ?_ | refine zw_getI rfl rfl (by assumption) ?_ | refine zw_ialn rfl (by assumption) (by omega) ?_ | refine zw_laln rfl (by assumption) (by omega) ?_ | refine zw_iastn rfl (by omega) (by assumption) (by omega) ?_ | refine zw_lastn rfl (by assumption) (by omega) ?_ | refine zw_iald0 rfl (by assumption) (by omega) ?_ | refine zw_lald0 rfl (by assumption) (by omega) ?_ | refine zw_aaln rfl (by assumption) rfl (by omega) ?_ | refine zw_getR rfl (by assumption) (by assumption) ?_ | refine zw_alen rfl (by assumption) rfl ?_ | refine zw_iald rfl (by assumption) (by omega) (by omega) ?_ | refine zw_iast rfl (by omega) (by assumption) (by omega) (by omega) ?_ | refine zw_putI rfl (by assumption) ?_ | refine zw_lald rfl (by assumption) (by omega) (by omega) ?_ | refine zw_last rfl (by assumption) (by omega) (by omega) ?_ | refine zw_iadd rfl (by omega) (by omega) ?_ | refine zw_isub rfl (by omega) (by omega) ?_ | refine zw_iinc rfl rfl rfl (by omega) (by omega) ?_)
    refine zw_if_ne_t rfl hf ?_
    exact no _ hf (K _ _ _ (z_refused h _).1 (z_refused h _).2)
end ZBench8
