/-! THE LAW: the loop -/
section ZLawD
variable {d n : Nat} {f : Nat → Int}
def ZEnd (r : Option ZV) (h' : ZH) : Prop := r = some (.inl 1) ∧ h'.1.2.2.1 ≤ 20002 ∧ h'.1.2.2.2 ≤ 2000000
theorem z_b2 {a b t : Nat} (h : a ≤ b + 3072) (h1 : b ≤ 20000 + 3072 * t) : a ≤ 20000 + 3072 * (t + 1) := by
  rw [Nat.mul_add, ← Nat.add_assoc]
  exact Nat.le_trans h (Nat.add_le_add_right h1 3072)
theorem l_loop (hn : n ≤ 2560) : ∀ (c t : Nat) (A : ZA) (k : ZK) (F I : Nat → Nat → Int) (L : Nat → Nat → Int64) (R : Nat → Nat → Option Nat), t + c = 513 → ZJ A n f k F I L R → k.2.2.1 ≤ 95 + 6 * t → k.2.2.2 ≤ 20000 + 3072 * t → ZW (d + 40) 229 18 [some (.inr (.inr (some 0))), some (.inr (.inr (some 2))), some (.inr (.inr (some 79))), some (.inl ((5 * t : Nat) : Int))] [] (k, F, I, L, R) ZEnd := by
  intro c
  induction c with
  | zero =>
    intro t A k F I L R htc h hc hs
    have hT := h.2.2.2.1
    repeat (first | refine zw_t rfl rfl ?_ | refine zw_jump rfl rfl ?_ | refine zw_getI rfl rfl (by assumption) ?_ | refine zw_ialn rfl (by assumption) (by omega) ?_ | refine zw_laln rfl (by assumption) (by omega) ?_ | refine zw_iastn rfl (by omega) (by assumption) (by omega) ?_ | refine zw_lastn rfl (by assumption) (by omega) ?_ | refine zw_iald0 rfl (by assumption) (by omega) ?_ | refine zw_lald0 rfl (by assumption) (by omega) ?_ | refine zw_aaln rfl (by assumption) rfl (by omega) ?_ | refine zw_getR rfl (by assumption) (by assumption) ?_ | refine zw_alen rfl (by assumption) rfl ?_ | refine zw_iald rfl (by assumption) (by omega) (by omega) ?_ | refine zw_iast rfl (by omega) (by assumption) (by omega) (by omega) ?_ | refine zw_putI rfl (by assumption) ?_ | refine zw_lald rfl (by assumption) (by omega) (by omega) ?_ | refine zw_last rfl (by assumption) (by omega) (by omega) ?_ | refine zw_iadd rfl (by omega) (by omega) ?_ | refine zw_isub rfl (by omega) (by omega) ?_ | refine zw_iinc rfl rfl rfl (by omega) (by omega) ?_ | refine zw_imul rfl (by omega) (by omega) ?_)
    refine zw_icmp_gt_t rfl (by omega) ?_
    repeat (first | refine zw_t rfl rfl ?_ | refine zw_jump rfl rfl ?_ | refine zw_getI rfl rfl (by assumption) ?_ | refine zw_ialn rfl (by assumption) (by omega) ?_ | refine zw_laln rfl (by assumption) (by omega) ?_ | refine zw_iastn rfl (by omega) (by assumption) (by omega) ?_ | refine zw_lastn rfl (by assumption) (by omega) ?_ | refine zw_iald0 rfl (by assumption) (by omega) ?_ | refine zw_lald0 rfl (by assumption) (by omega) ?_ | refine zw_aaln rfl (by assumption) rfl (by omega) ?_ | refine zw_getR rfl (by assumption) (by assumption) ?_ | refine zw_alen rfl (by assumption) rfl ?_ | refine zw_iald rfl (by assumption) (by omega) (by omega) ?_ | refine zw_iast rfl (by omega) (by assumption) (by omega) (by omega) ?_ | refine zw_putI rfl (by assumption) ?_ | refine zw_lald rfl (by assumption) (by omega) (by omega) ?_ | refine zw_last rfl (by assumption) (by omega) (by omega) ?_ | refine zw_iadd rfl (by omega) (by omega) ?_ | refine zw_isub rfl (by omega) (by omega) ?_ | refine zw_iinc rfl rfl rfl (by omega) (by omega) ?_ | refine zw_imul rfl (by omega) (by omega) ?_)
    exact zw_zret rfl (Or.inr rfl) ⟨rfl, by show k.2.2.1 ≤ _; omega, by show k.2.2.2 ≤ _; omega⟩
  | succ c ih =>
    intro t A k F I L R htc h hc hs
    have hT := h.2.2.2.1
    repeat (first | refine zw_t rfl rfl ?_ | refine zw_jump rfl rfl ?_ | refine zw_getI rfl rfl (by assumption) ?_ | refine zw_ialn rfl (by assumption) (by omega) ?_ | refine zw_laln rfl (by assumption) (by omega) ?_ | refine zw_iastn rfl (by omega) (by assumption) (by omega) ?_ | refine zw_lastn rfl (by assumption) (by omega) ?_ | refine zw_iald0 rfl (by assumption) (by omega) ?_ | refine zw_lald0 rfl (by assumption) (by omega) ?_ | refine zw_aaln rfl (by assumption) rfl (by omega) ?_ | refine zw_getR rfl (by assumption) (by assumption) ?_ | refine zw_alen rfl (by assumption) rfl ?_ | refine zw_iald rfl (by assumption) (by omega) (by omega) ?_ | refine zw_iast rfl (by omega) (by assumption) (by omega) (by omega) ?_ | refine zw_putI rfl (by assumption) ?_ | refine zw_lald rfl (by assumption) (by omega) (by omega) ?_ | refine zw_last rfl (by assumption) (by omega) (by omega) ?_ | refine zw_iadd rfl (by omega) (by omega) ?_ | refine zw_isub rfl (by omega) (by omega) ?_ | refine zw_iinc rfl rfl rfl (by omega) (by omega) ?_ | refine zw_imul rfl (by omega) (by omega) ?_)
    by_cases he : 5 * t + 5 ≤ n
    · refine zw_icmp_gt_f rfl (by omega) ?_
      have nx : ZNx (d + 40) n (5 * t) f k ZEnd := by
        intro A' k' F' I' L' R' h' g
        have g1 : k'.2.2.1 ≤ k.2.2.1 + 6 := g.2.2.1
        have g2 : k'.2.2.2 ≤ k.2.2.2 + 3072 := g.2.2.2
        have b1 : k'.2.2.1 ≤ 95 + 6 * (t + 1) := by omega
        have b2 : k'.2.2.2 ≤ 20000 + 3072 * (t + 1) := z_b2 g2 hs
        refine zw_iinc rfl rfl rfl (by omega) (by omega) ?_
        refine zw_goto rfl ?_
        have e : ((5 * t : Nat) : Int) + 5 = ((5 * (t + 1) : Nat) : Int) := by omega
        have w := ih (t + 1) A' k' F' I' L' R' (by omega) h' b1 b2
        rw [← e] at w
        exact w
      repeat (first | refine zw_t rfl rfl ?_ | refine zw_jump rfl rfl ?_ | refine zw_getI rfl rfl (by assumption) ?_ | refine zw_ialn rfl (by assumption) (by omega) ?_ | refine zw_laln rfl (by assumption) (by omega) ?_ | refine zw_iastn rfl (by omega) (by assumption) (by omega) ?_ | refine zw_lastn rfl (by assumption) (by omega) ?_ | refine zw_iald0 rfl (by assumption) (by omega) ?_ | refine zw_lald0 rfl (by assumption) (by omega) ?_ | refine zw_aaln rfl (by assumption) rfl (by omega) ?_ | refine zw_getR rfl (by assumption) (by assumption) ?_ | refine zw_alen rfl (by assumption) rfl ?_ | refine zw_iald rfl (by assumption) (by omega) (by omega) ?_ | refine zw_iast rfl (by omega) (by assumption) (by omega) (by omega) ?_ | refine zw_putI rfl (by assumption) ?_ | refine zw_lald rfl (by assumption) (by omega) (by omega) ?_ | refine zw_last rfl (by assumption) (by omega) (by omega) ?_ | refine zw_iadd rfl (by omega) (by omega) ?_ | refine zw_isub rfl (by omega) (by omega) ?_ | refine zw_iinc rfl rfl rfl (by omega) (by omega) ?_ | refine zw_imul rfl (by omega) (by omega) ?_)
      refine zw_iand rfl (by decide) ?_
      obtain ⟨x, hx⟩ : ∃ x, x = I 0 (5 * t) % (63 + 1) := ⟨_, rfl⟩
      rw [← hx]
      have h0 : 0 ≤ x := by omega
      by_cases hd : 33 ≤ x
      · refine zw_sw rfl (p' := 1310) ?_ (nx A k F I L R h (ZG.refl _ _ _))
        unfold z_swt
        rw [if_pos (Or.inr (by omega))]
        rfl
      · have hc : x = 0 ∨ x = 1 ∨ x = 2 ∨ x = 3 ∨ x = 4 ∨ x = 5 ∨ x = 6 ∨ x = 7 ∨ x = 8 ∨ x = 9 ∨ x = 10 ∨ x = 11 ∨ x = 12 ∨ x = 13 ∨ x = 14 ∨ x = 15 ∨ x = 16 ∨ x = 17 ∨ x = 18 ∨ x = 19 ∨ x = 20 ∨ x = 21 ∨ x = 22 ∨ x = 23 ∨ x = 24 ∨ x = 25 ∨ x = 26 ∨ x = 27 ∨ x = 28 ∨ x = 29 ∨ x = 30 ∨ x = 31 ∨ x = 32 := by omega
        rcases hc with rfl | rfl | rfl | rfl | rfl | rfl | rfl | rfl | rfl | rfl | rfl | rfl | rfl | rfl | rfl | rfl | rfl | rfl | rfl | rfl | rfl | rfl | rfl | rfl | rfl | rfl | rfl | rfl | rfl | rfl | rfl | rfl | rfl
        · exact zw_sw rfl (p' := 180) rfl (l_status h hn he nx)
        · exact zw_sw rfl (p' := 193) rfl (l_stick h hn he nx)
        · exact zw_sw rfl (p' := 236) rfl (l_drop h hn he nx)
        · exact zw_sw rfl (p' := 259) rfl (l_put h hn he nx)
        · exact zw_sw rfl (p' := 332) rfl (l_number h hn he nx)
        · exact zw_sw rfl (p' := 366) rfl (l_cut h hn he nx)
        · exact zw_sw rfl (p' := 399) rfl (l_fail h hn he nx)
        · exact zw_sw rfl (p' := 412) rfl (l_ruler h hn he nx)
        · exact zw_sw rfl (p' := 455) rfl (l_ring h hn he nx)
        · exact zw_sw rfl (p' := 488) rfl (l_tell h hn he nx)
        · exact zw_sw rfl (p' := 521) rfl (l_mark h hn he nx)
        · exact zw_sw rfl (p' := 554) rfl (l_measures h hn he nx)
        · exact zw_sw rfl (p' := 587) rfl (l_lacks h hn he nx)
        · exact zw_sw rfl (p' := 610) rfl (l_twice h hn he nx)
        · exact zw_sw rfl (p' := 633) rfl (l_add h hn he nx)
        · exact zw_sw rfl (p' := 666) rfl (l_take h hn he nx)
        · exact zw_sw rfl (p' := 699) rfl (l_grow h hn he nx)
        · exact zw_sw rfl (p' := 722) rfl (l_turn h hn he nx)
        · exact zw_sw rfl (p' := 755) rfl (l_form h hn he nx)
        · exact zw_sw rfl (p' := 788) rfl (l_alike h hn he nx)
        · exact zw_sw rfl (p' := 821) rfl (l_factor h hn he nx)
        · exact zw_sw rfl (p' := 864) rfl (l_open h hn he nx)
        · exact zw_sw rfl (p' := 917) rfl (l_shortest h hn he nx)
        · exact zw_sw rfl (p' := 940) rfl (l_many h hn he nx)
        · exact zw_sw rfl (p' := 963) rfl (l_best h hn he nx)
        · exact zw_sw rfl (p' := 1006) rfl (l_fewest h hn he nx)
        · exact zw_sw rfl (p' := 1029) rfl (l_lean h hn he nx)
        · exact zw_sw rfl (p' := 1072) rfl (l_rings h hn he nx)
        · exact zw_sw rfl (p' := 1125) rfl (l_cases h hn he nx)
        · exact zw_sw rfl (p' := 1168) rfl (l_apart h hn he nx)
        · exact zw_sw rfl (p' := 1191) rfl (l_gang h hn he nx)
        · exact zw_sw rfl (p' := 1244) rfl (l_lines h hn he nx)
        · exact zw_sw rfl (p' := 1277) rfl (l_powers h hn he nx)
    · refine zw_icmp_gt_t rfl (by omega) ?_
      repeat (first | refine zw_t rfl rfl ?_ | refine zw_jump rfl rfl ?_ | refine zw_getI rfl rfl (by assumption) ?_ | refine zw_ialn rfl (by assumption) (by omega) ?_ | refine zw_laln rfl (by assumption) (by omega) ?_ | refine zw_iastn rfl (by omega) (by assumption) (by omega) ?_ | refine zw_lastn rfl (by assumption) (by omega) ?_ | refine zw_iald0 rfl (by assumption) (by omega) ?_ | refine zw_lald0 rfl (by assumption) (by omega) ?_ | refine zw_aaln rfl (by assumption) rfl (by omega) ?_ | refine zw_getR rfl (by assumption) (by assumption) ?_ | refine zw_alen rfl (by assumption) rfl ?_ | refine zw_iald rfl (by assumption) (by omega) (by omega) ?_ | refine zw_iast rfl (by omega) (by assumption) (by omega) (by omega) ?_ | refine zw_putI rfl (by assumption) ?_ | refine zw_lald rfl (by assumption) (by omega) (by omega) ?_ | refine zw_last rfl (by assumption) (by omega) (by omega) ?_ | refine zw_iadd rfl (by omega) (by omega) ?_ | refine zw_isub rfl (by omega) (by omega) ?_ | refine zw_iinc rfl rfl rfl (by omega) (by omega) ?_ | refine zw_imul rfl (by omega) (by omega) ?_)
      exact zw_zret rfl (Or.inr rfl) ⟨rfl, by show k.2.2.1 ≤ _; omega, by show k.2.2.2 ≤ _; omega⟩
end ZLawD
