/-! RINGS: the call -/
noncomputable def sp_rings (A : ZA) (n m i to : Int) : Int × ZA := if 0 ≤ to ∧ to < 16 then (if 2 ≤ n ∧ n ≤ 40 ∧ 1 ≤ m ∧ m ≤ 6 then sp_settle A (z_rgb n.toNat m.toNat) i n to else (-1, A.1, A.2.1, 5)) else (-1, A.1, A.2.1, 2)
section ZRing2
variable {A : ZA} {d : Nat} {k : ZK} {F I : Nat → Nat → Int} {L : Nat → Nat → Int64} {R : Nat → Nat → Option Nat} {Q : Option ZV → ZH → Prop} {n m : Nat}
theorem z_found2 {F1 I1 : Nat → Nat → Int} {L1 : Nat → Nat → Int64} {l : Nat → Int64} {fl : List Nat} (h : ZB A k F I L R) (hx : 95 ≤ k.2.2.1) (hF : ∀ x, (x = 0 ∨ x = 2 ∨ (22 ≤ x ∧ x < 66) ∨ (79 ≤ x ∧ x < 95)) → F1 x = F x) (hI : ∀ x, (x = 0 ∨ x = 1 ∨ x = 8 ∨ x = 16 ∨ x = 17 ∨ x = 21 ∨ (35 ≤ x ∧ x < 66) ∨ (79 ≤ x ∧ x < 95)) → I1 x = I x) (hfo : ZFoI F1 I1 9) (hL : ∀ x, x ≠ 67 → L1 x = L x) (hl : ∀ j, j < fl.length → l j = Int64.ofNat (fl.getD j 0)) :
    ZKp F I L (z_up F1 k.2.2.1 (fun _ => 0)) (z_up I1 k.2.2.1 (fun _ => 0)) (z_up L1 k.2.2.1 l) ∧ ZB A (z_bk k fl.length) (z_up F1 k.2.2.1 (fun _ => 0)) (z_up I1 k.2.2.1 (fun _ => 0)) (z_up L1 k.2.2.1 l) (z_up R k.2.2.1 (fun _ => none)) ∧ ZLst (z_bk k fl.length) (z_up L1 k.2.2.1 l) k.2.2.1 (fl.map Int64.ofNat) := by
  refine ⟨fun x h1 h2 => ⟨?_, ?_, ?_⟩, ?_, hx, Nat.lt_succ_self _, ?_, fun j hj => ?_⟩
  · rw [z_up_ne _ _ (by omega)]; exact hF x (by omega)
  · rw [z_up_ne _ _ (by omega)]; exact hI x (by omega)
  · rw [z_up_ne _ _ (by omega)]; exact hL x (by omega)
  · refine h.grow hx (ZG.bk k fl.length) (fun x q => ?_) (fun x q => ?_) (fun x q1 q2 => ?_) (fun x q => ?_) ?_ ?_
    · rw [z_up_ne _ _ (by omega)]; exact hF x (by omega)
    · rw [z_up_ne _ _ (by omega)]; exact hI x (by omega)
    · rw [z_up_ne _ _ (by omega)]; exact hL x (by omega)
    · rw [z_up_ne _ _ (by omega)]
    · obtain ⟨n, q1, q2, q3⟩ := hfo
      unfold ZFoI
      rw [z_up_ne _ _ (by omega), z_up_ne _ _ (by omega)]
      exact ⟨n, q1, q2, q3⟩
    · refine h.2.2.2.2.2.1.grow (ZG.bk k fl.length) (fun x q1 q2 => ?_) (fun x q => ?_) (fun x q => ?_)
      · rw [z_up_ne _ _ (by omega)]; exact hL x (by omega)
      · rw [z_up_ne _ _ (by omega)]; exact hI x (by omega)
      · rw [z_up_ne _ _ (by omega)]
  · rw [List.length_map]; exact z_up_same _ _ _
  · rw [List.length_map] at hj
    rw [z_up_same, z_map_getD _ _ hj]
    exact hl j hj
theorem c_ringsOf (h : ZB A k F I L R) (hx : 95 ≤ k.2.2.1) (hn : 2 ≤ n ∧ n ≤ 40) (hm : 1 ≤ m ∧ m ≤ 6)
    (K : ∀ q k' F' I' L' R', ZG k k' 1 512 → ZKp F I L F' I' L' → ZB A k' F' I' L' R' → ZLst k' L' q ((z_rgb n m).map Int64.ofNat) → Q (some (.inr (.inr (some q)))) (k', F', I', L', R')) : ZC (d + 20) 54 [.inr (.inr (some 72)), .inl (n : Int), .inl (m : Int)] (k, F, I, L, R) Q := by
  have hlen := z_rgb_len hn hm
  have ez : z_rng (n * 7 + m) = (z_rgb n m).map Int64.ofNat := by
    unfold z_rng
    rw [show (n * 7 + m) / 7 = n by omega, show (n * 7 + m) % 7 = m by omega]
  have fin : ∀ (q : Nat) (k' : ZK) (F' I' : Nat → Nat → Int) (L' : Nat → Nat → Int64) (R' : Nat → Nat → Option Nat), ZG k k' 1 512 → ZKp F I L F' I' L' → ZB A k' F' I' L' R' → R' 75 (n * 7 + m) = some q → ZW (d + 19) 54 70 [some (.inr (.inr (some 72))), some (.inl (n : Int)), some (.inl (m : Int)), some (.inl ((n * 7 + m : Nat) : Int))] [] (k', F', I', L', R') Q := by
    intro q k' F' I' L' R' g kp hB hq
    obtain ⟨_, _, _, _, _, _, _, _, _, ⟨s1, s2, s3, s4, s5, s6, s7⟩, _⟩ := hB.2.1
    repeat (first | refine zw_t rfl rfl ?_ | refine zw_jump rfl rfl ?_ | refine zw_getI rfl rfl (by assumption) ?_ | refine zw_ialn rfl (by assumption) (by omega) ?_ | refine zw_laln rfl (by assumption) (by omega) ?_ | refine zw_iastn rfl (by omega) (by assumption) (by omega) ?_ | refine zw_lastn rfl (by assumption) (by omega) ?_ | refine zw_iald0 rfl (by assumption) (by omega) ?_ | refine zw_lald0 rfl (by assumption) (by omega) ?_ | refine zw_aaln rfl (by assumption) rfl (by omega) ?_ | refine zw_getR rfl (by assumption) (by assumption) ?_ | refine zw_alen rfl (by assumption) rfl ?_ | refine zw_iald rfl (by assumption) (by omega) (by omega) ?_ | refine zw_iast rfl (by omega) (by assumption) (by omega) (by omega) ?_ | refine zw_putI rfl (by assumption) ?_ | refine zw_lald rfl (by assumption) (by omega) (by omega) ?_ | refine zw_last rfl (by assumption) (by omega) (by omega) ?_ | refine zw_iadd rfl (by omega) (by omega) ?_ | refine zw_isub rfl (by omega) (by omega) ?_ | refine zw_iinc rfl rfl rfl (by omega) (by omega) ?_)
    rw [hq]
    refine zw_aret rfl (K q k' F' I' L' R' g kp hB ?_)
    rw [← ez]
    exact hB.2.2.2.2.2.1.2.2.2.2.1 (n * 7 + m) q (by omega) hq
  obtain ⟨_, ⟨_, _, hf⟩, _, _, _, _, ⟨t1, t2, t3⟩, _, _, ⟨s1, s2, s3, s4, s5, s6, s7⟩, _⟩ := h.2.1
  refine ze_RingSearch_ringsOf ?_
  repeat (first | refine zw_t rfl rfl ?_ | refine zw_jump rfl rfl ?_ | refine zw_getI rfl rfl (by assumption) ?_ | refine zw_ialn rfl (by assumption) (by omega) ?_ | refine zw_laln rfl (by assumption) (by omega) ?_ | refine zw_iastn rfl (by omega) (by assumption) (by omega) ?_ | refine zw_lastn rfl (by assumption) (by omega) ?_ | refine zw_iald0 rfl (by assumption) (by omega) ?_ | refine zw_lald0 rfl (by assumption) (by omega) ?_ | refine zw_aaln rfl (by assumption) rfl (by omega) ?_ | refine zw_getR rfl (by assumption) (by assumption) ?_ | refine zw_alen rfl (by assumption) rfl ?_ | refine zw_iald rfl (by assumption) (by omega) (by omega) ?_ | refine zw_iast rfl (by omega) (by assumption) (by omega) (by omega) ?_ | refine zw_putI rfl (by assumption) ?_ | refine zw_lald rfl (by assumption) (by omega) (by omega) ?_ | refine zw_last rfl (by assumption) (by omega) (by omega) ?_ | refine zw_iadd rfl (by omega) (by omega) ?_ | refine zw_isub rfl (by omega) (by omega) ?_ | refine zw_iinc rfl rfl rfl (by omega) (by omega) ?_)
  refine zw_calls rfl rfl rfl rfl rfl rfl ?_
  refine c_kn_RingSearch ?_
  rw [if_pos (by omega)]
  refine zw_if_ne_t rfl (by decide) ?_
  repeat (first | refine zw_t rfl rfl ?_ | refine zw_jump rfl rfl ?_ | refine zw_getI rfl rfl (by assumption) ?_ | refine zw_ialn rfl (by assumption) (by omega) ?_ | refine zw_laln rfl (by assumption) (by omega) ?_ | refine zw_iastn rfl (by omega) (by assumption) (by omega) ?_ | refine zw_lastn rfl (by assumption) (by omega) ?_ | refine zw_iald0 rfl (by assumption) (by omega) ?_ | refine zw_lald0 rfl (by assumption) (by omega) ?_ | refine zw_aaln rfl (by assumption) rfl (by omega) ?_ | refine zw_getR rfl (by assumption) (by assumption) ?_ | refine zw_alen rfl (by assumption) rfl ?_ | refine zw_iald rfl (by assumption) (by omega) (by omega) ?_ | refine zw_iast rfl (by omega) (by assumption) (by omega) (by omega) ?_ | refine zw_putI rfl (by assumption) ?_ | refine zw_lald rfl (by assumption) (by omega) (by omega) ?_ | refine zw_last rfl (by assumption) (by omega) (by omega) ?_ | refine zw_iadd rfl (by omega) (by omega) ?_ | refine zw_isub rfl (by omega) (by omega) ?_ | refine zw_iinc rfl rfl rfl (by omega) (by omega) ?_)
  refine zw_imul rfl (by omega) (by omega) ?_
  repeat (first | refine zw_t rfl rfl ?_ | refine zw_jump rfl rfl ?_ | refine zw_getI rfl rfl (by assumption) ?_ | refine zw_ialn rfl (by assumption) (by omega) ?_ | refine zw_laln rfl (by assumption) (by omega) ?_ | refine zw_iastn rfl (by omega) (by assumption) (by omega) ?_ | refine zw_lastn rfl (by assumption) (by omega) ?_ | refine zw_iald0 rfl (by assumption) (by omega) ?_ | refine zw_lald0 rfl (by assumption) (by omega) ?_ | refine zw_aaln rfl (by assumption) rfl (by omega) ?_ | refine zw_getR rfl (by assumption) (by assumption) ?_ | refine zw_alen rfl (by assumption) rfl ?_ | refine zw_iald rfl (by assumption) (by omega) (by omega) ?_ | refine zw_iast rfl (by omega) (by assumption) (by omega) (by omega) ?_ | refine zw_putI rfl (by assumption) ?_ | refine zw_lald rfl (by assumption) (by omega) (by omega) ?_ | refine zw_last rfl (by assumption) (by omega) (by omega) ?_ | refine zw_iadd rfl (by omega) (by omega) ?_ | refine zw_isub rfl (by omega) (by omega) ?_ | refine zw_iinc rfl rfl rfl (by omega) (by omega) ?_)
  rw [show (n : Int) * 7 + (m : Int) = ((n * 7 + m : Nat) : Int) by omega]
  repeat (first | refine zw_t rfl rfl ?_ | refine zw_jump rfl rfl ?_ | refine zw_getI rfl rfl (by assumption) ?_ | refine zw_ialn rfl (by assumption) (by omega) ?_ | refine zw_laln rfl (by assumption) (by omega) ?_ | refine zw_iastn rfl (by omega) (by assumption) (by omega) ?_ | refine zw_lastn rfl (by assumption) (by omega) ?_ | refine zw_iald0 rfl (by assumption) (by omega) ?_ | refine zw_lald0 rfl (by assumption) (by omega) ?_ | refine zw_aaln rfl (by assumption) rfl (by omega) ?_ | refine zw_getR rfl (by assumption) (by assumption) ?_ | refine zw_alen rfl (by assumption) rfl ?_ | refine zw_iald rfl (by assumption) (by omega) (by omega) ?_ | refine zw_iast rfl (by omega) (by assumption) (by omega) (by omega) ?_ | refine zw_putI rfl (by assumption) ?_ | refine zw_lald rfl (by assumption) (by omega) (by omega) ?_ | refine zw_last rfl (by assumption) (by omega) (by omega) ?_ | refine zw_iadd rfl (by omega) (by omega) ?_ | refine zw_isub rfl (by omega) (by omega) ?_ | refine zw_iinc rfl rfl rfl (by omega) (by omega) ?_)
  cases hq : R 75 (n * 7 + m) with
  | some q =>
    refine zw_nn_some rfl ?_
    exact fin q k F I L R (ZG.refl _ _ _) (ZKp.refl _ _ _) h hq
  | none =>
    refine zw_nn_none rfl ?_
    repeat (first | refine zw_t rfl rfl ?_ | refine zw_jump rfl rfl ?_ | refine zw_getI rfl rfl (by assumption) ?_ | refine zw_ialn rfl (by assumption) (by omega) ?_ | refine zw_laln rfl (by assumption) (by omega) ?_ | refine zw_iastn rfl (by omega) (by assumption) (by omega) ?_ | refine zw_lastn rfl (by assumption) (by omega) ?_ | refine zw_iald0 rfl (by assumption) (by omega) ?_ | refine zw_lald0 rfl (by assumption) (by omega) ?_ | refine zw_aaln rfl (by assumption) rfl (by omega) ?_ | refine zw_getR rfl (by assumption) (by assumption) ?_ | refine zw_alen rfl (by assumption) rfl ?_ | refine zw_iald rfl (by assumption) (by omega) (by omega) ?_ | refine zw_iast rfl (by omega) (by assumption) (by omega) (by omega) ?_ | refine zw_putI rfl (by assumption) ?_ | refine zw_lald rfl (by assumption) (by omega) (by omega) ?_ | refine zw_last rfl (by assumption) (by omega) (by omega) ?_ | refine zw_iadd rfl (by omega) (by omega) ?_ | refine zw_isub rfl (by omega) (by omega) ?_ | refine zw_iinc rfl rfl rfl (by omega) (by omega) ?_)
    refine zw_callv rfl rfl rfl rfl rfl rfl (by assumption) ?_
    refine c_fclear t1 ?_
    obtain ⟨F1, hF1⟩ : ∃ F1, F1 = z_u2 (z_u2 F 72 4 (n : Int)) 66 1 0 := ⟨_, rfl⟩
    rw [← hF1]
    have f1 : F1 72 4 = (n : Int) := by rw [hF1, z_u2_na _ _ _ _ (by omega), z_u2_same]
    have f2 : F1 66 1 = 0 := by rw [hF1, z_u2_same]
    have f3 : ∀ x, x ≠ 66 → x ≠ 72 → F1 x = F x := fun x q1 q2 => by rw [hF1, z_u2_ad _ _ _ q1, z_u2_ad _ _ _ q2]
    have hfi : ZFoI F1 I 9 := by
      obtain ⟨u, q1, q2, q3⟩ := h.2.2.2.2.1
      unfold ZFoI
      rw [f3 9 (by omega) (by omega)]
      exact ⟨u, q1, q2, q3⟩
    repeat (first | refine zw_t rfl rfl ?_ | refine zw_jump rfl rfl ?_ | refine zw_getI rfl rfl (by assumption) ?_ | refine zw_ialn rfl (by assumption) (by omega) ?_ | refine zw_laln rfl (by assumption) (by omega) ?_ | refine zw_iastn rfl (by omega) (by assumption) (by omega) ?_ | refine zw_lastn rfl (by assumption) (by omega) ?_ | refine zw_iald0 rfl (by assumption) (by omega) ?_ | refine zw_lald0 rfl (by assumption) (by omega) ?_ | refine zw_aaln rfl (by assumption) rfl (by omega) ?_ | refine zw_getR rfl (by assumption) (by assumption) ?_ | refine zw_alen rfl (by assumption) rfl ?_ | refine zw_iald rfl (by assumption) (by omega) (by omega) ?_ | refine zw_iast rfl (by omega) (by assumption) (by omega) (by omega) ?_ | refine zw_putI rfl (by assumption) ?_ | refine zw_lald rfl (by assumption) (by omega) (by omega) ?_ | refine zw_last rfl (by assumption) (by omega) (by omega) ?_ | refine zw_iadd rfl (by omega) (by omega) ?_ | refine zw_isub rfl (by omega) (by omega) ?_ | refine zw_iinc rfl rfl rfl (by omega) (by omega) ?_)
    rw [f1]
    repeat (first | refine zw_t rfl rfl ?_ | refine zw_jump rfl rfl ?_ | refine zw_getI rfl rfl (by assumption) ?_ | refine zw_ialn rfl (by assumption) (by omega) ?_ | refine zw_laln rfl (by assumption) (by omega) ?_ | refine zw_iastn rfl (by omega) (by assumption) (by omega) ?_ | refine zw_lastn rfl (by assumption) (by omega) ?_ | refine zw_iald0 rfl (by assumption) (by omega) ?_ | refine zw_lald0 rfl (by assumption) (by omega) ?_ | refine zw_aaln rfl (by assumption) rfl (by omega) ?_ | refine zw_getR rfl (by assumption) (by assumption) ?_ | refine zw_alen rfl (by assumption) rfl ?_ | refine zw_iald rfl (by assumption) (by omega) (by omega) ?_ | refine zw_iast rfl (by omega) (by assumption) (by omega) (by omega) ?_ | refine zw_putI rfl (by assumption) ?_ | refine zw_lald rfl (by assumption) (by omega) (by omega) ?_ | refine zw_last rfl (by assumption) (by omega) (by omega) ?_ | refine zw_iadd rfl (by omega) (by omega) ?_ | refine zw_isub rfl (by omega) (by omega) ?_ | refine zw_iinc rfl rfl rfl (by omega) (by omega) ?_)
    refine zw_callv rfl rfl rfl rfl rfl rfl (by assumption) ?_
    refine zc_eqv (args' := [.inr (.inr (some 72)), .inr (.inl (Int64.ofNat 1)), .inl ((0 : Nat) : Int), .inl ((m - 1 : Nat) : Int), .inr (.inl (Int64.ofNat 1)), .inr (.inl (Int64.ofNat (1 <<< n))), .inr (.inl (Int64.ofNat 0))]) ?_ ?_
    · rw [← z_on_shl 1 n (by omega), show ((m - 1 : Nat) : Int) = (m : Int) - 1 by omega]
      rfl
    refine ZC.le (show d + (m - 1) + 5 ≤ _ by omega) ?_
    have ec : z_rp n (z_or n) (m - 1) 1 0 1 (1 <<< n) 0 = z_rgb n m := z_rg_eq hn (m - 1)
    refine c_rgx (n := n) hf s1 s2 s3 s4 s6 t1 t2 t3 hn (m - 1) d 1 0 1 (1 <<< n) 0 1 F1 I L [] _ f1 hfi (by omega) (by decide) (by decide) (z_one_lt (by omega)) (by decide) (z_gd1 (by omega)) (by omega) ⟨f2, fun j hj => by simp at hj⟩ (by rw [ec]; simp; exact hlen) (fun F' I' L' hr hi hfd => ?_)
    rw [List.nil_append, ec] at hfd
    repeat (first | refine zw_t rfl rfl ?_ | refine zw_jump rfl rfl ?_ | refine zw_getI rfl rfl (by assumption) ?_ | refine zw_ialn rfl (by assumption) (by omega) ?_ | refine zw_laln rfl (by assumption) (by omega) ?_ | refine zw_iastn rfl (by omega) (by assumption) (by omega) ?_ | refine zw_lastn rfl (by assumption) (by omega) ?_ | refine zw_iald0 rfl (by assumption) (by omega) ?_ | refine zw_lald0 rfl (by assumption) (by omega) ?_ | refine zw_aaln rfl (by assumption) rfl (by omega) ?_ | refine zw_getR rfl (by assumption) (by assumption) ?_ | refine zw_alen rfl (by assumption) rfl ?_ | refine zw_iald rfl (by assumption) (by omega) (by omega) ?_ | refine zw_iast rfl (by omega) (by assumption) (by omega) (by omega) ?_ | refine zw_putI rfl (by assumption) ?_ | refine zw_lald rfl (by assumption) (by omega) (by omega) ?_ | refine zw_last rfl (by assumption) (by omega) (by omega) ?_ | refine zw_iadd rfl (by omega) (by omega) ?_ | refine zw_isub rfl (by omega) (by omega) ?_ | refine zw_iinc rfl rfl rfl (by omega) (by omega) ?_)
    refine zw_callv rfl rfl rfl rfl rfl rfl (by assumption) ?_
    refine c_frow t1 t2 t3 hx hfd.1 hlen (fun l hl => ?_)
    have z := z_found2 (l := l) (F1 := F') (I1 := I') (L1 := L') h hx (fun x q => by rw [← f3 x (by omega) (by omega)]; funext j; exact hr.1 x j (by omega) (by omega) (by omega) (by omega) (by omega)) (fun x q => hr.2.1 x (by omega) (by omega) (by omega) (by omega)) hi hr.2.2 (fun j hj => (hl j hj).trans (hfd.2 j hj))
    have hk2 : (z_bk k (z_rgb n m).length).1 k.2.2.1 = (3, (z_rgb n m).length) := z_up_same _ _ _
    obtain ⟨z1, z2, z3⟩ := z
    obtain ⟨_, _, _, _, _, _, _, _, _, ⟨s1, s2, s3, s4, s5, s6, s7⟩, _⟩ := z2.2.1
    refine zw_aast rfl s7 rfl hk2 rfl (by omega) (by omega) ?_
    rw [Int.toNat_natCast]
    exact fin k.2.2.1 _ _ _ _ _ ((ZG.bk _ _).up (Nat.le_refl _) hlen) z1 (z2.keep (Or.inr (Or.inr (Or.inl rfl))) (fun q => by omega) (fun q => by omega) (fun _ => by rw [ez]; exact z3) (fun q => by omega)) (z_u2_same _ _ _ _)
theorem b_rings {n m i to : Int} (h : ZB A k F I L R) (hx : 95 ≤ k.2.2.1) (K : ∀ k' F' I' L' R', ZG k k' 1 512 → ZKp F I L F' I' L' → ZB (sp_rings A n m i to).2 k' F' I' L' R' → Q (some (.inl (sp_rings A n m i to).1)) (k', F', I', L', R')) : ZC (d + 25) 115 [.inr (.inr (some 2)), .inl n, .inl m, .inl i, .inl to] (k, F, I, L, R) Q := by
  obtain ⟨⟨a1, a2, a3, a4, a5, a6, a7, a8, a9, a10, a11, a12, a13, a14⟩, _, _, _, _, _, _, _, _, ⟨s1, s2, s3, s4, s5, s6, s7⟩, _⟩ := h.2.1
  refine ze_B_rings ?_
  unfold sp_rings at K
  repeat (first | refine zw_t rfl rfl ?_ | refine zw_jump rfl rfl ?_ | refine zw_getI rfl rfl (by assumption) ?_ | refine zw_ialn rfl (by assumption) (by omega) ?_ | refine zw_laln rfl (by assumption) (by omega) ?_ | refine zw_iastn rfl (by omega) (by assumption) (by omega) ?_ | refine zw_lastn rfl (by assumption) (by omega) ?_ | refine zw_iald0 rfl (by assumption) (by omega) ?_ | refine zw_lald0 rfl (by assumption) (by omega) ?_ | refine zw_aaln rfl (by assumption) rfl (by omega) ?_ | refine zw_getR rfl (by assumption) (by assumption) ?_ | refine zw_alen rfl (by assumption) rfl ?_ | refine zw_iald rfl (by assumption) (by omega) (by omega) ?_ | refine zw_iast rfl (by omega) (by assumption) (by omega) (by omega) ?_ | refine zw_putI rfl (by assumption) ?_ | refine zw_lald rfl (by assumption) (by omega) (by omega) ?_ | refine zw_last rfl (by assumption) (by omega) (by omega) ?_ | refine zw_iadd rfl (by omega) (by omega) ?_ | refine zw_isub rfl (by omega) (by omega) ?_ | refine zw_iinc rfl rfl rfl (by omega) (by omega) ?_)
  refine zw_calls rfl rfl rfl rfl rfl rfl ?_
  refine c_kn_RingSearch ?_
  repeat (first | refine zw_t rfl rfl ?_ | refine zw_jump rfl rfl ?_ | refine zw_getI rfl rfl (by assumption) ?_ | refine zw_ialn rfl (by assumption) (by omega) ?_ | refine zw_laln rfl (by assumption) (by omega) ?_ | refine zw_iastn rfl (by omega) (by assumption) (by omega) ?_ | refine zw_lastn rfl (by assumption) (by omega) ?_ | refine zw_iald0 rfl (by assumption) (by omega) ?_ | refine zw_lald0 rfl (by assumption) (by omega) ?_ | refine zw_aaln rfl (by assumption) rfl (by omega) ?_ | refine zw_getR rfl (by assumption) (by assumption) ?_ | refine zw_alen rfl (by assumption) rfl ?_ | refine zw_iald rfl (by assumption) (by omega) (by omega) ?_ | refine zw_iast rfl (by omega) (by assumption) (by omega) (by omega) ?_ | refine zw_putI rfl (by assumption) ?_ | refine zw_lald rfl (by assumption) (by omega) (by omega) ?_ | refine zw_last rfl (by assumption) (by omega) (by omega) ?_ | refine zw_iadd rfl (by omega) (by omega) ?_ | refine zw_isub rfl (by omega) (by omega) ?_ | refine zw_iinc rfl rfl rfl (by omega) (by omega) ?_)
  refine zw_calls rfl rfl rfl rfl rfl rfl ?_
  refine c_searchFault ?_
  have no : ∀ f : Int, f ≠ 0 → (∀ k' F' I' L' R', ZG k k' 1 512 → ZKp F I L F' I' L' → ZB (A.1, A.2.1, f) k' F' I' L' R' → Q (some (.inl (-1))) (k', F', I', L', R')) → ZW (d + 24) 115 11 [some (.inr (.inr (some 2))), some (.inl n), some (.inl m), some (.inl i), some (.inl to)] [.inl f, .inr (.inr (some 2))] (k, F, I, L, R) Q := by
    intro f hf K
    refine zw_callv rfl rfl rfl rfl rfl rfl (by assumption) ?_
    refine c_passes a1 ?_
    rw [if_neg hf]
    refine zw_if_ne_f rfl rfl ?_
    repeat (first | refine zw_t rfl rfl ?_ | refine zw_jump rfl rfl ?_ | refine zw_getI rfl rfl (by assumption) ?_ | refine zw_ialn rfl (by assumption) (by omega) ?_ | refine zw_laln rfl (by assumption) (by omega) ?_ | refine zw_iastn rfl (by omega) (by assumption) (by omega) ?_ | refine zw_lastn rfl (by assumption) (by omega) ?_ | refine zw_iald0 rfl (by assumption) (by omega) ?_ | refine zw_lald0 rfl (by assumption) (by omega) ?_ | refine zw_aaln rfl (by assumption) rfl (by omega) ?_ | refine zw_getR rfl (by assumption) (by assumption) ?_ | refine zw_alen rfl (by assumption) rfl ?_ | refine zw_iald rfl (by assumption) (by omega) (by omega) ?_ | refine zw_iast rfl (by omega) (by assumption) (by omega) (by omega) ?_ | refine zw_putI rfl (by assumption) ?_ | refine zw_lald rfl (by assumption) (by omega) (by omega) ?_ | refine zw_last rfl (by assumption) (by omega) (by omega) ?_ | refine zw_iadd rfl (by omega) (by omega) ?_ | refine zw_isub rfl (by omega) (by omega) ?_ | refine zw_iinc rfl rfl rfl (by omega) (by omega) ?_)
    exact zw_iret rfl (K _ _ _ _ _ (ZG.refl _ _ _) (z_refused h f).1 (z_refused h f).2)
  by_cases ht : 0 ≤ to ∧ to < 16
  · rw [if_pos ht] at K ⊢
    obtain ⟨t, rfl⟩ : ∃ t : Nat, to = (t : Int) := ⟨to.toNat, by omega⟩
    by_cases hm : 2 ≤ n ∧ n ≤ 40 ∧ 1 ≤ m ∧ m ≤ 6
    · rw [if_pos hm] at K ⊢
      rw [if_neg (by decide)]
      obtain ⟨p, rfl⟩ : ∃ p : Nat, n = (p : Int) := ⟨n.toNat, by omega⟩
      obtain ⟨r, rfl⟩ : ∃ r : Nat, m = (r : Int) := ⟨m.toNat, by omega⟩
      rw [Int.toNat_natCast, Int.toNat_natCast] at K
      refine zw_callv rfl rfl rfl rfl rfl rfl (by assumption) ?_
      refine c_passes a1 ?_
      rw [if_pos rfl]
      refine zw_if_ne_t rfl (by decide) ?_
      repeat (first | refine zw_t rfl rfl ?_ | refine zw_jump rfl rfl ?_ | refine zw_getI rfl rfl (by assumption) ?_ | refine zw_ialn rfl (by assumption) (by omega) ?_ | refine zw_laln rfl (by assumption) (by omega) ?_ | refine zw_iastn rfl (by omega) (by assumption) (by omega) ?_ | refine zw_lastn rfl (by assumption) (by omega) ?_ | refine zw_iald0 rfl (by assumption) (by omega) ?_ | refine zw_lald0 rfl (by assumption) (by omega) ?_ | refine zw_aaln rfl (by assumption) rfl (by omega) ?_ | refine zw_getR rfl (by assumption) (by assumption) ?_ | refine zw_alen rfl (by assumption) rfl ?_ | refine zw_iald rfl (by assumption) (by omega) (by omega) ?_ | refine zw_iast rfl (by omega) (by assumption) (by omega) (by omega) ?_ | refine zw_putI rfl (by assumption) ?_ | refine zw_lald rfl (by assumption) (by omega) (by omega) ?_ | refine zw_last rfl (by assumption) (by omega) (by omega) ?_ | refine zw_iadd rfl (by omega) (by omega) ?_ | refine zw_isub rfl (by omega) (by omega) ?_ | refine zw_iinc rfl rfl rfl (by omega) (by omega) ?_)
      refine zw_callv rfl rfl rfl rfl rfl rfl (by assumption) ?_
      refine ZC.le (show d + 20 ≤ _ by omega) ?_
      refine c_ringsOf (z_refused h 0).2 hx (by omega) (by omega) (fun q k' F' I' L' R' g kp hB hl => ?_)
      obtain ⟨⟨b1, _⟩, _⟩ := hB.2.1
      repeat (first | refine zw_t rfl rfl ?_ | refine zw_jump rfl rfl ?_ | refine zw_getI rfl rfl (by assumption) ?_ | refine zw_ialn rfl (by assumption) (by omega) ?_ | refine zw_laln rfl (by assumption) (by omega) ?_ | refine zw_iastn rfl (by omega) (by assumption) (by omega) ?_ | refine zw_lastn rfl (by assumption) (by omega) ?_ | refine zw_iald0 rfl (by assumption) (by omega) ?_ | refine zw_lald0 rfl (by assumption) (by omega) ?_ | refine zw_aaln rfl (by assumption) rfl (by omega) ?_ | refine zw_getR rfl (by assumption) (by assumption) ?_ | refine zw_alen rfl (by assumption) rfl ?_ | refine zw_iald rfl (by assumption) (by omega) (by omega) ?_ | refine zw_iast rfl (by omega) (by assumption) (by omega) (by omega) ?_ | refine zw_putI rfl (by assumption) ?_ | refine zw_lald rfl (by assumption) (by omega) (by omega) ?_ | refine zw_last rfl (by assumption) (by omega) (by omega) ?_ | refine zw_iadd rfl (by omega) (by omega) ?_ | refine zw_isub rfl (by omega) (by omega) ?_ | refine zw_iinc rfl rfl rfl (by omega) (by omega) ?_)
      refine zw_callv rfl rfl rfl rfl rfl rfl (by assumption) ?_
      refine c_settle (n := p) (c := r) hB hl (by omega) (fun x hx => (z_rgb_gd (by omega) (by omega) hx).1) (by omega) (by omega) (Or.inr ⟨by omega, rfl⟩) (fun F2 I2 kp2 hB2 => ?_)
      exact zw_iret rfl (K _ _ _ _ _ g (ZKp.trans (ZKp.trans (z_refused h 0).1 kp) kp2) hB2)
    · rw [if_neg hm] at K ⊢
      rw [if_pos rfl]
      exact no 5 (by decide) K
  · rw [if_neg ht] at K ⊢
    exact no 2 (by decide) K
end ZRing2
