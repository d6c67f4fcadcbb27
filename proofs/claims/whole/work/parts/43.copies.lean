/-! COPIES of rows of longs -/
/-- the kinds once a row of n longs is made -/
def z_bk (k : ZK) (n : Nat) : ZK := (z_up k.1 k.2.2.1 (3, n), z_up k.2.1 k.2.2.1 (fun _ => none), k.2.2.1 + 1, k.2.2.2 + n)
section ZCopy
variable {d q n len : Nat} {k : ZK} {F I : Nat → Nat → Int} {L : Nat → Nat → Int64} {R : Nat → Nat → Option Nat} {Q : Option ZV → ZH → Prop}
theorem c_copyOf (hq : 2 ≤ q) (hT : k.1 q = (3, len)) (hqn : q < k.2.2.1) (hl : len ≤ 65536) (hn : n ≤ len)
    (K : ∀ l : Nat → Int64, (∀ j, j < n → l j = L q j) → Q (some (.inr (.inr (some k.2.2.1)))) (z_bk k n, z_up F k.2.2.1 (fun _ => 0), z_up I k.2.2.1 (fun _ => 0), z_up L k.2.2.1 l, z_up R k.2.2.1 (fun _ => none))) : ZC (d + 2) 228 [.inr (.inr (some q)), .inl (n : Int)] (k, F, I, L, R) Q := by
  refine ze_Arrays_copyOf ?_
  repeat (first | refine zw_t rfl rfl ?_ | refine zw_jump rfl rfl ?_ | refine zw_getI rfl rfl (by assumption) ?_ | refine zw_ialn rfl (by assumption) (by omega) ?_ | refine zw_laln rfl (by assumption) (by omega) ?_ | refine zw_iastn rfl (by omega) (by assumption) (by omega) ?_ | refine zw_lastn rfl (by assumption) (by omega) ?_ | refine zw_iald0 rfl (by assumption) (by omega) ?_ | refine zw_lald0 rfl (by assumption) (by omega) ?_ | refine zw_aaln rfl (by assumption) rfl (by omega) ?_ | refine zw_getR rfl (by assumption) (by assumption) ?_ | refine zw_alen rfl (by assumption) rfl ?_ | refine zw_iald rfl (by assumption) (by omega) (by omega) ?_ | refine zw_iast rfl (by omega) (by assumption) (by omega) (by omega) ?_ | refine zw_putI rfl (by assumption) ?_ | refine zw_lald rfl (by assumption) (by omega) (by omega) ?_ | refine zw_last rfl (by assumption) (by omega) (by omega) ?_ | refine zw_iadd rfl (by omega) (by omega) ?_ | refine zw_isub rfl (by omega) (by omega) ?_ | refine zw_iinc rfl rfl rfl (by omega) (by omega) ?_)
  refine zw_icmp_ne rfl (fun h => ?_) (fun h => ?_)
  · have hne : q ≠ k.2.2.1 := by omega
    repeat (first | refine zw_t rfl rfl ?_ | refine zw_jump rfl rfl ?_ | refine zw_getI rfl rfl (by assumption) ?_ | refine zw_ialn rfl (by assumption) (by omega) ?_ | refine zw_laln rfl (by assumption) (by omega) ?_ | refine zw_iastn rfl (by omega) (by assumption) (by omega) ?_ | refine zw_lastn rfl (by assumption) (by omega) ?_ | refine zw_iald0 rfl (by assumption) (by omega) ?_ | refine zw_lald0 rfl (by assumption) (by omega) ?_ | refine zw_aaln rfl (by assumption) rfl (by omega) ?_ | refine zw_getR rfl (by assumption) (by assumption) ?_ | refine zw_alen rfl (by assumption) rfl ?_ | refine zw_iald rfl (by assumption) (by omega) (by omega) ?_ | refine zw_iast rfl (by omega) (by assumption) (by omega) (by omega) ?_ | refine zw_putI rfl (by assumption) ?_ | refine zw_lald rfl (by assumption) (by omega) (by omega) ?_ | refine zw_last rfl (by assumption) (by omega) (by omega) ?_ | refine zw_iadd rfl (by omega) (by omega) ?_ | refine zw_isub rfl (by omega) (by omega) ?_ | refine zw_iinc rfl rfl rfl (by omega) (by omega) ?_)
    refine zw_newa rfl (by omega) (by omega) ?_
    rw [Int.toNat_natCast]
    have T1 : (z_bk k n).1 q = (3, len) := by
      show z_up k.1 k.2.2.1 (3, n) q = _
      rw [z_up_ne _ _ hne]; exact hT
    have T2 : (z_bk k n).1 k.2.2.1 = (3, n) := z_up_same _ _ _
    refine zw_eqv rfl rfl (show z_born (k, F, I, L, R) (3, n) n = (z_bk k n, z_up F k.2.2.1 (fun _ => 0), z_up I k.2.2.1 (fun _ => 0), z_up L k.2.2.1 (fun _ => 0), z_up R k.2.2.1 (fun _ => none)) from rfl) ?_
    repeat (first | refine zw_t rfl rfl ?_ | refine zw_jump rfl rfl ?_ | refine zw_getI rfl rfl (by assumption) ?_ | refine zw_ialn rfl (by assumption) (by omega) ?_ | refine zw_laln rfl (by assumption) (by omega) ?_ | refine zw_iastn rfl (by omega) (by assumption) (by omega) ?_ | refine zw_lastn rfl (by assumption) (by omega) ?_ | refine zw_iald0 rfl (by assumption) (by omega) ?_ | refine zw_lald0 rfl (by assumption) (by omega) ?_ | refine zw_aaln rfl (by assumption) rfl (by omega) ?_ | refine zw_getR rfl (by assumption) (by assumption) ?_ | refine zw_alen rfl (by assumption) rfl ?_ | refine zw_iald rfl (by assumption) (by omega) (by omega) ?_ | refine zw_iast rfl (by omega) (by assumption) (by omega) (by omega) ?_ | refine zw_putI rfl (by assumption) ?_ | refine zw_lald rfl (by assumption) (by omega) (by omega) ?_ | refine zw_last rfl (by assumption) (by omega) (by omega) ?_ | refine zw_iadd rfl (by omega) (by omega) ?_ | refine zw_isub rfl (by omega) (by omega) ?_ | refine zw_iinc rfl rfl rfl (by omega) (by omega) ?_)
    refine zw_calls rfl rfl rfl rfl rfl rfl ?_
    refine c_min ?_
    rw [show min (len : Int) (n : Int) = (n : Int) by omega]
    refine zw_copyL rfl (by omega) hq T2 T1 (by omega) (by omega) (by omega) (Ne.symm hne) rfl ?_
    repeat (first | refine zw_t rfl rfl ?_ | refine zw_jump rfl rfl ?_ | refine zw_getI rfl rfl (by assumption) ?_ | refine zw_ialn rfl (by assumption) (by omega) ?_ | refine zw_laln rfl (by assumption) (by omega) ?_ | refine zw_iastn rfl (by omega) (by assumption) (by omega) ?_ | refine zw_lastn rfl (by assumption) (by omega) ?_ | refine zw_iald0 rfl (by assumption) (by omega) ?_ | refine zw_lald0 rfl (by assumption) (by omega) ?_ | refine zw_aaln rfl (by assumption) rfl (by omega) ?_ | refine zw_getR rfl (by assumption) (by assumption) ?_ | refine zw_alen rfl (by assumption) rfl ?_ | refine zw_iald rfl (by assumption) (by omega) (by omega) ?_ | refine zw_iast rfl (by omega) (by assumption) (by omega) (by omega) ?_ | refine zw_putI rfl (by assumption) ?_ | refine zw_lald rfl (by assumption) (by omega) (by omega) ?_ | refine zw_last rfl (by assumption) (by omega) (by omega) ?_ | refine zw_iadd rfl (by omega) (by omega) ?_ | refine zw_isub rfl (by omega) (by omega) ?_ | refine zw_iinc rfl rfl rfl (by omega) (by omega) ?_)
    refine zw_aret rfl ?_
    rw [z_up_up, Int.toNat_natCast]
    refine K _ (fun j hj => ?_)
    unfold z_cpf
    rw [if_pos hj, z_up_ne _ _ hne]
  · have hnl : n = len := by omega
    subst hnl
    repeat (first | refine zw_t rfl rfl ?_ | refine zw_jump rfl rfl ?_ | refine zw_getI rfl rfl (by assumption) ?_ | refine zw_ialn rfl (by assumption) (by omega) ?_ | refine zw_laln rfl (by assumption) (by omega) ?_ | refine zw_iastn rfl (by omega) (by assumption) (by omega) ?_ | refine zw_lastn rfl (by assumption) (by omega) ?_ | refine zw_iald0 rfl (by assumption) (by omega) ?_ | refine zw_lald0 rfl (by assumption) (by omega) ?_ | refine zw_aaln rfl (by assumption) rfl (by omega) ?_ | refine zw_getR rfl (by assumption) (by assumption) ?_ | refine zw_alen rfl (by assumption) rfl ?_ | refine zw_iald rfl (by assumption) (by omega) (by omega) ?_ | refine zw_iast rfl (by omega) (by assumption) (by omega) (by omega) ?_ | refine zw_putI rfl (by assumption) ?_ | refine zw_lald rfl (by assumption) (by omega) (by omega) ?_ | refine zw_last rfl (by assumption) (by omega) (by omega) ?_ | refine zw_iadd rfl (by omega) (by omega) ?_ | refine zw_isub rfl (by omega) (by omega) ?_ | refine zw_iinc rfl rfl rfl (by omega) (by omega) ?_)
    refine zw_clone rfl hq hT hl rfl ?_
    refine zw_eqv rfl rfl (show _ = (z_bk k n, z_up F k.2.2.1 (fun _ => 0), z_up I k.2.2.1 (fun _ => 0), z_up L k.2.2.1 (L q), z_up R k.2.2.1 (fun _ => none)) from rfl) ?_
    refine zw_ccast rfl (by omega) (z_up_same _ _ _) ?_
    exact zw_aret rfl (K _ (fun j hj => rfl))
theorem c_frow (hT : k.1 66 = (1, 3)) (hG : k.2.1 66 0 = some 67) (hA : k.1 67 = (3, 512)) (hx : 95 ≤ k.2.2.1) (hn : F 66 1 = (n : Int)) (hn2 : n ≤ 512)
    (K : ∀ l : Nat → Int64, (∀ j, j < n → l j = L 67 j) → Q (some (.inr (.inr (some k.2.2.1)))) (z_bk k n, z_up F k.2.2.1 (fun _ => 0), z_up I k.2.2.1 (fun _ => 0), z_up L k.2.2.1 l, z_up R k.2.2.1 (fun _ => none))) : ZC (d + 3) 28 [.inr (.inr (some 66))] (k, F, I, L, R) Q := by
  refine ze_Found_row ?_
  repeat (first | refine zw_t rfl rfl ?_ | refine zw_jump rfl rfl ?_ | refine zw_getI rfl rfl (by assumption) ?_ | refine zw_ialn rfl (by assumption) (by omega) ?_ | refine zw_laln rfl (by assumption) (by omega) ?_ | refine zw_iastn rfl (by omega) (by assumption) (by omega) ?_ | refine zw_lastn rfl (by assumption) (by omega) ?_ | refine zw_iald0 rfl (by assumption) (by omega) ?_ | refine zw_lald0 rfl (by assumption) (by omega) ?_ | refine zw_aaln rfl (by assumption) rfl (by omega) ?_ | refine zw_getR rfl (by assumption) (by assumption) ?_ | refine zw_alen rfl (by assumption) rfl ?_ | refine zw_iald rfl (by assumption) (by omega) (by omega) ?_ | refine zw_iast rfl (by omega) (by assumption) (by omega) (by omega) ?_ | refine zw_putI rfl (by assumption) ?_ | refine zw_lald rfl (by assumption) (by omega) (by omega) ?_ | refine zw_last rfl (by assumption) (by omega) (by omega) ?_ | refine zw_iadd rfl (by omega) (by omega) ?_ | refine zw_isub rfl (by omega) (by omega) ?_ | refine zw_iinc rfl rfl rfl (by omega) (by omega) ?_)
  rw [hn]
  refine zw_calls rfl rfl rfl rfl rfl rfl ?_
  refine c_copyOf (by omega) hA (by omega) (by omega) hn2 (fun l hl => ?_)
  exact zw_aret rfl (K l hl)
end ZCopy
