/-! more rules -/
def z_ss (i : Instr) (a b t n pc : Nat) (ls : ZL) (st : List ZV) (h : ZH) : Option ZR := bif z_simple i && Nat.beq (z_kind i a) 0 then z_s i a b t n pc ls st h else none
/-- a step that asks nothing -/
theorem zw_t {d m pc : Nat} {ls : ZL} {st : List ZV} {h : ZH} {Q : Option ZV → ZH → Prop} {i : Instr} {a b t n' : Nat} {pc' : Nat} {ls' : ZL} {st' : List ZV} {h' : ZH} (ht : z_tb m pc = some (i, a, b, t, n')) (hx : z_ss i a b t n' pc ls st h = some (pc', ls', st', h')) (K : ZW d m pc' ls' st' h' Q) : ZW d m pc ls st h Q := by
  unfold z_ss at hx
  cases hb : (z_simple i && Nat.beq (z_kind i a) 0) with
  | false => rw [hb] at hx; cases hx
  | true =>
    rw [hb] at hx
    simp only [Bool.and_eq_true] at hb
    exact zw_go ht (Nat.eq_of_beq_eq_true hb.2) hx K
theorem zw_ne {d m pc : Nat} {ls : ZL} {st : List ZV} {h : ZH} {Q : Option ZV → ZH → Prop} (N : Nat) (_ : Nat.beq pc N = false) (K : ZW d m pc ls st h Q) : ZW d m pc ls st h Q := K
section ZHeap2
variable {d m pc : Nat} {ls : ZL} {st : List ZV} {Q : Option ZV → ZH → Prop} {i a b t n q len j : Nat} {x : Int} {k : ZK} {F I : Nat → Nat → Int} {L : Nat → Nat → Int64} {R : Nat → Nat → Option Nat}
theorem zw_ialn (ht : z_tb m pc = some (.iaload, a, b, t, n)) (hT : k.1 q = (2, len)) (h1 : j < len) (K : ZW d m n ls (.inl (I q j) :: st) (k, F, I, L, R) Q) : ZW d m pc ls (.inl (j : Int) :: .inr (.inr (some q)) :: st) (k, F, I, L, R) Q := zw_iald ht hT (by omega) (by omega) K
theorem zw_laln (ht : z_tb m pc = some (.laload, a, b, t, n)) (hT : k.1 q = (3, len)) (h1 : j < len) (K : ZW d m n ls (.inr (.inl (L q j)) :: st) (k, F, I, L, R) Q) : ZW d m pc ls (.inl (j : Int) :: .inr (.inr (some q)) :: st) (k, F, I, L, R) Q := zw_lald ht hT (by omega) (by omega) K
theorem zw_iastn (ht : z_tb m pc = some (.iastore, a, b, t, n)) (hq : 2 ≤ q) (hT : k.1 q = (2, len)) (h1 : j < len) (K : ZW d m n ls st (k, F, z_u2 I q j x, L, R) Q) : ZW d m pc ls (.inl x :: .inl (j : Int) :: .inr (.inr (some q)) :: st) (k, F, I, L, R) Q := zw_iast ht hq hT (by omega) (by omega) K
theorem zw_lastn {x : Int64} (ht : z_tb m pc = some (.lastore, a, b, t, n)) (hT : k.1 q = (3, len)) (h1 : j < len) (K : ZW d m n ls st (k, F, I, z_u2 L q j x, R) Q) : ZW d m pc ls (.inr (.inl x) :: .inl (j : Int) :: .inr (.inr (some q)) :: st) (k, F, I, L, R) Q := zw_last ht hT (by omega) (by omega) K
theorem zw_aaln {t' : Nat} (ht : z_tb m pc = some (.aaload, a, b, t, n)) (hT : k.1 q = (t', len)) (ht' : (Nat.ble 4 t' && Nat.ble t' 6) = true) (h1 : j < len) (K : ZW d m n ls (.inr (.inr (R q j)) :: st) (k, F, I, L, R) Q) : ZW d m pc ls (.inl (j : Int) :: .inr (.inr (some q)) :: st) (k, F, I, L, R) Q := zw_aald ht hT ht' (by omega) (by omega) K
/-- a number on the stack or in a field is another one -/
theorem zw_iald0 (ht : z_tb m pc = some (.iaload, a, b, t, n)) (hT : k.1 q = (2, len)) (h1 : 0 < len) (K : ZW d m n ls (.inl (I q 0) :: st) (k, F, I, L, R) Q) : ZW d m pc ls (.inl 0 :: .inr (.inr (some q)) :: st) (k, F, I, L, R) Q := zw_iald ht hT (by omega) (by omega) K
theorem zw_lald0 (ht : z_tb m pc = some (.laload, a, b, t, n)) (hT : k.1 q = (3, len)) (h1 : 0 < len) (K : ZW d m n ls (.inr (.inl (L q 0)) :: st) (k, F, I, L, R) Q) : ZW d m pc ls (.inl 0 :: .inr (.inr (some q)) :: st) (k, F, I, L, R) Q := zw_lald ht hT (by omega) (by omega) K
end ZHeap2
theorem zw_eqv {d m pc : Nat} {ls ls' : ZL} {st st' : List ZV} {h h' : ZH} {Q : Option ZV → ZH → Prop} (e1 : ls = ls') (e2 : st = st') (e3 : h = h') (K : ZW d m pc ls' st' h' Q) : ZW d m pc ls st h Q := by subst e1; subst e2; subst e3; exact K
theorem z_pk {Q : Option ZV → ZH → Prop} {r r' : Option ZV} {h h' : ZH} (K : Q r h) (e1 : r' = r) (e2 : h' = h) : Q r' h' := by subst e1; subst e2; exact K
/-- Math.min, Math.max -/
theorem c_min {d : Nat} {x y : Int} {h : ZH} {Q : Option ZV → ZH → Prop} (K : Q (some (.inl (min x y))) h) : ZC (d + 1) 225 [.inl x, .inl y] h Q := by
  refine ze_Math_min ?_
  repeat (first | refine zw_t rfl rfl ?_ | refine zw_jump rfl rfl ?_ | refine zw_getI rfl rfl (by assumption) ?_ | refine zw_ialn rfl (by assumption) (by omega) ?_ | refine zw_laln rfl (by assumption) (by omega) ?_ | refine zw_iastn rfl (by omega) (by assumption) (by omega) ?_ | refine zw_lastn rfl (by assumption) (by omega) ?_ | refine zw_iald0 rfl (by assumption) (by omega) ?_ | refine zw_lald0 rfl (by assumption) (by omega) ?_ | refine zw_aaln rfl (by assumption) rfl (by omega) ?_ | refine zw_getR rfl (by assumption) (by assumption) ?_ | refine zw_alen rfl (by assumption) rfl ?_ | refine zw_iald rfl (by assumption) (by omega) (by omega) ?_ | refine zw_iast rfl (by omega) (by assumption) (by omega) (by omega) ?_ | refine zw_putI rfl (by assumption) ?_ | refine zw_lald rfl (by assumption) (by omega) (by omega) ?_ | refine zw_last rfl (by assumption) (by omega) (by omega) ?_ | refine zw_iadd rfl (by omega) (by omega) ?_ | refine zw_isub rfl (by omega) (by omega) ?_ | refine zw_iinc rfl rfl rfl (by omega) (by omega) ?_)
  refine zw_icmp_gt rfl (fun hc => ?_) (fun hc => ?_)
  · repeat (first | refine zw_t rfl rfl ?_ | refine zw_jump rfl rfl ?_ | refine zw_getI rfl rfl (by assumption) ?_ | refine zw_ialn rfl (by assumption) (by omega) ?_ | refine zw_laln rfl (by assumption) (by omega) ?_ | refine zw_iastn rfl (by omega) (by assumption) (by omega) ?_ | refine zw_lastn rfl (by assumption) (by omega) ?_ | refine zw_iald0 rfl (by assumption) (by omega) ?_ | refine zw_lald0 rfl (by assumption) (by omega) ?_ | refine zw_aaln rfl (by assumption) rfl (by omega) ?_ | refine zw_getR rfl (by assumption) (by assumption) ?_ | refine zw_alen rfl (by assumption) rfl ?_ | refine zw_iald rfl (by assumption) (by omega) (by omega) ?_ | refine zw_iast rfl (by omega) (by assumption) (by omega) (by omega) ?_ | refine zw_putI rfl (by assumption) ?_ | refine zw_lald rfl (by assumption) (by omega) (by omega) ?_ | refine zw_last rfl (by assumption) (by omega) (by omega) ?_ | refine zw_iadd rfl (by omega) (by omega) ?_ | refine zw_isub rfl (by omega) (by omega) ?_ | refine zw_iinc rfl rfl rfl (by omega) (by omega) ?_)
    refine zw_iret rfl ?_
    rw [show min x y = y by omega] at K
    exact K
  · repeat (first | refine zw_t rfl rfl ?_ | refine zw_jump rfl rfl ?_ | refine zw_getI rfl rfl (by assumption) ?_ | refine zw_ialn rfl (by assumption) (by omega) ?_ | refine zw_laln rfl (by assumption) (by omega) ?_ | refine zw_iastn rfl (by omega) (by assumption) (by omega) ?_ | refine zw_lastn rfl (by assumption) (by omega) ?_ | refine zw_iald0 rfl (by assumption) (by omega) ?_ | refine zw_lald0 rfl (by assumption) (by omega) ?_ | refine zw_aaln rfl (by assumption) rfl (by omega) ?_ | refine zw_getR rfl (by assumption) (by assumption) ?_ | refine zw_alen rfl (by assumption) rfl ?_ | refine zw_iald rfl (by assumption) (by omega) (by omega) ?_ | refine zw_iast rfl (by omega) (by assumption) (by omega) (by omega) ?_ | refine zw_putI rfl (by assumption) ?_ | refine zw_lald rfl (by assumption) (by omega) (by omega) ?_ | refine zw_last rfl (by assumption) (by omega) (by omega) ?_ | refine zw_iadd rfl (by omega) (by omega) ?_ | refine zw_isub rfl (by omega) (by omega) ?_ | refine zw_iinc rfl rfl rfl (by omega) (by omega) ?_)
    refine zw_iret rfl ?_
    rw [show min x y = x by omega] at K
    exact K
theorem c_max {d : Nat} {x y : Int} {h : ZH} {Q : Option ZV → ZH → Prop} (K : Q (some (.inl (max x y))) h) : ZC (d + 1) 224 [.inl x, .inl y] h Q := by
  refine ze_Math_max ?_
  repeat (first | refine zw_t rfl rfl ?_ | refine zw_jump rfl rfl ?_ | refine zw_getI rfl rfl (by assumption) ?_ | refine zw_ialn rfl (by assumption) (by omega) ?_ | refine zw_laln rfl (by assumption) (by omega) ?_ | refine zw_iastn rfl (by omega) (by assumption) (by omega) ?_ | refine zw_lastn rfl (by assumption) (by omega) ?_ | refine zw_iald0 rfl (by assumption) (by omega) ?_ | refine zw_lald0 rfl (by assumption) (by omega) ?_ | refine zw_aaln rfl (by assumption) rfl (by omega) ?_ | refine zw_getR rfl (by assumption) (by assumption) ?_ | refine zw_alen rfl (by assumption) rfl ?_ | refine zw_iald rfl (by assumption) (by omega) (by omega) ?_ | refine zw_iast rfl (by omega) (by assumption) (by omega) (by omega) ?_ | refine zw_putI rfl (by assumption) ?_ | refine zw_lald rfl (by assumption) (by omega) (by omega) ?_ | refine zw_last rfl (by assumption) (by omega) (by omega) ?_ | refine zw_iadd rfl (by omega) (by omega) ?_ | refine zw_isub rfl (by omega) (by omega) ?_ | refine zw_iinc rfl rfl rfl (by omega) (by omega) ?_)
  refine zw_icmp_lt rfl (fun hc => ?_) (fun hc => ?_)
  · repeat (first | refine zw_t rfl rfl ?_ | refine zw_jump rfl rfl ?_ | refine zw_getI rfl rfl (by assumption) ?_ | refine zw_ialn rfl (by assumption) (by omega) ?_ | refine zw_laln rfl (by assumption) (by omega) ?_ | refine zw_iastn rfl (by omega) (by assumption) (by omega) ?_ | refine zw_lastn rfl (by assumption) (by omega) ?_ | refine zw_iald0 rfl (by assumption) (by omega) ?_ | refine zw_lald0 rfl (by assumption) (by omega) ?_ | refine zw_aaln rfl (by assumption) rfl (by omega) ?_ | refine zw_getR rfl (by assumption) (by assumption) ?_ | refine zw_alen rfl (by assumption) rfl ?_ | refine zw_iald rfl (by assumption) (by omega) (by omega) ?_ | refine zw_iast rfl (by omega) (by assumption) (by omega) (by omega) ?_ | refine zw_putI rfl (by assumption) ?_ | refine zw_lald rfl (by assumption) (by omega) (by omega) ?_ | refine zw_last rfl (by assumption) (by omega) (by omega) ?_ | refine zw_iadd rfl (by omega) (by omega) ?_ | refine zw_isub rfl (by omega) (by omega) ?_ | refine zw_iinc rfl rfl rfl (by omega) (by omega) ?_)
    refine zw_iret rfl ?_
    rw [show max x y = y by omega] at K
    exact K
  · repeat (first | refine zw_t rfl rfl ?_ | refine zw_jump rfl rfl ?_ | refine zw_getI rfl rfl (by assumption) ?_ | refine zw_ialn rfl (by assumption) (by omega) ?_ | refine zw_laln rfl (by assumption) (by omega) ?_ | refine zw_iastn rfl (by omega) (by assumption) (by omega) ?_ | refine zw_lastn rfl (by assumption) (by omega) ?_ | refine zw_iald0 rfl (by assumption) (by omega) ?_ | refine zw_lald0 rfl (by assumption) (by omega) ?_ | refine zw_aaln rfl (by assumption) rfl (by omega) ?_ | refine zw_getR rfl (by assumption) (by assumption) ?_ | refine zw_alen rfl (by assumption) rfl ?_ | refine zw_iald rfl (by assumption) (by omega) (by omega) ?_ | refine zw_iast rfl (by omega) (by assumption) (by omega) (by omega) ?_ | refine zw_putI rfl (by assumption) ?_ | refine zw_lald rfl (by assumption) (by omega) (by omega) ?_ | refine zw_last rfl (by assumption) (by omega) (by omega) ?_ | refine zw_iadd rfl (by omega) (by omega) ?_ | refine zw_isub rfl (by omega) (by omega) ?_ | refine zw_iinc rfl rfl rfl (by omega) (by omega) ?_)
    refine zw_iret rfl ?_
    rw [show max x y = x by omega] at K
    exact K
/-- Arrays.fill of ints: the first n places x -/
def z_fil {α : Type} (f : Nat → α) (n : Nat) (x : α) : Nat → α := fun j => if j < n then x else f j
theorem z_fil_0 {α : Type} (f : Nat → α) (x : α) : z_fil f 0 x = f := by funext j; simp [z_fil]
theorem z_fil_s {α : Type} (f : Nat → α) (n : Nat) (x : α) : z_up (z_fil f n x) n x = z_fil f (n + 1) x := by
  funext j
  unfold z_up z_fil
  by_cases h1 : j = n
  · subst h1; simp
  · by_cases h2 : j < n
    · simp [h1, h2, show j < n + 1 by omega]
    · simp [h1, h2, show ¬ j < n + 1 by omega]
theorem z_fil_in {α : Type} (f : Nat → α) {n j : Nat} (x : α) (h : j < n) : z_fil f n x j = x := by simp [z_fil, h]
theorem c_fillI {d q len : Nat} {x : Int} {k : ZK} {F I : Nat → Nat → Int} {L : Nat → Nat → Int64} {R : Nat → Nat → Option Nat} {Q : Option ZV → ZH → Prop} (hq : 2 ≤ q) (hT : k.1 q = (2, len)) (hlen : len ≤ 65536) (K : Q none (k, F, z_up I q (z_fil (I q) len x), L, R)) : ZC (d + 1) 227 [.inr (.inr (some q)), .inl x] (k, F, I, L, R) Q := by
  refine ze_Arrays_fillI ?_
  repeat (refine zw_ne 5 rfl ?_; first | refine zw_t rfl rfl ?_ | refine zw_jump rfl rfl ?_ | refine zw_getI rfl rfl (by assumption) ?_ | refine zw_ialn rfl (by assumption) (by omega) ?_ | refine zw_laln rfl (by assumption) (by omega) ?_ | refine zw_iastn rfl (by omega) (by assumption) (by omega) ?_ | refine zw_lastn rfl (by assumption) (by omega) ?_ | refine zw_iald0 rfl (by assumption) (by omega) ?_ | refine zw_lald0 rfl (by assumption) (by omega) ?_ | refine zw_aaln rfl (by assumption) rfl (by omega) ?_ | refine zw_getR rfl (by assumption) (by assumption) ?_ | refine zw_alen rfl (by assumption) rfl ?_ | refine zw_iald rfl (by assumption) (by omega) (by omega) ?_ | refine zw_iast rfl (by omega) (by assumption) (by omega) (by omega) ?_ | refine zw_putI rfl (by assumption) ?_ | refine zw_lald rfl (by assumption) (by omega) (by omega) ?_ | refine zw_last rfl (by assumption) (by omega) (by omega) ?_ | refine zw_iadd rfl (by omega) (by omega) ?_ | refine zw_isub rfl (by omega) (by omega) ?_ | refine zw_iinc rfl rfl rfl (by omega) (by omega) ?_)
  have loop : ∀ (n i : Nat), n + i = len → ZW d 227 5 [some (.inr (.inr (some q))), some (.inl x), some (.inl (i : Int)), some (.inl (len : Int))] [] (k, F, z_up I q (z_fil (I q) i x), L, R) Q := by
    intro n
    induction n with
    | zero =>
      intro i hi
      repeat (first | refine zw_t rfl rfl ?_ | refine zw_jump rfl rfl ?_ | refine zw_getI rfl rfl (by assumption) ?_ | refine zw_ialn rfl (by assumption) (by omega) ?_ | refine zw_laln rfl (by assumption) (by omega) ?_ | refine zw_iastn rfl (by omega) (by assumption) (by omega) ?_ | refine zw_lastn rfl (by assumption) (by omega) ?_ | refine zw_iald0 rfl (by assumption) (by omega) ?_ | refine zw_lald0 rfl (by assumption) (by omega) ?_ | refine zw_aaln rfl (by assumption) rfl (by omega) ?_ | refine zw_getR rfl (by assumption) (by assumption) ?_ | refine zw_alen rfl (by assumption) rfl ?_ | refine zw_iald rfl (by assumption) (by omega) (by omega) ?_ | refine zw_iast rfl (by omega) (by assumption) (by omega) (by omega) ?_ | refine zw_putI rfl (by assumption) ?_ | refine zw_lald rfl (by assumption) (by omega) (by omega) ?_ | refine zw_last rfl (by assumption) (by omega) (by omega) ?_ | refine zw_iadd rfl (by omega) (by omega) ?_ | refine zw_isub rfl (by omega) (by omega) ?_ | refine zw_iinc rfl rfl rfl (by omega) (by omega) ?_)
      refine zw_icmp_ge_t rfl (by omega) ?_
      refine zw_vret rfl ?_
      have e : i = len := by omega
      subst e
      exact K
    | succ n ih =>
      intro i hi
      repeat (first | refine zw_t rfl rfl ?_ | refine zw_jump rfl rfl ?_ | refine zw_getI rfl rfl (by assumption) ?_ | refine zw_ialn rfl (by assumption) (by omega) ?_ | refine zw_laln rfl (by assumption) (by omega) ?_ | refine zw_iastn rfl (by omega) (by assumption) (by omega) ?_ | refine zw_lastn rfl (by assumption) (by omega) ?_ | refine zw_iald0 rfl (by assumption) (by omega) ?_ | refine zw_lald0 rfl (by assumption) (by omega) ?_ | refine zw_aaln rfl (by assumption) rfl (by omega) ?_ | refine zw_getR rfl (by assumption) (by assumption) ?_ | refine zw_alen rfl (by assumption) rfl ?_ | refine zw_iald rfl (by assumption) (by omega) (by omega) ?_ | refine zw_iast rfl (by omega) (by assumption) (by omega) (by omega) ?_ | refine zw_putI rfl (by assumption) ?_ | refine zw_lald rfl (by assumption) (by omega) (by omega) ?_ | refine zw_last rfl (by assumption) (by omega) (by omega) ?_ | refine zw_iadd rfl (by omega) (by omega) ?_ | refine zw_isub rfl (by omega) (by omega) ?_ | refine zw_iinc rfl rfl rfl (by omega) (by omega) ?_)
      refine zw_icmp_ge_f rfl (by omega) ?_
      repeat (first | refine zw_t rfl rfl ?_ | refine zw_jump rfl rfl ?_ | refine zw_getI rfl rfl (by assumption) ?_ | refine zw_ialn rfl (by assumption) (by omega) ?_ | refine zw_laln rfl (by assumption) (by omega) ?_ | refine zw_iastn rfl (by omega) (by assumption) (by omega) ?_ | refine zw_lastn rfl (by assumption) (by omega) ?_ | refine zw_iald0 rfl (by assumption) (by omega) ?_ | refine zw_lald0 rfl (by assumption) (by omega) ?_ | refine zw_aaln rfl (by assumption) rfl (by omega) ?_ | refine zw_getR rfl (by assumption) (by assumption) ?_ | refine zw_alen rfl (by assumption) rfl ?_ | refine zw_iald rfl (by assumption) (by omega) (by omega) ?_ | refine zw_iast rfl (by omega) (by assumption) (by omega) (by omega) ?_ | refine zw_putI rfl (by assumption) ?_ | refine zw_lald rfl (by assumption) (by omega) (by omega) ?_ | refine zw_last rfl (by assumption) (by omega) (by omega) ?_ | refine zw_iadd rfl (by omega) (by omega) ?_ | refine zw_isub rfl (by omega) (by omega) ?_ | refine zw_iinc rfl rfl rfl (by omega) (by omega) ?_)
      refine zw_goto rfl ?_
      refine zw_eqv ?_ rfl ?_ (ih (i + 1) (by omega))
      · rfl
      · rw [z_u2_row, z_up_same, z_up_up, z_fil_s]
  have h0 := loop len 0 (by omega)
  rw [z_fil_0, z_up_self] at h0
  exact h0
theorem c_fillJ {d q len : Nat} {x : Int64} {k : ZK} {F I : Nat → Nat → Int} {L : Nat → Nat → Int64} {R : Nat → Nat → Option Nat} {Q : Option ZV → ZH → Prop} (hT : k.1 q = (3, len)) (hlen : len ≤ 65536) (K : Q none (k, F, I, z_up L q (z_fil (L q) len x), R)) : ZC (d + 1) 226 [.inr (.inr (some q)), .inr (.inl x)] (k, F, I, L, R) Q := by
  refine ze_Arrays_fillJ ?_
  repeat (refine zw_ne 6 rfl ?_; first | refine zw_t rfl rfl ?_ | refine zw_jump rfl rfl ?_ | refine zw_getI rfl rfl (by assumption) ?_ | refine zw_ialn rfl (by assumption) (by omega) ?_ | refine zw_laln rfl (by assumption) (by omega) ?_ | refine zw_iastn rfl (by omega) (by assumption) (by omega) ?_ | refine zw_lastn rfl (by assumption) (by omega) ?_ | refine zw_iald0 rfl (by assumption) (by omega) ?_ | refine zw_lald0 rfl (by assumption) (by omega) ?_ | refine zw_aaln rfl (by assumption) rfl (by omega) ?_ | refine zw_getR rfl (by assumption) (by assumption) ?_ | refine zw_alen rfl (by assumption) rfl ?_ | refine zw_iald rfl (by assumption) (by omega) (by omega) ?_ | refine zw_iast rfl (by omega) (by assumption) (by omega) (by omega) ?_ | refine zw_putI rfl (by assumption) ?_ | refine zw_lald rfl (by assumption) (by omega) (by omega) ?_ | refine zw_last rfl (by assumption) (by omega) (by omega) ?_ | refine zw_iadd rfl (by omega) (by omega) ?_ | refine zw_isub rfl (by omega) (by omega) ?_ | refine zw_iinc rfl rfl rfl (by omega) (by omega) ?_)
  have loop : ∀ (n i : Nat), n + i = len → ZW d 226 6 [some (.inr (.inr (some q))), some (.inr (.inl x)), none, some (.inl (i : Int)), some (.inl (len : Int))] [] (k, F, I, z_up L q (z_fil (L q) i x), R) Q := by
    intro n
    induction n with
    | zero =>
      intro i hi
      repeat (first | refine zw_t rfl rfl ?_ | refine zw_jump rfl rfl ?_ | refine zw_getI rfl rfl (by assumption) ?_ | refine zw_ialn rfl (by assumption) (by omega) ?_ | refine zw_laln rfl (by assumption) (by omega) ?_ | refine zw_iastn rfl (by omega) (by assumption) (by omega) ?_ | refine zw_lastn rfl (by assumption) (by omega) ?_ | refine zw_iald0 rfl (by assumption) (by omega) ?_ | refine zw_lald0 rfl (by assumption) (by omega) ?_ | refine zw_aaln rfl (by assumption) rfl (by omega) ?_ | refine zw_getR rfl (by assumption) (by assumption) ?_ | refine zw_alen rfl (by assumption) rfl ?_ | refine zw_iald rfl (by assumption) (by omega) (by omega) ?_ | refine zw_iast rfl (by omega) (by assumption) (by omega) (by omega) ?_ | refine zw_putI rfl (by assumption) ?_ | refine zw_lald rfl (by assumption) (by omega) (by omega) ?_ | refine zw_last rfl (by assumption) (by omega) (by omega) ?_ | refine zw_iadd rfl (by omega) (by omega) ?_ | refine zw_isub rfl (by omega) (by omega) ?_ | refine zw_iinc rfl rfl rfl (by omega) (by omega) ?_)
      refine zw_icmp_ge_t rfl (by omega) ?_
      refine zw_vret rfl ?_
      have e : i = len := by omega
      subst e
      exact K
    | succ n ih =>
      intro i hi
      repeat (first | refine zw_t rfl rfl ?_ | refine zw_jump rfl rfl ?_ | refine zw_getI rfl rfl (by assumption) ?_ | refine zw_ialn rfl (by assumption) (by omega) ?_ | refine zw_laln rfl (by assumption) (by omega) ?_ | refine zw_iastn rfl (by omega) (by assumption) (by omega) ?_ | refine zw_lastn rfl (by assumption) (by omega) ?_ | refine zw_iald0 rfl (by assumption) (by omega) ?_ | refine zw_lald0 rfl (by assumption) (by omega) ?_ | refine zw_aaln rfl (by assumption) rfl (by omega) ?_ | refine zw_getR rfl (by assumption) (by assumption) ?_ | refine zw_alen rfl (by assumption) rfl ?_ | refine zw_iald rfl (by assumption) (by omega) (by omega) ?_ | refine zw_iast rfl (by omega) (by assumption) (by omega) (by omega) ?_ | refine zw_putI rfl (by assumption) ?_ | refine zw_lald rfl (by assumption) (by omega) (by omega) ?_ | refine zw_last rfl (by assumption) (by omega) (by omega) ?_ | refine zw_iadd rfl (by omega) (by omega) ?_ | refine zw_isub rfl (by omega) (by omega) ?_ | refine zw_iinc rfl rfl rfl (by omega) (by omega) ?_)
      refine zw_icmp_ge_f rfl (by omega) ?_
      repeat (first | refine zw_t rfl rfl ?_ | refine zw_jump rfl rfl ?_ | refine zw_getI rfl rfl (by assumption) ?_ | refine zw_ialn rfl (by assumption) (by omega) ?_ | refine zw_laln rfl (by assumption) (by omega) ?_ | refine zw_iastn rfl (by omega) (by assumption) (by omega) ?_ | refine zw_lastn rfl (by assumption) (by omega) ?_ | refine zw_iald0 rfl (by assumption) (by omega) ?_ | refine zw_lald0 rfl (by assumption) (by omega) ?_ | refine zw_aaln rfl (by assumption) rfl (by omega) ?_ | refine zw_getR rfl (by assumption) (by assumption) ?_ | refine zw_alen rfl (by assumption) rfl ?_ | refine zw_iald rfl (by assumption) (by omega) (by omega) ?_ | refine zw_iast rfl (by omega) (by assumption) (by omega) (by omega) ?_ | refine zw_putI rfl (by assumption) ?_ | refine zw_lald rfl (by assumption) (by omega) (by omega) ?_ | refine zw_last rfl (by assumption) (by omega) (by omega) ?_ | refine zw_iadd rfl (by omega) (by omega) ?_ | refine zw_isub rfl (by omega) (by omega) ?_ | refine zw_iinc rfl rfl rfl (by omega) (by omega) ?_)
      refine zw_goto rfl ?_
      refine zw_eqv ?_ rfl ?_ (ih (i + 1) (by omega))
      · rfl
      · rw [z_u2_row, z_up_same, z_up_up, z_fil_s]
  have h0 := loop len 0 (by omega)
  rw [z_fil_0, z_up_self] at h0
  exact h0
