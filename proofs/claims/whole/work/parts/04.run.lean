/-- a method's run by steps -/
def z_run (call : Nat → List ZV → ZH → Option (Option ZV × ZH)) (m : Nat) : Nat → Nat → ZL → List ZV → ZH → Option (Option ZV × ZH)
  | 0, _, _, _, _ => none
  | n + 1, pc, ls, st, h => match z_tb m pc with
    | none => none
    | some (i, a, b, t, n') => match z_kind i a with
      | 0 => match z_s i a b t n' pc ls st h with
        | none => none
        | some r => z_run call m n r.1 r.2.1 r.2.2.1 r.2.2.2
      | 1 => z_ret i t st h
      | _ => bif z_cok i b t st h then (match call a (st.take b).reverse h with
        | none => none
        | some r => z_run call m n n' ls (r.1.toList ++ st.drop b) r.2) else none
def z_ev : Nat → Nat → Nat → List ZV → ZH → Option (Option ZV × ZH)
  | 0, _, _, _, _ => none
  | d + 1, n, m, args, h => bif Nat.ble (z_arg args).length (z_ml m) then z_run (z_ev d n) m n 0 (z_arg args ++ List.replicate (z_ml m - (z_arg args).length) none) [] h else none
theorem z_run_mono {c1 c2 : Nat → List ZV → ZH → Option (Option ZV × ZH)} (hc : ∀ m a h r, c1 m a h = some r → c2 m a h = some r) (m : Nat) :
    ∀ n n', n ≤ n' → ∀ pc ls st h r, z_run c1 m n pc ls st h = some r → z_run c2 m n' pc ls st h = some r := by
  intro n
  induction n with
  | zero => intro n' _ pc ls st h r hr; simp [z_run] at hr
  | succ n ih =>
    intro n' hn pc ls st h r hr
    obtain ⟨n', rfl⟩ : ∃ k, n' = k + 1 := ⟨n' - 1, by omega⟩
    have hn : n ≤ n' := by omega
    unfold z_run at hr ⊢
    cases ht : z_tb m pc with
    | none => rw [ht] at hr; simp at hr
    | some e =>
      obtain ⟨i, a, b, t, n2⟩ := e
      rw [ht] at hr
      dsimp only at hr ⊢
      split at hr
      · rename_i hk
        cases hs : z_s i a b t n2 pc ls st h with
        | none => rw [hs] at hr; simp at hr
        | some q => rw [hs] at hr; exact ih n' hn _ _ _ _ _ hr
      · exact hr
      · cases hok : z_cok i b t st h with
        | false => rw [hok] at hr; simp at hr
        | true =>
          rw [hok] at hr
          simp only [cond_true] at hr ⊢
          cases hq : c1 a (st.take b).reverse h with
          | none => rw [hq] at hr; simp at hr
          | some q => rw [hq] at hr; rw [hc _ _ _ _ hq]; exact ih n' hn _ _ _ _ _ hr
theorem z_ev_mono : ∀ (d n n' : Nat), n ≤ n' → ∀ m a h r, z_ev d n m a h = some r → z_ev d n' m a h = some r := by
  intro d
  induction d with
  | zero => intro n n' _ m a h r hr; simp [z_ev] at hr
  | succ d ih =>
    intro n n' hn m a h r hr
    unfold z_ev at hr ⊢
    cases hb : Nat.ble (z_arg a).length (z_ml m) with
    | false => rw [hb] at hr; simp at hr
    | true => rw [hb] at hr; exact z_run_mono (ih n n' hn) m n n' hn _ _ _ _ _ hr
theorem z_ev_deep : ∀ (d n : Nat), ∀ m a h r, z_ev d n m a h = some r → z_ev (d + 1) n m a h = some r := by
  intro d
  induction d with
  | zero => intro n m a h r hr; simp [z_ev] at hr
  | succ d ih =>
    intro n m a h r hr
    unfold z_ev at hr ⊢
    cases hb : Nat.ble (z_arg a).length (z_ml m) with
    | false => rw [hb] at hr; simp at hr
    | true => rw [hb] at hr; exact z_run_mono (ih n) m n n (Nat.le_refl _) _ _ _ _ _ hr
/-- a call of method m at depth d comes to an answer and a heap with Q -/
def ZC (d m : Nat) (args : List ZV) (h : ZH) (Q : Option ZV → ZH → Prop) : Prop := ∃ n r h', z_ev d n m args h = some (r, h') ∧ Q r h'
/-- method m, now at pc, comes to an answer and a heap with Q; its calls have depth d -/
def ZW (d m pc : Nat) (ls : ZL) (st : List ZV) (h : ZH) (Q : Option ZV → ZH → Prop) : Prop := ∃ n r h', z_run (z_ev d n) m n pc ls st h = some (r, h') ∧ Q r h'
theorem ZC.imp {d m : Nat} {args : List ZV} {h : ZH} {Q Q' : Option ZV → ZH → Prop} (k : ZC d m args h Q) (hq : ∀ r h', Q r h' → Q' r h') : ZC d m args h Q' := by
  obtain ⟨n, r, h', e, q⟩ := k
  exact ⟨n, r, h', e, hq r h' q⟩
theorem ZW.imp {d m pc : Nat} {ls : ZL} {st : List ZV} {h : ZH} {Q Q' : Option ZV → ZH → Prop} (k : ZW d m pc ls st h Q) (hq : ∀ r h', Q r h' → Q' r h') : ZW d m pc ls st h Q' := by
  obtain ⟨n, r, h', e, q⟩ := k
  exact ⟨n, r, h', e, hq r h' q⟩
theorem ZC.deep {d m : Nat} {args : List ZV} {h : ZH} {Q : Option ZV → ZH → Prop} (k : ZC d m args h Q) : ZC (d + 1) m args h Q := by
  obtain ⟨n, r, h', e, q⟩ := k
  exact ⟨n, r, h', z_ev_deep d n m args h _ e, q⟩
theorem ZC.le {d d' m : Nat} {args : List ZV} {h : ZH} {Q : Option ZV → ZH → Prop} (hd : d ≤ d') (k : ZC d m args h Q) : ZC d' m args h Q := by
  obtain ⟨j, rfl⟩ : ∃ j, d' = d + j := ⟨d' - d, by omega⟩
  clear hd
  induction j with
  | zero => exact k
  | succ j ih => exact ZC.deep ih
section ZRules
variable {d m pc : Nat} {ls : ZL} {st : List ZV} {h : ZH} {Q : Option ZV → ZH → Prop}
theorem zc_of {args : List ZV} {ls : ZL} (hle : Nat.ble (z_arg args).length (z_ml m) = true) (hl : z_arg args ++ List.replicate (z_ml m - (z_arg args).length) none = ls) (K : ZW d m 0 ls [] h Q) : ZC (d + 1) m args h Q := by
  obtain ⟨n, r, h', e, q⟩ := K
  refine ⟨n, r, h', ?_, q⟩
  unfold z_ev
  rw [hle, hl]
  exact e
theorem zw_go {i : Instr} {a b t n' : Nat} {pc' : Nat} {ls' : ZL} {st' : List ZV} {h' : ZH} (ht : z_tb m pc = some (i, a, b, t, n')) (hk : z_kind i a = 0) (hx : z_s i a b t n' pc ls st h = some (pc', ls', st', h')) (K : ZW d m pc' ls' st' h' Q) : ZW d m pc ls st h Q := by
  obtain ⟨n, r, h2, e1, q⟩ := K
  refine ⟨n + 1, r, h2, ?_, q⟩
  unfold z_run
  rw [ht]
  dsimp only
  rw [hk, hx]
  exact z_run_mono (z_ev_mono d n (n + 1) (by omega)) m n n (Nat.le_refl n) _ _ _ _ _ e1
theorem zw_rt {i : Instr} {a b t n' : Nat} {r : Option ZV} (ht : z_tb m pc = some (i, a, b, t, n')) (hk : z_kind i a = 1) (hx : z_ret i t st h = some (r, h)) (K : Q r h) : ZW d m pc ls st h Q := by
  refine ⟨1, r, h, ?_, K⟩
  unfold z_run
  rw [ht]
  dsimp only
  rw [hk]
  exact hx
theorem zw_cl {i : Instr} {a b t n' : Nat} (ht : z_tb m pc = some (i, a, b, t, n')) (hk : z_kind i a = 2) (hok : z_cok i b t st h = true) (K : ZC d a (st.take b).reverse h (fun r h' => ZW d m n' ls (r.toList ++ st.drop b) h' Q)) : ZW d m pc ls st h Q := by
  obtain ⟨n1, r1, h1, e1, n2, r2, h2, e2, q⟩ := K
  refine ⟨max n1 n2 + 1, r2, h2, ?_, q⟩
  unfold z_run
  rw [ht]
  dsimp only
  rw [hk, hok]
  dsimp only [cond_true]
  rw [z_ev_mono d n1 (max n1 n2 + 1) (by omega) _ _ _ _ e1]
  exact z_run_mono (z_ev_mono d n2 (max n1 n2 + 1) (by omega)) m n2 _ (by omega) _ _ _ _ _ e2
theorem zw_iret {x : Int} {a b n : Nat} (ht : z_tb m pc = some (.ireturn, a, b, 0, n)) (K : Q (some (.inl x)) h) : ZW d m pc ls [.inl x] h Q := zw_rt ht rfl rfl K
theorem zw_zret {x : Int} {a b n : Nat} (ht : z_tb m pc = some (.ireturn, a, b, 1, n)) (hx : x = 0 ∨ x = 1) (K : Q (some (.inl x)) h) : ZW d m pc ls [.inl x] h Q := by
  refine zw_rt ht rfl ?_ K
  rcases hx with rfl | rfl <;> rfl
theorem zw_lret {x : Int64} {a b t n : Nat} (ht : z_tb m pc = some (.lreturn, a, b, t, n)) (K : Q (some (.inr (.inl x))) h) : ZW d m pc ls [.inr (.inl x)] h Q := zw_rt ht rfl rfl K
theorem zw_aret {x : Option Nat} {a b t n : Nat} (ht : z_tb m pc = some (.areturn, a, b, t, n)) (K : Q (some (.inr (.inr x))) h) : ZW d m pc ls [.inr (.inr x)] h Q := zw_rt ht rfl rfl K
theorem zw_vret {a b t n : Nat} (ht : z_tb m pc = some (.return_, a, b, t, n)) (K : Q none h) : ZW d m pc ls [] h Q := zw_rt ht rfl rfl K
theorem zw_callv {i a b t n q : Nat} {as rest : List ZV} (ht : z_tb m pc = some (.invokevirtual i, a, b, t, n)) (ha : Nat.ble 9000 a = false) (hl : (st.take b).reverse = .inr (.inr (some q)) :: as) (hb : Nat.ble b st.length = true) (hd : st.drop b = rest) (hc : Nat.ble (rest.map z_cat).sum 8 = true) (hT : h.1.1 q = (1, t))
    (K : ZC d a (.inr (.inr (some q)) :: as) h (fun r h' => ZW d m n ls (r.toList ++ rest) h' Q)) : ZW d m pc ls st h Q := by
  refine zw_cl ht ?_ ?_ ?_
  · simp [z_kind, ha]
  · simp [z_cok, hb, hd, hc, hl, hT]
  · rw [hl, hd]
    exact K
theorem zw_calli {i a b t n q : Nat} {as rest : List ZV} (ht : z_tb m pc = some (.invokespecial i, a, b, t, n)) (ha : Nat.ble 9000 a = false) (hl : (st.take b).reverse = .inr (.inr (some q)) :: as) (hb : Nat.ble b st.length = true) (hd : st.drop b = rest) (hc : Nat.ble (rest.map z_cat).sum 8 = true)
    (K : ZC d a (.inr (.inr (some q)) :: as) h (fun r h' => ZW d m n ls (r.toList ++ rest) h' Q)) : ZW d m pc ls st h Q := by
  refine zw_cl ht ?_ ?_ ?_
  · simp [z_kind, ha]
  · simp [z_cok, hb, hd, hc, hl]
  · rw [hl, hd]
    exact K
theorem zw_calls {i a b t n : Nat} {as rest : List ZV} (ht : z_tb m pc = some (.invokestatic i, a, b, t, n)) (ha : Nat.ble 9000 a = false) (hl : (st.take b).reverse = as) (hb : Nat.ble b st.length = true) (hd : st.drop b = rest) (hc : Nat.ble (rest.map z_cat).sum 8 = true)
    (K : ZC d a as h (fun r h' => ZW d m n ls (r.toList ++ rest) h' Q)) : ZW d m pc ls st h Q := by
  refine zw_cl ht ?_ ?_ ?_
  · simp [z_kind, ha]
  · simp [z_cok, hb, hd, hc]
  · rw [hl, hd]
    exact K
theorem zw_iinc {i a b t n : Nat} {c x : Int} (ht : z_tb m pc = some (.iinc i c, a, b, t, n)) (hl : z_lg ls i = some (.inl x)) (ho : z_okst ls i 1 = true) (h1 : -2147483648 ≤ x + c) (h2 : x + c < 2147483648) (K : ZW d m n (z_ls ls i (some (.inl (x + c)))) st h Q) : ZW d m pc ls st h Q := by
  refine zw_go ht rfl ?_ K
  simp [z_s, z_iinc, hl, ho, z_inb_of h1 h2]
theorem zw_iadd {a b t n : Nat} {x y : Int} (ht : z_tb m pc = some (.iadd, a, b, t, n)) (h1 : -2147483648 ≤ x + y) (h2 : x + y < 2147483648) (K : ZW d m n ls (.inl (x + y) :: st) h Q) : ZW d m pc ls (.inl y :: .inl x :: st) h Q := by
  refine zw_go ht rfl ?_ K
  simp [z_s, z_ari, z_inb_of h1 h2]
theorem zw_isub {a b t n : Nat} {x y : Int} (ht : z_tb m pc = some (.isub, a, b, t, n)) (h1 : -2147483648 ≤ x - y) (h2 : x - y < 2147483648) (K : ZW d m n ls (.inl (x - y) :: st) h Q) : ZW d m pc ls (.inl y :: .inl x :: st) h Q := by
  refine zw_go ht rfl ?_ K
  simp [z_s, z_ari, z_inb_of h1 h2]
theorem zw_imul {a b t n : Nat} {x y : Int} (ht : z_tb m pc = some (.imul, a, b, t, n)) (h1 : -2147483648 ≤ x * y) (h2 : x * y < 2147483648) (K : ZW d m n ls (.inl (x * y) :: st) h Q) : ZW d m pc ls (.inl y :: .inl x :: st) h Q := by
  refine zw_go ht rfl ?_ K
  simp [z_s, z_ari, z_inb_of h1 h2]
theorem zw_idiv {a b t n : Nat} {x y : Int} (ht : z_tb m pc = some (.idiv, a, b, t, n)) (h1 : 0 ≤ x) (h2 : 0 < y) (K : ZW d m n ls (.inl (x / y) :: st) h Q) : ZW d m pc ls (.inl y :: .inl x :: st) h Q := by
  refine zw_go ht rfl ?_ K
  simp [z_s, z_div, h1, h2]
theorem zw_irem {a b t n : Nat} {x y : Int} (ht : z_tb m pc = some (.irem, a, b, t, n)) (h1 : 0 ≤ x) (h2 : 0 < y) (K : ZW d m n ls (.inl (x % y) :: st) h Q) : ZW d m pc ls (.inl y :: .inl x :: st) h Q := by
  refine zw_go ht rfl ?_ K
  simp [z_s, z_div, h1, h2]
theorem zw_iand {a b t n : Nat} {x y : Int} (ht : z_tb m pc = some (.iand, a, b, t, n)) (h1 : (decide (y = 1) || decide (y = 63) || decide (y = 127)) = true) (K : ZW d m n ls (.inl (x % (y + 1)) :: st) h Q) : ZW d m pc ls (.inl y :: .inl x :: st) h Q := by
  refine zw_go ht rfl ?_ K
  simp only [z_s, z_iand, h1, cond_true]
theorem zw_ior {a b t n : Nat} {x y : Int} (ht : z_tb m pc = some (.ior, a, b, t, n)) (h1 : x = 0 ∨ x = 1) (h2 : y = 0 ∨ y = 1) (K : ZW d m n ls (.inl (max x y) :: st) h Q) : ZW d m pc ls (.inl y :: .inl x :: st) h Q := by
  refine zw_go ht rfl ?_ K
  rcases h1 with rfl | rfl <;> rcases h2 with rfl | rfl <;> rfl
theorem zw_ishr {a b t n : Nat} {x y : Int} (ht : z_tb m pc = some (.ishr, a, b, t, n)) (h1 : 0 ≤ x) (h2 : 0 ≤ y) (h3 : y < 32) (K : ZW d m n ls (.inl (x / 2 ^ y.toNat) :: st) h Q) : ZW d m pc ls (.inl y :: .inl x :: st) h Q := by
  refine zw_go ht rfl ?_ K
  simp [z_s, z_ishr, h1, h2, h3]
end ZRules
section ZBranches
variable {d m pc : Nat} {ls : ZL} {st : List ZV} {h : ZH} {Q : Option ZV → ZH → Prop} {o : Int} {a b t n : Nat} {x y : Int}
theorem zw_icmp_lt_t (ht : z_tb m pc = some (.if_icmp .lt o, a, b, t, n)) (hc : x < y) (K : ZW d m a ls st h Q) : ZW d m pc ls (.inl y :: .inl x :: st) h Q := by
  refine zw_go ht rfl ?_ K
  simp [z_s, z_icmp, z_cmp, hc]
theorem zw_icmp_lt_f (ht : z_tb m pc = some (.if_icmp .lt o, a, b, t, n)) (hc : y ≤ x) (K : ZW d m n ls st h Q) : ZW d m pc ls (.inl y :: .inl x :: st) h Q := by
  refine zw_go ht rfl ?_ K
  have hc2 : ¬ (x < y) := by omega
  simp [z_s, z_icmp, z_cmp, hc2]
theorem zw_icmp_lt (ht : z_tb m pc = some (.if_icmp .lt o, a, b, t, n)) (k1 : x < y → ZW d m a ls st h Q) (k2 : y ≤ x → ZW d m n ls st h Q) : ZW d m pc ls (.inl y :: .inl x :: st) h Q := by
  by_cases hc : x < y
  · exact zw_icmp_lt_t ht hc (k1 hc)
  · exact zw_icmp_lt_f ht (by omega) (k2 (by omega))
theorem zw_if_lt_t (ht : z_tb m pc = some (.ifCond .lt o, a, b, t, n)) (hc : x < 0) (K : ZW d m a ls st h Q) : ZW d m pc ls (.inl x :: st) h Q := by
  refine zw_go ht rfl ?_ K
  simp [z_s, z_if, z_cmp, hc]
theorem zw_if_lt_f (ht : z_tb m pc = some (.ifCond .lt o, a, b, t, n)) (hc : 0 ≤ x) (K : ZW d m n ls st h Q) : ZW d m pc ls (.inl x :: st) h Q := by
  refine zw_go ht rfl ?_ K
  have hc2 : ¬ (x < 0) := by omega
  simp [z_s, z_if, z_cmp, hc2]
theorem zw_if_lt (ht : z_tb m pc = some (.ifCond .lt o, a, b, t, n)) (k1 : x < 0 → ZW d m a ls st h Q) (k2 : 0 ≤ x → ZW d m n ls st h Q) : ZW d m pc ls (.inl x :: st) h Q := by
  by_cases hc : x < 0
  · exact zw_if_lt_t ht hc (k1 hc)
  · exact zw_if_lt_f ht (by omega) (k2 (by omega))
theorem zw_icmp_ge_t (ht : z_tb m pc = some (.if_icmp .ge o, a, b, t, n)) (hc : y ≤ x) (K : ZW d m a ls st h Q) : ZW d m pc ls (.inl y :: .inl x :: st) h Q := by
  refine zw_go ht rfl ?_ K
  simp [z_s, z_icmp, z_cmp, hc]
theorem zw_icmp_ge_f (ht : z_tb m pc = some (.if_icmp .ge o, a, b, t, n)) (hc : x < y) (K : ZW d m n ls st h Q) : ZW d m pc ls (.inl y :: .inl x :: st) h Q := by
  refine zw_go ht rfl ?_ K
  have hc2 : ¬ (y ≤ x) := by omega
  simp [z_s, z_icmp, z_cmp, hc2]
theorem zw_icmp_ge (ht : z_tb m pc = some (.if_icmp .ge o, a, b, t, n)) (k1 : y ≤ x → ZW d m a ls st h Q) (k2 : x < y → ZW d m n ls st h Q) : ZW d m pc ls (.inl y :: .inl x :: st) h Q := by
  by_cases hc : y ≤ x
  · exact zw_icmp_ge_t ht hc (k1 hc)
  · exact zw_icmp_ge_f ht (by omega) (k2 (by omega))
theorem zw_if_ge_t (ht : z_tb m pc = some (.ifCond .ge o, a, b, t, n)) (hc : 0 ≤ x) (K : ZW d m a ls st h Q) : ZW d m pc ls (.inl x :: st) h Q := by
  refine zw_go ht rfl ?_ K
  simp [z_s, z_if, z_cmp, hc]
theorem zw_if_ge_f (ht : z_tb m pc = some (.ifCond .ge o, a, b, t, n)) (hc : x < 0) (K : ZW d m n ls st h Q) : ZW d m pc ls (.inl x :: st) h Q := by
  refine zw_go ht rfl ?_ K
  have hc2 : ¬ (0 ≤ x) := by omega
  simp [z_s, z_if, z_cmp, hc2]
theorem zw_if_ge (ht : z_tb m pc = some (.ifCond .ge o, a, b, t, n)) (k1 : 0 ≤ x → ZW d m a ls st h Q) (k2 : x < 0 → ZW d m n ls st h Q) : ZW d m pc ls (.inl x :: st) h Q := by
  by_cases hc : 0 ≤ x
  · exact zw_if_ge_t ht hc (k1 hc)
  · exact zw_if_ge_f ht (by omega) (k2 (by omega))
theorem zw_icmp_gt_t (ht : z_tb m pc = some (.if_icmp .gt o, a, b, t, n)) (hc : y < x) (K : ZW d m a ls st h Q) : ZW d m pc ls (.inl y :: .inl x :: st) h Q := by
  refine zw_go ht rfl ?_ K
  simp [z_s, z_icmp, z_cmp, hc]
theorem zw_icmp_gt_f (ht : z_tb m pc = some (.if_icmp .gt o, a, b, t, n)) (hc : x ≤ y) (K : ZW d m n ls st h Q) : ZW d m pc ls (.inl y :: .inl x :: st) h Q := by
  refine zw_go ht rfl ?_ K
  have hc2 : ¬ (y < x) := by omega
  simp [z_s, z_icmp, z_cmp, hc2]
theorem zw_icmp_gt (ht : z_tb m pc = some (.if_icmp .gt o, a, b, t, n)) (k1 : y < x → ZW d m a ls st h Q) (k2 : x ≤ y → ZW d m n ls st h Q) : ZW d m pc ls (.inl y :: .inl x :: st) h Q := by
  by_cases hc : y < x
  · exact zw_icmp_gt_t ht hc (k1 hc)
  · exact zw_icmp_gt_f ht (by omega) (k2 (by omega))
theorem zw_if_gt_t (ht : z_tb m pc = some (.ifCond .gt o, a, b, t, n)) (hc : 0 < x) (K : ZW d m a ls st h Q) : ZW d m pc ls (.inl x :: st) h Q := by
  refine zw_go ht rfl ?_ K
  simp [z_s, z_if, z_cmp, hc]
theorem zw_if_gt_f (ht : z_tb m pc = some (.ifCond .gt o, a, b, t, n)) (hc : x ≤ 0) (K : ZW d m n ls st h Q) : ZW d m pc ls (.inl x :: st) h Q := by
  refine zw_go ht rfl ?_ K
  have hc2 : ¬ (0 < x) := by omega
  simp [z_s, z_if, z_cmp, hc2]
theorem zw_if_gt (ht : z_tb m pc = some (.ifCond .gt o, a, b, t, n)) (k1 : 0 < x → ZW d m a ls st h Q) (k2 : x ≤ 0 → ZW d m n ls st h Q) : ZW d m pc ls (.inl x :: st) h Q := by
  by_cases hc : 0 < x
  · exact zw_if_gt_t ht hc (k1 hc)
  · exact zw_if_gt_f ht (by omega) (k2 (by omega))
theorem zw_icmp_le_t (ht : z_tb m pc = some (.if_icmp .le o, a, b, t, n)) (hc : x ≤ y) (K : ZW d m a ls st h Q) : ZW d m pc ls (.inl y :: .inl x :: st) h Q := by
  refine zw_go ht rfl ?_ K
  simp [z_s, z_icmp, z_cmp, hc]
theorem zw_icmp_le_f (ht : z_tb m pc = some (.if_icmp .le o, a, b, t, n)) (hc : y < x) (K : ZW d m n ls st h Q) : ZW d m pc ls (.inl y :: .inl x :: st) h Q := by
  refine zw_go ht rfl ?_ K
  have hc2 : ¬ (x ≤ y) := by omega
  simp [z_s, z_icmp, z_cmp, hc2]
theorem zw_icmp_le (ht : z_tb m pc = some (.if_icmp .le o, a, b, t, n)) (k1 : x ≤ y → ZW d m a ls st h Q) (k2 : y < x → ZW d m n ls st h Q) : ZW d m pc ls (.inl y :: .inl x :: st) h Q := by
  by_cases hc : x ≤ y
  · exact zw_icmp_le_t ht hc (k1 hc)
  · exact zw_icmp_le_f ht (by omega) (k2 (by omega))
theorem zw_if_le_t (ht : z_tb m pc = some (.ifCond .le o, a, b, t, n)) (hc : x ≤ 0) (K : ZW d m a ls st h Q) : ZW d m pc ls (.inl x :: st) h Q := by
  refine zw_go ht rfl ?_ K
  simp [z_s, z_if, z_cmp, hc]
theorem zw_if_le_f (ht : z_tb m pc = some (.ifCond .le o, a, b, t, n)) (hc : 0 < x) (K : ZW d m n ls st h Q) : ZW d m pc ls (.inl x :: st) h Q := by
  refine zw_go ht rfl ?_ K
  have hc2 : ¬ (x ≤ 0) := by omega
  simp [z_s, z_if, z_cmp, hc2]
theorem zw_if_le (ht : z_tb m pc = some (.ifCond .le o, a, b, t, n)) (k1 : x ≤ 0 → ZW d m a ls st h Q) (k2 : 0 < x → ZW d m n ls st h Q) : ZW d m pc ls (.inl x :: st) h Q := by
  by_cases hc : x ≤ 0
  · exact zw_if_le_t ht hc (k1 hc)
  · exact zw_if_le_f ht (by omega) (k2 (by omega))
theorem zw_icmp_eq_t (ht : z_tb m pc = some (.if_icmp .eq o, a, b, t, n)) (hc : x = y) (K : ZW d m a ls st h Q) : ZW d m pc ls (.inl y :: .inl x :: st) h Q := by
  refine zw_go ht rfl ?_ K
  simp [z_s, z_icmp, z_cmp, hc]
theorem zw_icmp_eq_f (ht : z_tb m pc = some (.if_icmp .eq o, a, b, t, n)) (hc : ¬ x = y) (K : ZW d m n ls st h Q) : ZW d m pc ls (.inl y :: .inl x :: st) h Q := by
  refine zw_go ht rfl ?_ K
  simp [z_s, z_icmp, z_cmp, hc]
theorem zw_icmp_eq (ht : z_tb m pc = some (.if_icmp .eq o, a, b, t, n)) (k1 : x = y → ZW d m a ls st h Q) (k2 : ¬ x = y → ZW d m n ls st h Q) : ZW d m pc ls (.inl y :: .inl x :: st) h Q := by
  by_cases hc : x = y
  · exact zw_icmp_eq_t ht hc (k1 hc)
  · exact zw_icmp_eq_f ht (by omega) (k2 (by omega))
theorem zw_if_eq_t (ht : z_tb m pc = some (.ifCond .eq o, a, b, t, n)) (hc : x = 0) (K : ZW d m a ls st h Q) : ZW d m pc ls (.inl x :: st) h Q := by
  refine zw_go ht rfl ?_ K
  simp [z_s, z_if, z_cmp, hc]
theorem zw_if_eq_f (ht : z_tb m pc = some (.ifCond .eq o, a, b, t, n)) (hc : ¬ x = 0) (K : ZW d m n ls st h Q) : ZW d m pc ls (.inl x :: st) h Q := by
  refine zw_go ht rfl ?_ K
  simp [z_s, z_if, z_cmp, hc]
theorem zw_if_eq (ht : z_tb m pc = some (.ifCond .eq o, a, b, t, n)) (k1 : x = 0 → ZW d m a ls st h Q) (k2 : ¬ x = 0 → ZW d m n ls st h Q) : ZW d m pc ls (.inl x :: st) h Q := by
  by_cases hc : x = 0
  · exact zw_if_eq_t ht hc (k1 hc)
  · exact zw_if_eq_f ht (by omega) (k2 (by omega))
theorem zw_icmp_ne_t (ht : z_tb m pc = some (.if_icmp .ne o, a, b, t, n)) (hc : ¬ x = y) (K : ZW d m a ls st h Q) : ZW d m pc ls (.inl y :: .inl x :: st) h Q := by
  refine zw_go ht rfl ?_ K
  simp [z_s, z_icmp, z_cmp, hc]
theorem zw_icmp_ne_f (ht : z_tb m pc = some (.if_icmp .ne o, a, b, t, n)) (hc : x = y) (K : ZW d m n ls st h Q) : ZW d m pc ls (.inl y :: .inl x :: st) h Q := by
  refine zw_go ht rfl ?_ K
  simp [z_s, z_icmp, z_cmp, hc]
theorem zw_icmp_ne (ht : z_tb m pc = some (.if_icmp .ne o, a, b, t, n)) (k1 : ¬ x = y → ZW d m a ls st h Q) (k2 : x = y → ZW d m n ls st h Q) : ZW d m pc ls (.inl y :: .inl x :: st) h Q := by
  by_cases hc : ¬ x = y
  · exact zw_icmp_ne_t ht hc (k1 hc)
  · exact zw_icmp_ne_f ht (by omega) (k2 (by omega))
theorem zw_if_ne_t (ht : z_tb m pc = some (.ifCond .ne o, a, b, t, n)) (hc : ¬ x = 0) (K : ZW d m a ls st h Q) : ZW d m pc ls (.inl x :: st) h Q := by
  refine zw_go ht rfl ?_ K
  simp [z_s, z_if, z_cmp, hc]
theorem zw_if_ne_f (ht : z_tb m pc = some (.ifCond .ne o, a, b, t, n)) (hc : x = 0) (K : ZW d m n ls st h Q) : ZW d m pc ls (.inl x :: st) h Q := by
  refine zw_go ht rfl ?_ K
  simp [z_s, z_if, z_cmp, hc]
theorem zw_if_ne (ht : z_tb m pc = some (.ifCond .ne o, a, b, t, n)) (k1 : ¬ x = 0 → ZW d m a ls st h Q) (k2 : x = 0 → ZW d m n ls st h Q) : ZW d m pc ls (.inl x :: st) h Q := by
  by_cases hc : ¬ x = 0
  · exact zw_if_ne_t ht hc (k1 hc)
  · exact zw_if_ne_f ht (by omega) (k2 (by omega))
end ZBranches
section ZHeap
variable {d m pc : Nat} {ls : ZL} {st : List ZV} {Q : Option ZV → ZH → Prop} {i a b t n q len : Nat} {x j : Int} {k : ZK} {F I : Nat → Nat → Int} {L : Nat → Nat → Int64} {R : Nat → Nat → Option Nat}
theorem zw_getI (ht : z_tb m pc = some (.getfield i, a, b, t, n)) (hb : Nat.beq t 2 = false) (hT : k.1 q = (1, a)) (K : ZW d m n ls (.inl (F q b) :: st) (k, F, I, L, R) Q) : ZW d m pc ls (.inr (.inr (some q)) :: st) (k, F, I, L, R) Q := by
  refine zw_go ht rfl ?_ K
  simp [z_s, z_getf, hT, hb]
theorem zw_getR {r : Option Nat} (ht : z_tb m pc = some (.getfield i, a, b, 2, n)) (hT : k.1 q = (1, a)) (hG : k.2.1 q b = r) (K : ZW d m n ls (.inr (.inr r) :: st) (k, F, I, L, R) Q) : ZW d m pc ls (.inr (.inr (some q)) :: st) (k, F, I, L, R) Q := by
  refine zw_go ht rfl ?_ K
  simp [z_s, z_getf, hT, hG]
theorem zw_putI (ht : z_tb m pc = some (.putfield i, a, b, 0, n)) (hT : k.1 q = (1, a)) (K : ZW d m n ls st (k, z_u2 F q b x, I, L, R) Q) : ZW d m pc ls (.inl x :: .inr (.inr (some q)) :: st) (k, F, I, L, R) Q := by
  refine zw_go ht rfl ?_ K
  simp [z_s, z_putf, hT]
theorem zw_putZ (ht : z_tb m pc = some (.putfield i, a, b, 1, n)) (hT : k.1 q = (1, a)) (hx : x = 0 ∨ x = 1) (K : ZW d m n ls st (k, z_u2 F q b x, I, L, R) Q) : ZW d m pc ls (.inl x :: .inr (.inr (some q)) :: st) (k, F, I, L, R) Q := by
  refine zw_go ht rfl ?_ K
  rcases hx with rfl | rfl <;> simp [z_s, z_putf, hT]
theorem zw_putR {r : Option Nat} (ht : z_tb m pc = some (.putfield i, a, b, 2, n)) (hT : k.1 q = (1, a)) (K : ZW d m n ls st ((k.1, z_u2 k.2.1 q b r, k.2.2), F, I, L, R) Q) : ZW d m pc ls (.inr (.inr r) :: .inr (.inr (some q)) :: st) (k, F, I, L, R) Q := by
  refine zw_go ht rfl ?_ K
  simp [z_s, z_putf, hT]
theorem zw_iald (ht : z_tb m pc = some (.iaload, a, b, t, n)) (hT : k.1 q = (2, len)) (h0 : 0 ≤ j) (h1 : j < len) (K : ZW d m n ls (.inl (I q j.toNat) :: st) (k, F, I, L, R) Q) : ZW d m pc ls (.inl j :: .inr (.inr (some q)) :: st) (k, F, I, L, R) Q := by
  refine zw_go ht rfl ?_ K
  simp [z_s, z_iald, hT, h0, h1]
theorem zw_lald (ht : z_tb m pc = some (.laload, a, b, t, n)) (hT : k.1 q = (3, len)) (h0 : 0 ≤ j) (h1 : j < len) (K : ZW d m n ls (.inr (.inl (L q j.toNat)) :: st) (k, F, I, L, R) Q) : ZW d m pc ls (.inl j :: .inr (.inr (some q)) :: st) (k, F, I, L, R) Q := by
  refine zw_go ht rfl ?_ K
  simp [z_s, z_lald, hT, h0, h1]
theorem zw_aald {t' : Nat} (ht : z_tb m pc = some (.aaload, a, b, t, n)) (hT : k.1 q = (t', len)) (ht' : (Nat.ble 4 t' && Nat.ble t' 6) = true) (h0 : 0 ≤ j) (h1 : j < len) (K : ZW d m n ls (.inr (.inr (R q j.toNat)) :: st) (k, F, I, L, R) Q) : ZW d m pc ls (.inl j :: .inr (.inr (some q)) :: st) (k, F, I, L, R) Q := by
  refine zw_go ht rfl ?_ K
  simp only [Bool.and_eq_true] at ht'
  simp [z_s, z_aald, hT, h0, h1, ht'.1, ht'.2]
theorem zw_iast (ht : z_tb m pc = some (.iastore, a, b, t, n)) (hq : 2 ≤ q) (hT : k.1 q = (2, len)) (h0 : 0 ≤ j) (h1 : j < len) (K : ZW d m n ls st (k, F, z_u2 I q j.toNat x, L, R) Q) : ZW d m pc ls (.inl x :: .inl j :: .inr (.inr (some q)) :: st) (k, F, I, L, R) Q := by
  refine zw_go ht rfl ?_ K
  simp [z_s, z_iast, hT, h0, h1, Nat.ble_eq_true_of_le hq]
theorem zw_last {x : Int64} (ht : z_tb m pc = some (.lastore, a, b, t, n)) (hT : k.1 q = (3, len)) (h0 : 0 ≤ j) (h1 : j < len) (K : ZW d m n ls st (k, F, I, z_u2 L q j.toNat x, R) Q) : ZW d m pc ls (.inr (.inl x) :: .inl j :: .inr (.inr (some q)) :: st) (k, F, I, L, R) Q := by
  refine zw_go ht rfl ?_ K
  simp [z_s, z_last, hT, h0, h1]
theorem zw_aast {t' v : Nat} {kv : Nat × Nat} (ht : z_tb m pc = some (.aastore, a, b, t, n)) (hT : k.1 q = (t', len)) (ht' : (Nat.ble 4 t' && Nat.ble t' 6) = true) (hv : k.1 v = kv) (hf : z_fit t' kv = true) (h0 : 0 ≤ j) (h1 : j < len) (K : ZW d m n ls st (k, F, I, L, z_u2 R q j.toNat (some v)) Q) : ZW d m pc ls (.inr (.inr (some v)) :: .inl j :: .inr (.inr (some q)) :: st) (k, F, I, L, R) Q := by
  refine zw_go ht rfl ?_ K
  simp only [Bool.and_eq_true] at ht'
  simp [z_s, z_aast, hT, hv, hf, h0, h1, ht'.1, ht'.2]
theorem zw_alen {t' : Nat} (ht : z_tb m pc = some (.arraylength, a, b, t, n)) (hT : k.1 q = (t', len)) (ht' : (Nat.ble 2 t' && Nat.ble t' 6) = true) (K : ZW d m n ls (.inl (len : Int) :: st) (k, F, I, L, R) Q) : ZW d m pc ls (.inr (.inr (some q)) :: st) (k, F, I, L, R) Q := by
  refine zw_go ht rfl ?_ K
  simp only [Bool.and_eq_true] at ht'
  simp [z_s, z_alen, hT, ht'.1, ht'.2]
theorem zw_newa {ty : ClassFile.ArrayType} (ht : z_tb m pc = some (.newarray ty, a, b, t, n)) (h0 : 0 ≤ x) (h1 : x ≤ 65536) (K : ZW d m n ls (.inr (.inr (some k.2.2.1)) :: st) (z_born (k, F, I, L, R) (a, x.toNat) x.toNat) Q) : ZW d m pc ls (.inl x :: st) (k, F, I, L, R) Q := by
  refine zw_go ht rfl ?_ K
  simp [z_s, z_newa, h0, h1]
theorem zw_anewa (ht : z_tb m pc = some (.anewarray i, a, b, t, n)) (h0 : 0 ≤ x) (h1 : x ≤ 65536) (K : ZW d m n ls (.inr (.inr (some k.2.2.1)) :: st) (z_born (k, F, I, L, R) (a, x.toNat) x.toNat) Q) : ZW d m pc ls (.inl x :: st) (k, F, I, L, R) Q := by
  refine zw_go ht rfl ?_ K
  simp [z_s, z_newa, h0, h1]
theorem zw_copyI {r len' : Nat} (ht : z_tb m pc = some (.invokestatic i, 9998, b, t, n)) (hq : 2 ≤ q) (hr : 2 ≤ r) (hT : k.1 q = (2, len)) (hT' : k.1 r = (2, len')) (h0 : 0 ≤ x) (h1 : x ≤ len) (h2 : x ≤ len') (hne : q ≠ r) (hc : Nat.ble (st.map z_cat).sum 8 = true) (K : ZW d m n ls st (k, F, z_up I q (z_cpf x.toNat (I r) (I q)), L, R) Q) : ZW d m pc ls (.inl x :: .inl 0 :: .inr (.inr (some q)) :: .inl 0 :: .inr (.inr (some r)) :: st) (k, F, I, L, R) Q := by
  refine zw_go ht rfl ?_ K
  simp [z_s, z_copy, hT, hT', h0, h1, h2, hne, Nat.ble_eq_true_of_le hq, Nat.ble_eq_true_of_le hr, hc]
theorem zw_copyL {r len' : Nat} (ht : z_tb m pc = some (.invokestatic i, 9998, b, t, n)) (hq : 2 ≤ q) (hr : 2 ≤ r) (hT : k.1 q = (3, len)) (hT' : k.1 r = (3, len')) (h0 : 0 ≤ x) (h1 : x ≤ len) (h2 : x ≤ len') (hne : q ≠ r) (hc : Nat.ble (st.map z_cat).sum 8 = true) (K : ZW d m n ls st (k, F, I, z_up L q (z_cpf x.toNat (L r) (L q)), R) Q) : ZW d m pc ls (.inl x :: .inl 0 :: .inr (.inr (some q)) :: .inl 0 :: .inr (.inr (some r)) :: st) (k, F, I, L, R) Q := by
  refine zw_go ht rfl ?_ K
  simp [z_s, z_copy, hT, hT', h0, h1, h2, hne, Nat.ble_eq_true_of_le hq, Nat.ble_eq_true_of_le hr, hc]
  rfl
theorem zw_clone (ht : z_tb m pc = some (.invokevirtual i, 9997, b, t, n)) (hq : 2 ≤ q) (hT : k.1 q = (3, len)) (h1 : len ≤ 65536) (hc : Nat.ble (st.map z_cat).sum 8 = true) (K : ZW d m n ls (.inr (.inr (some k.2.2.1)) :: st) ((z_born (k, F, I, L, R) (3, len) len).1, (z_born (k, F, I, L, R) (3, len) len).2.1, (z_born (k, F, I, L, R) (3, len) len).2.2.1, z_up L k.2.2.1 (L q), (z_born (k, F, I, L, R) (3, len) len).2.2.2.2) Q) : ZW d m pc ls (.inr (.inr (some q)) :: st) (k, F, I, L, R) Q := by
  refine zw_go ht rfl ?_ K
  have h1' : Nat.ble len 65536 = true := Nat.ble_eq_true_of_le h1
  simp [z_s, z_clone, hT, Nat.ble_eq_true_of_le hq, hc, h1, h1']
theorem zw_ccast (ht : z_tb m pc = some (.checkcast i, a, b, t, n)) (hq : 2 ≤ q) (hT : k.1 q = (3, len)) (K : ZW d m n ls (.inr (.inr (some q)) :: st) (k, F, I, L, R) Q) : ZW d m pc ls (.inr (.inr (some q)) :: st) (k, F, I, L, R) Q := by
  refine zw_go ht rfl ?_ K
  simp [z_s, z_ccast, hT, Nat.ble_eq_true_of_le hq]
end ZHeap
theorem z_up_same {α : Type} (f : Nat → α) (a : Nat) (v : α) : z_up f a v a = v := by simp [z_up]
theorem z_up_ne {α : Type} (f : Nat → α) {a b : Nat} (v : α) (h : b ≠ a) : z_up f a v b = f b := by simp [z_up, h]
theorem z_u2_same {α : Type} (f : Nat → Nat → α) (a k : Nat) (v : α) : z_u2 f a k v a k = v := by simp [z_u2]
theorem z_u2_na {α : Type} (f : Nat → Nat → α) {a x : Nat} (k y : Nat) (v : α) (h : x ≠ a) : z_u2 f a k v x y = f x y := by simp [z_u2, h]
theorem z_u2_nk {α : Type} (f : Nat → Nat → α) (a x : Nat) {k y : Nat} (v : α) (h : y ≠ k) : z_u2 f a k v x y = f x y := by simp [z_u2, h]
theorem z_u2_row {α : Type} (f : Nat → Nat → α) (a k : Nat) (v : α) : z_u2 f a k v = z_up f a (z_up (f a) k v) := by
  funext x y
  by_cases h : x = a
  · subst h; simp [z_u2, z_up]
  · simp [z_u2, z_up, h]
theorem z_up_up {α : Type} (f : Nat → α) (a : Nat) (v w : α) : z_up (z_up f a v) a w = z_up f a w := by
  funext x
  by_cases h : x = a <;> simp [z_up, h]
theorem z_up_self {α : Type} (f : Nat → α) (a : Nat) : z_up f a (f a) = f := by
  funext x
  by_cases h : x = a
  · subst h; simp [z_up]
  · simp [z_up, h]
theorem z_up_comm {α : Type} (f : Nat → α) {a b : Nat} (h : a ≠ b) (v w : α) : z_up (z_up f a v) b w = z_up (z_up f b w) a v := by
  funext x
  by_cases h1 : x = a
  · subst h1; simp [z_up, h]
  · by_cases h2 : x = b
    · subst h2; simp [z_up, h1]
    · simp [z_up, h1, h2]
def z_simple : Instr → Bool
  | .iconst _ => true
  | .bipush _ => true
  | .sipush _ => true
  | .lconst _ => true
  | .ldc _ => true
  | .ldc_w _ => true
  | .ldc2_w _ => true
  | .aconst_null => true
  | .iload_n _ => true
  | .iload _ => true
  | .lload_n _ => true
  | .lload _ => true
  | .aload_n _ => true
  | .aload _ => true
  | .istore_n _ => true
  | .istore _ => true
  | .lstore_n _ => true
  | .lstore _ => true
  | .astore_n _ => true
  | .astore _ => true
  | .ladd => true
  | .lsub => true
  | .land => true
  | .lor => true
  | .lxor => true
  | .lshl => true
  | .lushr => true
  | .lneg => true
  | .lcmp => true
  | .i2l => true
  | .l2i => true
  | .i2b => true
  | .dup => true
  | .dup2 => true
  | .pop => true
  | .getstatic _ => true
  | .new _ => true
  | .invokespecial _ => true
  | _ => false
theorem zw_s {d m pc : Nat} {ls : ZL} {st : List ZV} {h : ZH} {Q : Option ZV → ZH → Prop} {i : Instr} {a b t n' : Nat} {pc' : Nat} {ls' : ZL} {st' : List ZV} {h' : ZH} (ht : z_tb m pc = some (i, a, b, t, n')) (hs : z_simple i = true) (hk : z_kind i a = 0) (hx : z_s i a b t n' pc ls st h = some (pc', ls', st', h')) (K : ZW d m pc' ls' st' h' Q) : ZW d m pc ls st h Q := zw_go ht hk hx K
theorem zw_goto {d m pc : Nat} {ls : ZL} {st : List ZV} {h : ZH} {Q : Option ZV → ZH → Prop} {o : Int} {a b t n : Nat} (ht : z_tb m pc = some (.goto o, a, b, t, n)) (K : ZW d m a ls st h Q) : ZW d m pc ls st h Q := zw_go ht rfl rfl K
/-- a jump ahead (a jump back is a loop's) -/
theorem zw_jump {d m pc : Nat} {ls : ZL} {st : List ZV} {h : ZH} {Q : Option ZV → ZH → Prop} {o : Int} {a b t n : Nat} (ht : z_tb m pc = some (.goto o, a, b, t, n)) (_ : Nat.ble n a = true) (K : ZW d m a ls st h Q) : ZW d m pc ls st h Q := zw_goto ht K
theorem zw_nn_some {d m pc : Nat} {ls : ZL} {st : List ZV} {h : ZH} {Q : Option ZV → ZH → Prop} {o : Int} {a b t n q : Nat} (ht : z_tb m pc = some (.ifnonnull o, a, b, t, n)) (K : ZW d m a ls st h Q) : ZW d m pc ls (.inr (.inr (some q)) :: st) h Q := zw_go ht rfl rfl K
theorem zw_nn_none {d m pc : Nat} {ls : ZL} {st : List ZV} {h : ZH} {Q : Option ZV → ZH → Prop} {o : Int} {a b t n : Nat} (ht : z_tb m pc = some (.ifnonnull o, a, b, t, n)) (K : ZW d m n ls st h Q) : ZW d m pc ls (.inr (.inr none) :: st) h Q := zw_go ht rfl rfl K
theorem zw_sw {d m pc : Nat} {ls : ZL} {st : List ZV} {h : ZH} {Q : Option ZV → ZH → Prop} {dd lo hi : Int} {os : Array Int} {a b t n p' : Nat} {x : Int} (ht : z_tb m pc = some (.tableswitch dd lo hi os, a, b, t, n)) (hp : z_swt pc dd lo hi os.toList x = p') (K : ZW d m p' ls st h Q) : ZW d m pc ls (.inl x :: st) h Q := by
  subst hp
  exact zw_go ht rfl rfl K
