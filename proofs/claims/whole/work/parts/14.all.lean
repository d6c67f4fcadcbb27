/-! every step; every run; every call -/
theorem z_s_sound {M pc n a b t : Nat} {i : Instr} {ls : ZL} {st : List ZV} {h : ZH} {r : ZR} (hx : z_s i a b t n pc ls st h = some r) (hk : z_chk M pc i a b t n = true) (hkd : z_kind i a = 0) (hw : z_wf h) (hl : z_okl ls) (hs : z_oks st) : ZPR h r ∧ ZSim M pc ls st h r := by
  have hbig : ∀ {x : Nat}, (bif Nat.ble 9000 x then 0 else 2 : Nat) = 0 → Nat.ble 9000 x = true := by
    intro x hh
    cases hb : Nat.ble 9000 x with
    | true => rfl
    | false => rw [hb] at hh; cases hh
  cases i with
  | iconst c => cases hx; exact zx_iconst hk hw hl hs
  | bipush c => cases hx; exact zx_bipush hk hw hl hs
  | sipush c => cases hx; exact zx_sipush hk hw hl hs
  | lconst c => cases hx; exact zx_lconst hk hw hl hs
  | ldc c => cases hx; exact zx_ldc hk hw hl hs
  | ldc_w c => cases hx; exact zx_ldcw hk hw hl hs
  | ldc2_w c => cases hx; exact zx_ldc2 hk hw hl hs
  | aconst_null => cases hx; exact zx_null hk hw hl hs
  | iload_n k => exact zx_iload_n hx hk hw hl hs
  | iload k => exact zx_iload hx hk hw hl hs
  | lload_n k => exact zx_lload_n hx hk hw hl hs
  | lload k => exact zx_lload hx hk hw hl hs
  | aload_n k => exact zx_aload_n hx hk hw hl hs
  | aload k => exact zx_aload hx hk hw hl hs
  | istore_n k => exact zx_istore_n hx hk hw hl hs
  | istore k => exact zx_istore hx hk hw hl hs
  | lstore_n k => exact zx_lstore_n hx hk hw hl hs
  | lstore k => exact zx_lstore hx hk hw hl hs
  | astore_n k => exact zx_astore_n hx hk hw hl hs
  | astore k => exact zx_astore hx hk hw hl hs
  | iinc k c => exact zx_iinc hx hk hw hl hs
  | iadd => exact zx_iadd hx hk hw hl hs
  | isub => exact zx_isub hx hk hw hl hs
  | imul => exact zx_imul hx hk hw hl hs
  | idiv => exact zx_idiv hx hk hw hl hs
  | irem => exact zx_irem hx hk hw hl hs
  | iand => exact zx_iand hx hk hw hl hs
  | ior => exact zx_ior hx hk hw hl hs
  | ishr => exact zx_ishr hx hk hw hl hs
  | ladd => exact zx_ladd hx hk hw hl hs
  | lsub => exact zx_lsub hx hk hw hl hs
  | land => exact zx_land hx hk hw hl hs
  | lor => exact zx_lor hx hk hw hl hs
  | lxor => exact zx_lxor hx hk hw hl hs
  | lshl => exact zx_lshl hx hk hw hl hs
  | lushr => exact zx_lushr hx hk hw hl hs
  | lneg => exact zx_lneg hx hk hw hl hs
  | lcmp => exact zx_lcmp hx hk hw hl hs
  | i2l => exact zx_i2l hx hk hw hl hs
  | l2i => exact zx_l2i hx hk hw hl hs
  | i2b => exact zx_i2b hx hk hw hl hs
  | dup => exact zx_dup hx hk hw hl hs
  | dup2 => exact zx_dup2 hx hk hw hl hs
  | pop => exact zx_pop hx hk hw hl hs
  | ifCond c o => exact zx_if hx hk hw hl hs
  | if_icmp c o => exact zx_icmp hx hk hw hl hs
  | ifnonnull o => exact zx_ifnn hx hk hw hl hs
  | goto o => cases hx; exact zx_goto hk hw hl hs
  | tableswitch d lo hi os => exact zx_sw hx hk hw hl hs
  | getfield j => exact zx_getf hx hk hw hl hs
  | putfield j => exact zx_putf hx hk hw hl hs
  | getstatic j => cases hx; exact zx_gets hk hw hl hs
  | iaload => exact zx_iald hx hk hw hl hs
  | laload => exact zx_lald hx hk hw hl hs
  | aaload => exact zx_aald hx hk hw hl hs
  | iastore => exact zx_iast hx hk hw hl hs
  | lastore => exact zx_last hx hk hw hl hs
  | aastore => exact zx_aast hx hk hw hl hs
  | arraylength => exact zx_alen hx hk hw hl hs
  | new j => cases hx; exact zx_new hk hw hl hs
  | newarray ty => exact zx_newa hx hk hw hl hs
  | anewarray j => exact zx_anewa hx hk hw hl hs
  | invokespecial j => exact zx_oinit hx hk (hbig hkd) hw hl hs
  | invokestatic j => exact zx_copy hx hk (hbig hkd) hw hl hs
  | invokevirtual j => exact zx_clone hx hk (hbig hkd) hw hl hs
  | checkcast j => exact zx_ccast hx hk hw hl hs
  | _ => cases hx
/-- what a call leaves: good heaps and numbers, no cell lost -/
def ZCR (h : ZH) (r : Option ZV) (h' : ZH) : Prop := z_wf h' ∧ (∀ v, r = some v → z_ok v) ∧ h.1.2.2.1 ≤ h'.1.2.2.1 ∧ h.1.2.2.2 ≤ h'.1.2.2.2
theorem z_ret_spec {i : Instr} {t : Nat} {st : List ZV} {h h' : ZH} {r : Option ZV} (hx : z_ret i t st h = some (r, h')) (hs : z_oks st) : h' = h ∧ ∀ v, r = some v → z_ok v := by
  unfold z_ret at hx
  split at hx
  · rename_i x
    obtain ⟨hc, e⟩ := z_bif hx
    cases e
    exact ⟨rfl, fun v hv => by cases hv; exact hs _ List.mem_cons_self⟩
  · cases hx
    exact ⟨rfl, fun v hv => by cases hv; exact trivial⟩
  · cases hx
    exact ⟨rfl, fun v hv => by cases hv; exact trivial⟩
  · cases hx
    exact ⟨rfl, fun v hv => by cases hv⟩
  · cases hx
theorem z_oks_take {st : List ZV} {k : Nat} (h : z_oks st) : z_oks (st.take k).reverse := fun v hv => h v (List.mem_of_mem_take (List.mem_reverse.mp hv))
theorem z_oks_app {r : Option ZV} {st : List ZV} {k : Nat} (hr : ∀ v, r = some v → z_ok v) (h : z_oks st) : z_oks (r.toList ++ st.drop k) := by
  intro v hv
  rcases List.mem_append.mp hv with g | g
  · cases r with
    | none => cases g
    | some w =>
      have : v = w := by simpa using g
      exact hr v (by rw [this])
  · exact h v (List.mem_of_mem_drop g)
def ZChk : Prop := ∀ {M pc : Nat} {i : Instr} {a b t n : Nat}, z_tb M pc = some (i, a, b, t, n) → z_chk M pc i a b t n = true
theorem z_run_ok (hchk : ZChk) {call : Nat → List ZV → ZH → Option (Option ZV × ZH)} (hcall : ∀ m a h r h', call m a h = some (r, h') → z_wf h → z_oks a → ZCR h r h') {M : Nat} : ∀ n pc ls st h r h', z_run call M n pc ls st h = some (r, h') → z_wf h → z_okl ls → z_oks st → ZCR h r h' := by
  intro n
  induction n with
  | zero => intro pc ls st h r h' hr; simp [z_run] at hr
  | succ n ih =>
    intro pc ls st h r h' hr hw hl hs
    unfold z_run at hr
    cases ht : z_tb M pc with
    | none => rw [ht] at hr; cases hr
    | some e =>
      obtain ⟨i, a, b, t, n'⟩ := e
      rw [ht] at hr
      dsimp only at hr
      split at hr
      · rename_i hk
        cases hsx : z_s i a b t n' pc ls st h with
        | none => rw [hsx] at hr; cases hr
        | some q =>
          rw [hsx] at hr
          obtain ⟨⟨w1, w2, w3, w4, w5⟩, -⟩ := z_s_sound hsx (hchk ht) hk hw hl hs
          obtain ⟨g1, g2, g3, g4⟩ := ih _ _ _ _ _ _ hr w1 w2 w3
          exact ⟨g1, g2, by omega, by omega⟩
      · obtain ⟨e1, e2⟩ := z_ret_spec hr hs
        subst e1
        exact ⟨hw, e2, Nat.le_refl _, Nat.le_refl _⟩
      · cases hok : z_cok i b t st h with
        | false => rw [hok] at hr; cases hr
        | true =>
          rw [hok] at hr
          simp only [cond_true] at hr
          cases hq : call a (st.take b).reverse h with
          | none => rw [hq] at hr; cases hr
          | some q =>
            obtain ⟨r1, h1⟩ := q
            rw [hq] at hr
            obtain ⟨c1, c2, c3, c4⟩ := hcall _ _ _ _ _ hq hw (z_oks_take hs)
            obtain ⟨g1, g2, g3, g4⟩ := ih _ _ _ _ _ _ hr c1 hl (z_oks_app c2 hs)
            exact ⟨g1, g2, Nat.le_trans c3 g3, Nat.le_trans c4 g4⟩
theorem z_okl_arg : ∀ {args : List ZV} (k : Nat), z_oks args → z_okl (z_arg args ++ List.replicate k none)
  | [], k, _ => fun v hv => by
    simp only [z_arg, List.nil_append] at hv
    have := List.eq_of_mem_replicate hv
    cases this
  | .inl x :: vs, k, h => by
    simp only [z_oks_cons] at h
    intro v hv
    simp only [z_arg, List.cons_append, List.mem_cons] at hv
    rcases hv with g | g
    · cases g; exact h.1
    · exact z_okl_arg k h.2 v g
  | .inr (.inl x) :: vs, k, h => by
    simp only [z_oks_cons] at h
    intro v hv
    simp only [z_arg, List.cons_append, List.mem_cons] at hv
    rcases hv with g | g | g
    · cases g; exact trivial
    · cases g
    · exact z_okl_arg k h.2 v g
  | .inr (.inr x) :: vs, k, h => by
    simp only [z_oks_cons] at h
    intro v hv
    simp only [z_arg, List.cons_append, List.mem_cons] at hv
    rcases hv with g | g
    · cases g; exact trivial
    · exact z_okl_arg k h.2 v g
theorem z_ev_ok (hchk : ZChk) : ∀ d n m a h r h', z_ev d n m a h = some (r, h') → z_wf h → z_oks a → ZCR h r h' := by
  intro d
  induction d with
  | zero => intro n m a h r h' hr; simp [z_ev] at hr
  | succ d ih =>
    intro n m a h r h' hr hw hs
    unfold z_ev at hr
    cases hb : Nat.ble (z_arg a).length (z_ml m) with
    | false => rw [hb] at hr; cases hr
    | true =>
      rw [hb] at hr
      exact z_run_ok hchk (ih n) _ _ _ _ _ _ _ hr hw (z_okl_arg _ hs) (fun v hv => by cases hv)
