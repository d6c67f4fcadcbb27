/-! A RUN of the pure machine is a run of the machine -/
section ZRun
variable {M : Nat} {σ : ZS} {p : Program} {l : Launch} {e : Env} {R : Room} {s : State} {m : MethodId} {args : Array Value} {below : List Frame} {meth : Method} {c : Code} {Q : State → Prop}
theorem z_run_sim (hchk : ZChk) {d n0 ce se : Nat} {r : Option ZV} {h' : ZH} (hmet : ZMet l σ d) (hX : ZX σ M p s m args meth c) (hRf : d + 1 ≤ R.frames) (hRl : 64 * (d + 1) ≤ R.locals) (hce : ce ≤ R.cells) (hse : se ≤ R.slots)
    (hret : ∀ (pc : Nat) (i : Instr) (a b t n : Nat) (st : List ZV), z_tb M pc = some (i, a, b, t, n) → z_kind i a = 1 → z_ret i t st h' = some (r, h') → ∀ (H : Heap) (rls : Array Slot) (locs : List Loc), ZP σ h' H → (∀ q ∈ locs, (z_H0 σ).size ≤ q.base) → W p l e R s m args below meth c H locs ce se Q (F0 m pc rls (st.map (z_rv σ)))) :
    ∀ (n pc : Nat) (ls : ZL) (st : List ZV) (h : ZH), z_run (z_ev d n0) M n pc ls st h = some (r, h') → z_wf h → z_okl ls → z_oks st → ∀ (H : Heap) (rls : Array Slot) (locs : List Loc) (cells slots : Nat), ZP σ h H → z_lok σ (z_ml M) ls rls → (∀ q ∈ locs, (z_H0 σ).size ≤ q.base) → cells + (h'.1.2.2.1 - h.1.2.2.1) = ce → slots + (h'.1.2.2.2 - h.1.2.2.2) = se →
      W p l e R s m args below meth c H locs cells slots Q (F0 m pc rls (st.map (z_rv σ))) := by
  intro n
  induction n with
  | zero => intro pc ls st h hr; simp [z_run] at hr
  | succ n ih =>
    intro pc ls st h hr hw hl hs H rls locs cells slots hP hL hlocs hcc hss
    unfold z_run at hr
    cases ht : z_tb M pc with
    | none => rw [ht] at hr; cases hr
    | some e0 =>
      obtain ⟨i, a, b, t, n'⟩ := e0
      rw [ht] at hr
      dsimp only at hr
      split at hr
      · rename_i hk
        cases hsx : z_s i a b t n' pc ls st h with
        | none => rw [hsx] at hr; cases hr
        | some q =>
          rw [hsx] at hr
          obtain ⟨⟨w1, w2, w3, w4, w5⟩, hsim⟩ := z_s_sound hsx (hchk ht) hk hw hl hs
          obtain ⟨g1, g2, g3, g4⟩ := z_run_ok hchk (z_ev_ok hchk d n0) _ _ _ _ _ _ _ hr w1 w2 w3
          refine hsim σ p l e R s m args below meth c Q H rls locs cells slots hX (by omega) (by omega) hP hL hlocs (by omega) (by omega) (fun H' rls' locs' hP' hL' hlocs' => ?_)
          exact ih _ _ _ _ hr w1 w2 w3 H' rls' locs' _ _ hP' hL' hlocs' (by omega) (by omega)
      · rename_i hk
        obtain ⟨e1, e2⟩ := z_ret_spec hr hs
        subst e1
        have hcc : cells = ce := by omega
        have hss : slots = se := by omega
        subst hcc; subst hss
        exact hret pc i a b t n' st ht hk hr H rls locs hP hlocs
      · rename_i hk0 hk1
        cases hok : z_cok i b t st h with
        | false => rw [hok] at hr; cases hr
        | true =>
          rw [hok] at hr
          simp only [cond_true] at hr
          cases hq : z_ev d n0 a (st.take b).reverse h with
          | none => rw [hq] at hr; cases hr
          | some q =>
            obtain ⟨r1, h1⟩ := q
            rw [hq] at hr
            dsimp only at hr
            obtain ⟨c1, c2, c3, c4⟩ := z_ev_ok hchk d n0 _ _ _ _ _ hq hw (z_oks_take hs)
            obtain ⟨g1, g2, g3, g4⟩ := z_run_ok hchk (z_ev_ok hchk d n0) _ _ _ _ _ _ _ hr c1 hl (z_oks_app c2 hs)
            have hkd : z_kind i a = 2 := by
              have h012 : z_kind i a = 0 ∨ z_kind i a = 1 ∨ z_kind i a = 2 := by
                unfold z_kind
                cases i <;> first | exact Or.inl rfl | exact Or.inr (Or.inl rfl) | (cases Nat.ble 9000 a <;> first | exact Or.inl rfl | exact Or.inr (Or.inr rfl))
              rcases h012 with g | g | g
              · exact absurd g hk0
              · exact absurd g hk1
              · exact g
            refine z_call hmet (hchk ht) hkd hok hq hw hs hX hRf hRl hP hL hlocs (by omega) (by omega) (fun H' locs' hP' hlocs' => ?_)
            exact ih _ _ _ _ hr c1 hl (z_oks_app c2 hs) H' rls locs' _ _ hP' hL hlocs' (by omega) (by omega)
theorem z_ret_cases {i : Instr} {t : Nat} {st : List ZV} {h h' : ZH} {r : Option ZV} (hx : z_ret i t st h = some (r, h')) : (i = .ireturn ∧ ∃ x, st = [.inl x] ∧ r = some (.inl x) ∧ (t = 0 ∨ x = 0 ∨ x = 1)) ∨ (i = .lreturn ∧ ∃ x, st = [.inr (.inl x)] ∧ r = some (.inr (.inl x))) ∨ (i = .areturn ∧ ∃ x, st = [.inr (.inr x)] ∧ r = some (.inr (.inr x))) ∨ (i = .return_ ∧ st = [] ∧ r = none) := by
  unfold z_ret at hx
  split at hx
  · rename_i x
    obtain ⟨hc, e1⟩ := z_bif hx
    cases e1
    simp only [Bool.or_eq_true, decide_eq_true_eq] at hc
    refine Or.inl ⟨rfl, x, rfl, rfl, ?_⟩
    rcases hc with (g | g) | g
    · exact Or.inl (Nat.eq_of_beq_eq_true g)
    · exact Or.inr (Or.inl g)
    · exact Or.inr (Or.inr g)
  · cases hx
    exact Or.inr (Or.inl ⟨rfl, _, rfl, rfl⟩)
  · cases hx
    exact Or.inr (Or.inr (Or.inl ⟨rfl, _, rfl, rfl⟩))
  · cases hx
    exact Or.inr (Or.inr (Or.inr ⟨rfl, rfl, rfl⟩))
  · cases hx
/-- the end of a method that is called -/
theorem z_end (hchk : ZChk) (hX : ZX σ M p s m args meth c) {r : Option ZV} {h' : ZH} {ce se pc : Nat} {i : Instr} {a b t n : Nat} {st : List ZV} (ht : z_tb M pc = some (i, a, b, t, n)) (hr : z_ret i t st h' = some (r, h')) {H : Heap} {rls : Array Slot} {locs : List Loc} (hP : ZP σ h' H) (hlocs : ∀ q ∈ locs, (z_H0 σ).size ≤ q.base) :
    W p l e R s m args below meth c H locs ce se (MQ below (z_Qc σ r h') args s ce se (z_free σ)) (F0 m pc rls (st.map (z_rv σ))) := by
  have hc := hchk ht
  obtain ⟨hx0, hbb, hrt, hml, hown, hts, hlocks, hini, hU⟩ := hX
  have h3 := z_chk_3 hc
  rcases z_ret_cases hr with ⟨rfl, x, rfl, rfl, hx⟩ | ⟨rfl, x, rfl, rfl⟩ | ⟨rfl, x, rfl, rfl⟩ | ⟨rfl, rfl, rfl⟩
  · obtain ⟨hd, -⟩ := z_chk_d hc rfl
    simp only [z_chk3, Bool.or_eq_true, Bool.and_eq_true, decide_eq_true_eq] at h3
    rcases h3 with ⟨g1, g2⟩ | ⟨g1, g2⟩
    · exact W.iret hx0 hbb (hrt.trans g1) (fun t' ht' _ => ⟨rfl, by rw [ht']; exact hP⟩) (fun q hq => hlocs q hq) hd
    · have et := Nat.eq_of_beq_eq_true g2
      have hx01 : x = 0 ∨ x = 1 := by omega
      exact W.zret hx0 hbb (hrt.trans g1) (by rcases hx01 with rfl | rfl <;> rfl) (fun t' ht' _ => ⟨rfl, by rw [ht']; exact hP⟩) (fun q hq => hlocs q hq) hd
  · obtain ⟨hd, -⟩ := z_chk_d hc rfl
    simp only [z_chk3, decide_eq_true_eq] at h3
    exact W.lret hx0 hbb (hrt.trans h3) (fun t' ht' _ => ⟨rfl, by rw [ht']; exact hP⟩) (fun q hq => hlocs q hq) hd
  · obtain ⟨hd, -⟩ := z_chk_d hc rfl
    simp only [z_chk3] at h3
    have hrt2 : ∃ rt, z_rt M = some rt ∧ ((∃ n, rt = .object n) ∨ ∃ t, rt = .array t) := by
      cases hz : z_rt M with
      | none => rw [hz] at h3; cases h3
      | some rt =>
        rw [hz] at h3
        cases rt with
        | object C => exact ⟨_, rfl, Or.inl ⟨C, rfl⟩⟩
        | array ty => exact ⟨_, rfl, Or.inr ⟨ty, rfl⟩⟩
        | _ => cases h3
    obtain ⟨rt, g1, g2⟩ := hrt2
    exact W.aret hx0 hbb (hrt.trans g1) g2 (by cases x with | none => exact Or.inl rfl | some q => exact Or.inr ⟨_, rfl⟩) (fun t' ht' _ => ⟨rfl, by rw [ht']; exact hP⟩) (fun q hq => hlocs q hq) hd
  · obtain ⟨hd, -⟩ := z_chk_d hc rfl
    simp only [z_chk3, decide_eq_true_eq] at h3
    exact W.vret hx0 hbb (hrt.trans h3) (fun t' ht' _ => ⟨rfl, by rw [ht']; exact hP⟩) (fun q hq => hlocs q hq) hd
end ZRun
theorem z_lg_sl : ∀ (σ : ZS) (vs : List ZV), (lg_sl (vs.map (z_rv σ))).length = (z_arg vs).length
  | σ, [] => rfl
  | σ, .inl x :: vs => by
    have ih := z_lg_sl σ vs
    show (Slot.val (z_rv σ (.inl x)) :: lg_sl (vs.map (z_rv σ))).length = (z_arg vs).length + 1
    rw [List.length_cons, ih]
  | σ, .inr (.inl x) :: vs => by
    have ih := z_lg_sl σ vs
    show (Slot.val (z_rv σ (.inr (.inl x))) :: Slot.second :: lg_sl (vs.map (z_rv σ))).length = (z_arg vs).length + 1 + 1
    rw [List.length_cons, List.length_cons, ih]
  | σ, .inr (.inr none) :: vs => by
    have ih := z_lg_sl σ vs
    show (Slot.val (z_rv σ (.inr (.inr none))) :: lg_sl (vs.map (z_rv σ))).length = (z_arg vs).length + 1
    rw [List.length_cons, ih]
  | σ, .inr (.inr (some q)) :: vs => by
    have ih := z_lg_sl σ vs
    show (Slot.val (z_rv σ (.inr (.inr (some q)))) :: lg_sl (vs.map (z_rv σ))).length = (z_arg vs).length + 1
    rw [List.length_cons, ih]
/-- the arguments in their places -/
theorem z_args_in : ∀ (σ : ZS) (vs : List ZV) (k : Nat) (i : Nat) (q : Nat) (v : ZV), z_lg (z_arg vs ++ List.replicate k none) q = some v → (i + q, z_rv σ v) ∈ lv_args i (vs.map (z_rv σ))
  | σ, [], k, i, q, v, h => by
    have := z_lg_mem h
    simp only [z_arg, List.nil_append] at this
    have := List.eq_of_mem_replicate this
    cases this
  | σ, .inl x :: vs, k, i, 0, v, h => by
    simp only [z_arg, List.cons_append, z_lg] at h
    cases h
    simp [lv_args]
  | σ, .inl x :: vs, k, i, q + 1, v, h => by
    have ih := z_args_in σ vs k (i + 1) q v h
    rw [show i + 1 + q = i + (q + 1) by omega] at ih
    exact List.mem_cons_of_mem _ ih
  | σ, .inr (.inl x) :: vs, k, i, 0, v, h => by
    simp only [z_arg, List.cons_append, z_lg] at h
    cases h
    simp [lv_args]
  | σ, .inr (.inl x) :: vs, k, i, 1, v, h => by
    simp only [z_arg, List.cons_append, z_lg] at h
    cases h
  | σ, .inr (.inl x) :: vs, k, i, q + 2, v, h => by
    have ih := z_args_in σ vs k (i + 2) q v h
    rw [show i + 2 + q = i + (q + 2) by omega] at ih
    exact List.mem_cons_of_mem _ ih
  | σ, .inr (.inr none) :: vs, k, i, 0, v, h => by
    simp only [z_arg, List.cons_append, z_lg] at h
    cases h
    simp [lv_args]
  | σ, .inr (.inr none) :: vs, k, i, q + 1, v, h => by
    have ih := z_args_in σ vs k (i + 1) q v h
    rw [show i + 1 + q = i + (q + 1) by omega] at ih
    exact List.mem_cons_of_mem _ ih
  | σ, .inr (.inr (some a)) :: vs, k, i, 0, v, h => by
    simp only [z_arg, List.cons_append, z_lg] at h
    cases h
    simp [lv_args]
  | σ, .inr (.inr (some a)) :: vs, k, i, q + 1, v, h => by
    have ih := z_args_in σ vs k (i + 1) q v h
    rw [show i + 1 + q = i + (q + 1) by omega] at ih
    exact List.mem_cons_of_mem _ ih
theorem z_entry (σ : ZS) (vs : List ZV) {n : Nat} (h : (z_arg vs).length ≤ n) : z_lok σ n (z_arg vs ++ List.replicate (n - (z_arg vs).length) none) ((lg_sl (vs.map (z_rv σ)) ++ List.replicate (n - (lg_sl (vs.map (z_rv σ))).length) Slot.unset).toArray) := by
  have h1 := lv_entry (vs.map (z_rv σ)) (n := n) (by rw [z_lg_sl]; exact h)
  refine ⟨by simp; omega, h1.1, h1.2.1, fun q hq => h1.2.2 q ?_⟩
  obtain ⟨v, hv, e⟩ := z_lvl_mem.mp hq
  have := z_args_in σ vs _ 0 q.1 v hv
  rw [Nat.zero_add] at this
  rw [show q = (q.1, z_rv σ v) from Prod.ext rfl e]
  exact this
/-- ALL CALLS keep their contracts -/
theorem z_met_all (hchk : ZChk) (l : Launch) (σ : ZS) : ∀ d, ZMet l σ d := by
  intro d
  induction d with
  | zero => intro n M args h r h' _ hr; simp [z_ev] at hr
  | succ d ih =>
    intro n M args h r h' hM hev hw hs
    have hsp := z_y_spec (M := M) (by omega)
    unfold z_ev at hev
    cases hb : Nat.ble (z_arg args).length (z_ml M) with
    | false => rw [hb] at hev; cases hev
    | true =>
      rw [hb] at hev
      simp only [cond_true] at hev
      have hle := Nat.le_of_ble_eq_true hb
      refine MetFree.of_bodySF (code := z_b M) (maxLocals := z_ml M) (ret := z_rt M) hsp.2.1 ?_ ?_
      · intro args' s m hpre hn
        obtain ⟨meth, c, h1, h2, h3, h4, h5, h6, -, -⟩ := Cond.code_spec hn (atoms_spec (ws := z_ws M) hpre _ List.mem_cons_self)
        exact ⟨meth, c, h1, h2, h3, h4, h5, h6⟩
      · intro p e s m args' below meth c s₁ B hml hPc _
        have hh0 : s₁.heap = s.heap := by rw [B.state]; rfl
        obtain ⟨rfl, hP, hU⟩ := hPc
        have hts := atoms_spec (ws := z_ws M) B.pre
        have hX : ZX σ M p s m (args.map (z_rv σ)).toArray meth c := by
          refine ⟨B.exec, B.bytes, B.returns, hml, ?_, fun w hw' => hts w (List.mem_cons_of_mem _ hw'), B.notSynchronized, fun hin => ?_, hU⟩
          · rw [hsp.2.2.1]
            exact findClass_of_methodNamed B.named
          · rw [(name_of_methodNamed B.named B.method).1]
            exact hin
        have key : W p l e (headSpec (z_ws M) (z_rm (d + 1) (h'.1.2.2.1 - h.1.2.2.1) (h'.1.2.2.2 - h.1.2.2.2))).room s m (args.map (z_rv σ)).toArray below meth c s.heap [] 0 0 (MQ below (z_Qc σ r h') (args.map (z_rv σ)).toArray s (h'.1.2.2.1 - h.1.2.2.1) (h'.1.2.2.2 - h.1.2.2.2) (z_free σ)) (entryFrame m (args.map (z_rv σ)).toArray (z_ml M)) := by
          rw [lg_entry_eq]
          exact z_run_sim (R := z_rm (d + 1) (h'.1.2.2.1 - h.1.2.2.1) (h'.1.2.2.2 - h.1.2.2.2)) hchk ih hX (Nat.le_refl _) (Nat.le_refl _) (Nat.le_refl _) (Nat.le_refl _) (fun pc i a b t n' st ht hk hr H rls locs hP' hl' => z_end hchk hX ht hr hP' hl') n 0 _ [] h hev hw (z_okl_arg _ hs) (fun v hv => by cases hv) s.heap _ [] 0 0 hP (z_entry σ args hle) (fun q hq => by cases hq) (Nat.zero_add _) (Nat.zero_add _)
        obtain ⟨t, a1, o, b1, b2, b3⟩ := key s₁ hh0 (Stand.of_body B)
        exact ⟨t, o, a1, b1, b2, ⟨b3.1, b3.2⟩⟩
