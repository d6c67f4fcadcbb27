/-! THE CLAIM OUT OF ONE WALK OF THE LAW'S BODY. Your part is whole_start (and what it stands on); all else here is the same for every law, but numbers. -/
def R_law : String := "RulerBenchLaw"
def lw_P (b : Addr) (xs : List Int32) (args : Array Value) (s : State) : Prop := args = #[.ref b] ∧ s.IntsAt b xs ∧ xs.length ≤ 2560 ∧ (Jvm.Cond.and given_1 narrow_1).before args s = true
def lw_Q (_ : Array Value) (s : State) (o : Outcome) (t : State) : Prop := o = .returned (some (.int 1)) ∧ Framed s o t [] room_1.cells room_1.slots
def lw_Z (below : List Frame) (a : Array Value) (s : State) : State → Prop := fun t => ∃ o, t.status = .running ∧ Ended t below o ∧ lw_Q a s o t
/-- the law's own end, with 1 on the stack, nothing written that was there before, its room as the claim has it -/
theorem lw_ret {p : Program} {l : Launch} {e : Env} {s : State} {m : MethodId} {below : List Frame} {meth : Method} {c : Code} {b : Nat} (hx : p.tables.exec = Jvm.exec) (hb : c.code = code) (hr : meth.sig.returnType = ret) (hlocks : meth.locks = false) {pc : Nat} {H : Heap} {ls : Array Slot} (hdg : decode code pc = .ok (.ireturn, 1)) : W p l e room_1 s m #[Value.ref b] below meth c H [] room_1.cells room_1.slots (lw_Z below #[Value.ref b] s) (F0 m pc ls [.int 1]) := by
  intro T hT X
  obtain ⟨fs, hret, hrun, hended, hW, hframe⟩ := X.leave (v := some (.int 1)) (hlocks := hlocks) (fun h => by rw [hr] at h; cases h)
  have hmeth' : T.vm.method? m = some meth := X.method'
  refine ⟨T.setFrames fs, ?_, .returned (some (.int 1)), hrun, hended, rfl, ⟨_, rfl⟩, hW, hframe⟩
  jvm_step X.here [X.here.top, hx, hb, hdg, hmeth', hr, ret, narrow_b1]
  (try refine ⟨rfl, ?_⟩); (try refine ⟨rfl, ?_⟩)
  first | (intro acts; rw [hret _ acts rfl rfl rfl]) | rw [hret _ _ rfl rfl rfl]
  exact Steps.refl _
/-- what holds at the law's entry: the machine, the code, the tables' words (any of lw_tbl by 'hts w (by decide +kernel)'), the script of L ints xs at the cell b, what the Statement gives of the start (any of its parts by flat_of_before) -/
def lw_At (p : Program) (s : State) (m : MethodId) (meth : Method) (c : Code) (b L : Nat) (xs : Nat → Int32) : Prop :=
  p.tables.exec = Jvm.exec ∧ c.code = code ∧ meth.sig.returnType = ret ∧ c.maxLocals = 4 ∧ s.vm.findClass R_law = some m.cls ∧ (∀ w ∈ lw_tbl, w.before #[Value.ref b] s = true) ∧ va_X b L xs s s.heap ∧ b < s.heap.size ∧ meth.locks = false ∧ (Jvm.Cond.and given_1 narrow_1).before #[Value.ref b] s = true
/-! THE LAW out of the pure law -/
def z_pr (j : Nat) : Int := match j with
  | 0 => 2
  | 1 => 3
  | 2 => 5
  | 3 => 7
  | 4 => 11
  | 5 => 13
  | 6 => 17
  | _ => 19
/-- the pure heap at the law's start: the script, the primes, nothing else -/
def z_h0 (L : Nat) (f : Nat → Int) : ZH := ((fun a => if a = 0 then (2, L) else if a = 1 then (2, 8) else (0, 0), fun _ _ => none, 2, 0), fun _ _ => 0, fun a => if a = 0 then f else if a = 1 then z_pr else fun _ => 0, fun _ _ => 0, fun _ _ => none)
/-- THE PURE LAW -/
def ZLaw : Prop := ∀ (L : Nat) (f : Nat → Int), L ≤ 2560 → (∀ j, z_in (f j)) → ZW 1000 229 0 [some (.inr (.inr (some 0))), none, none, none] [] (z_h0 L f) (fun r h' => r = some (.inl 1) ∧ h'.1.2.2.1 ≤ 20002 ∧ h'.1.2.2.2 ≤ 2000000)
theorem z_h0_wf {L : Nat} {f : Nat → Int} (hL : L ≤ 2560) (hf : ∀ j, z_in (f j)) : z_wf (z_h0 L f) := by
  have hp : ∀ j, z_in (z_pr j) := by
    intro j
    unfold z_pr
    split <;> exact ⟨by decide, by decide⟩
  refine ⟨fun a j => z_in0, fun a j => ?_, fun a ha => ?_, fun a => ?_, Nat.le_refl _⟩
  · show z_in ((if a = 0 then f else if a = 1 then z_pr else fun _ => 0) j)
    split
    · exact hf j
    · split
      · exact hp j
      · exact z_in0
  · have ha : 2 ≤ a := ha
    show ((if a = 0 then (2, L) else if a = 1 then (2, 8) else (0, 0) : Nat × Nat)).1 = 0
    rw [if_neg (by omega), if_neg (by omega)]
  · show ((if a = 0 then (2, L) else if a = 1 then (2, 8) else (0, 0) : Nat × Nat)).2 ≤ 65536
    split
    · show L ≤ 65536; omega
    · split <;> decide
theorem z_law_nest : (z_FN.all (fun q => decide (lw_tbl[q.2.2.2.2]? = some (z_wFN q.1 q.2.1 q.2.2.1 q.2.2.2.1))) && z_MN.all (fun q => decide (lw_tbl[q.2.2.2]? = some (z_wMN q.1 q.2.1 q.2.2.1)))) = true := by
  rw [z_FN_ok, z_MN_ok]; rfl
theorem z_over4 : Cond.arrayOver (.object "RulerBench$Stick") ∈ lw_tbl := z_tbl_of 102 (by decide +kernel)
theorem z_over5 : Cond.arrayOver (.object "RulerBench$Ruler") ∈ lw_tbl := z_tbl_of 104 (by decide +kernel)
theorem z_over6 : Cond.arrayOver (.array .long) ∈ lw_tbl := z_tbl_of 248 (by decide +kernel)
theorem z_castw : Cond.castable "[J" "java/lang/Cloneable" ∈ lw_tbl := z_tbl_of 727 (by decide +kernel)
theorem z_prims : Cond.laysStatic "RulerBench" "PRIMES" "[I" ∈ lw_tbl := z_tbl_of 903 (by decide +kernel)
theorem z_initB : Cond.initialized "RulerBench" ∈ lw_tbl := z_tbl_of 76 (by decide +kernel)
theorem z_gw_tbl {w : Cond} (h : w ∈ z_gw) : w ∈ lw_tbl := (List.mem_filter.mp h).1
theorem z_over_spec {args : Array Value} {first s : State} {o : Option Outcome} {idx : List Nat} {C : String} (h : (Cond.arrayOver (.object C)).holds args first o s idx = true) : ∃ comp c k, s.vm.findClass C = some comp ∧ (s.vm.classes.findIdx? fun x => match x.kind with | .array component _ => component == comp | _ => false) = some c ∧ s.vm.classes[c]? = some k ∧ k.kind = .array comp (.object C) ∧ s.vm.findClass ("[" ++ (FieldType.object C).toString) = some c := by
  simp only [Cond.holds, Cond.value, beq_iff_eq] at h
  cases hc : s.vm.findClass C with
  | none => simp [hc] at h
  | some comp =>
    simp only [hc, Option.bind_some, Option.bind_eq_some_iff, Option.map_eq_some_iff] at h
    obtain ⟨c, hi, k, hk, hb⟩ := h
    obtain ⟨hlt, hp, -⟩ := Array.findIdx?_eq_some_iff_getElem.mp hi
    have hkk : s.vm.classes[c] = k := (Array.getElem?_eq_some_iff.mp hk).2
    rw [hkk] at hp
    cases hkind : k.kind with
    | array component ty =>
      rw [hkind] at hb hp
      simp at hb hp
      exact ⟨comp, c, k, rfl, hi, hk, by rw [hkind, hp, hb.1], hb.2⟩
    | _ => rw [hkind] at hb; simp at hb
/-- what the tables say at the law's start -/
theorem z_law_U {p : Program} {s : State} {m : MethodId} {meth : Method} {c : Code} {b L : Nat} {xs : Nat → Int32} (C0 : lw_At p s m meth c b L xs) (hL : L ≤ 2560) : ∃ σ : ZS, σ.1 = b ∧ z_H0 σ = s.heap ∧ z_F0 σ = (fun a => if a = 0 then (L, fun j => (xs j).toInt) else (8, z_pr)) ∧ ZU σ s := by
  obtain ⟨hx, hb, hr, hml, hown, hts, hX, hbl, hlocks, hgv⟩ := C0
  have hgw : ∀ w ∈ z_gw, w.before #[Value.ref b] s = true := fun w hw => hts w (z_gw_tbl hw)
  -- classes
  have hcls : ∀ c : Nat, ∃ (cC : ClassId) (iS : Nat → Nat), c < 13 → u_Kn s (z_R c) (z_T c) (z_N c) cC iS := by
    intro c
    by_cases hc : c < 13
    · have : ∀ c, c < 13 → z_CW.any (fun q => Nat.beq q.1 c) = true := by decide +kernel
      obtain ⟨q, hq, g⟩ := List.any_eq_true.mp (this c hc)
      have e := Nat.eq_of_beq_eq_true g
      subst e
      have hc2 := List.all_eq_true.mp z_CW_ok q hq
      simp only [Bool.and_eq_true] at hc2
      obtain ⟨cC, iS, h1⟩ := u_known (n := z_N q.1) hgw (z_uws hc) (hgw _ (z_gw_of _ hc2.1))
      exact ⟨cC, iS, fun _ => h1⟩
    · exact ⟨0, fun _ => 0, fun h => absurd h hc⟩
  -- array classes
  have hm := z_misc
  simp only [List.all_cons, List.all_nil, Bool.and_true, Bool.and_eq_true] at hm
  have harr : ∀ t : Nat, ∃ cA : ClassId, 2 ≤ t → t ≤ 6 → ArrOfT s cA (z_et t) ∧ va_RA s cA (z_et t) := by
    intro t
    by_cases ht : 2 ≤ t ∧ t ≤ 6
    · rcases (show t = 2 ∨ t = 3 ∨ t = 4 ∨ t = 5 ∨ t = 6 by omega) with rfl | rfl | rfl | rfl | rfl
      · obtain ⟨cA, kA, comp, f1, f2, f3⟩ := Cond.arrayClass_spec (hgw _ (z_gw_of 127 hm.1))
        exact ⟨cA, fun _ _ => ⟨fun n z => ⟨fun k h => (by cases h), kA, f2, comp, f3⟩, f1⟩⟩
      · obtain ⟨cA, kA, comp, f1, f2, f3⟩ := Cond.arrayClass_spec (hgw _ (z_gw_of 226 hm.2.1))
        exact ⟨cA, fun _ _ => ⟨fun n z => ⟨fun k h => (by cases h), kA, f2, comp, f3⟩, f1⟩⟩
      · obtain ⟨comp, cA, kA, f1, f2, f3, f4, f5⟩ := z_over_spec (hts _ z_over4)
        exact ⟨cA, fun _ _ => ⟨fun n z => ⟨fun k h => (by cases h), kA, f3, comp, f4⟩, kA, comp, f3, f4, f1, f5⟩⟩
      · obtain ⟨comp, cA, kA, f1, f2, f3, f4, f5⟩ := z_over_spec (hts _ z_over5)
        exact ⟨cA, fun _ _ => ⟨fun n z => ⟨fun k h => (by cases h), kA, f3, comp, f4⟩, kA, comp, f3, f4, f1, f5⟩⟩
      · obtain ⟨comp, cA, kA, f1, f2, f3, f4, f5⟩ := arrayOverA_spec (hts _ z_over6)
        exact ⟨cA, fun _ _ => ⟨fun n z => ⟨fun k h => (by cases h), kA, f3, comp, f4⟩, f5⟩⟩
    · exact ⟨0, fun h1 h2 => absurd ⟨h1, h2⟩ ht⟩
  -- the primes
  have hflat := flat_of_before _ hgv
  have hA : ∀ a : Nat, a < s.heap.size → ¬ (fun q => s.heap.size ≤ q) a := fun a h1 h2 => by have h2 : s.heap.size ≤ a := h2; omega
  have hel : ∀ j : Nat, j < 8 → (Term.elem (.static "RulerBench" "PRIMES" "[I") (.int (Int32.ofNat j))).eval #[Value.ref b] s none [] s = some (.int (Int32.ofInt (z_pr j))) := by
    intro j hj
    rcases (show j = 0 ∨ j = 1 ∨ j = 2 ∨ j = 3 ∨ j = 4 ∨ j = 5 ∨ j = 6 ∨ j = 7 by omega) with rfl | rfl | rfl | rfl | rfl | rfl | rfl | rfl
    · exact va_eqt (z := 2) (hflat _ (by decide +kernel))
    · exact va_eqt (z := 3) (hflat _ (by decide +kernel))
    · exact va_eqt (z := 5) (hflat _ (by decide +kernel))
    · exact va_eqt (z := 7) (hflat _ (by decide +kernel))
    · exact va_eqt (z := 11) (hflat _ (by decide +kernel))
    · exact va_eqt (z := 13) (hflat _ (by decide +kernel))
    · exact va_eqt (z := 17) (hflat _ (by decide +kernel))
    · exact va_eqt (z := 19) (hflat _ (by decide +kernel))
  obtain ⟨b1, hb1, cell, k1, k2, k3, k4, k5, k6, k7⟩ := va_Tof (ty := .int) (N := 8) (f := fun j => .int (Int32.ofInt (z_pr j))) (A := fun q => s.heap.size ≤ q) (by decide) (hflat (.arrayOf (.static "RulerBench" "PRIMES" "[I") .int) (by decide +kernel)) (va_eqt (z := 8) (hflat _ (by decide +kernel))) hel hA
  have hZ := va_Zof (v := .ref b1) (A := fun q => s.heap.size ≤ q) (hts _ z_prims) (hts _ z_initB) hb1 hA
  obtain ⟨scr, x1, x2, x3, x4, x5⟩ := hX
  refine ⟨(b, b1, s.heap, (fun c => Classical.choose (hcls c), fun c => Classical.choose (Classical.choose_spec (hcls c))), fun t => Classical.choose (harr t), fun a => if a = 0 then (L, fun j => (xs j).toInt) else (8, z_pr)), rfl, rfl, rfl, ?_⟩
  refine ⟨fun c hc => Classical.choose_spec (Classical.choose_spec (hcls c)) hc, fun t h1 h2 => Classical.choose_spec (harr t) h1 h2, fun q hq => ?_, fun q hq => ?_, va_AO.of (hts _ z_over4), va_AO.of (hts _ z_over5), over_moved (Vm.Alike.refl _) (hts _ z_over6), va_Nw.of rfl (hts _ z_castw), hZ, fun a ha => ?_⟩
  · exact va_Nw.of rfl (hts _ (List.mem_of_getElem? (of_decide_eq_true (List.all_eq_true.mp z_FN_ok q hq))))
  · exact va_Nw.of rfl (hts _ (List.mem_of_getElem? (of_decide_eq_true (List.all_eq_true.mp z_MN_ok q hq))))
  · rcases (show a = 0 ∨ a = 1 by omega) with rfl | rfl
    · refine ⟨hbl, scr, x1, x2, x3, by show L ≤ _; omega, by rw [x4]; rfl, fun j hj => ?_⟩
      have hj : j < L := hj
      rw [x5 j hj]
      show some (Value.int (xs j)) = some (Value.int (Int32.ofInt (xs j).toInt))
      rw [z_ofI]
    · exact ⟨(Array.getElem?_eq_some_iff.mp k1).1, cell, k1, k2, k3, k4, k5, fun j hj => k6 j hj⟩
theorem whole_start_of (hchk : ZChk) (hlaw : ZLaw) {p : Program} {e : Env} {s : State} {m : MethodId} {below : List Frame} {meth : Method} {c : Code} (l : Launch) {b L : Nat} {xs : Nat → Int32} (hL : L ≤ 2560) (C0 : lw_At p s m meth c b L xs) : W p l e room_1 s m #[Value.ref b] below meth c s.heap [] 0 0 (lw_Z below #[Value.ref b] s) (entryFrame m ([Value.ref b] : List Value).toArray 4) := by
  obtain ⟨σ, s1, s2, s3, hU⟩ := z_law_U C0 hL
  obtain ⟨hx, hb, hr, hml, hown, hts, hX, hbl, hlocks, hgv⟩ := C0
  have hf : ∀ j, z_in ((fun j => (xs j).toInt) j) := fun j => z_inI _
  obtain ⟨n, r, h', hrun, rfl, hcell, hslot⟩ := hlaw L (fun j => (xs j).toInt) hL hf
  have hw := z_h0_wf hL hf
  have hX : ZX σ 229 p s m #[Value.ref b] meth c := ⟨hx, hb, hr, hml, hown, fun w hw' => hts w (z_gw_tbl hw'), hlocks, fun h => absurd h (by decide), hU⟩
  have hP : ZP σ (z_h0 L (fun j => (xs j).toInt)) s.heap := by
    refine ⟨by rw [s2]; rfl, fun q _ => by rw [s2], fun a h1 h2 => ?_, fun a ha => ?_⟩
    · have h2 : a < 2 := h2
      omega
    · rw [s3]
      rcases (show a = 0 ∨ a = 1 by omega) with rfl | rfl
      · exact ⟨rfl, rfl⟩
      · exact ⟨rfl, rfl⟩
  have hb0 : z_rv σ (.inr (.inr (some 0))) = .ref b := by
    show Value.ref (z_ad σ 0) = _
    unfold z_ad
    rw [if_pos rfl, s1]
  have hent := z_entry σ [.inr (.inr (some 0))] (n := 4) (by decide)
  rw [List.map_cons, List.map_nil, hb0] at hent
  rw [lg_entry_eq]
  have e0 : (z_h0 L (fun j => (xs j).toInt)).1.2.2.1 = 2 := rfl
  have e1 : (z_h0 L (fun j => (xs j).toInt)).1.2.2.2 = 0 := rfl
  have hce : h'.1.2.2.1 - 2 ≤ room_1.cells := Nat.le_trans (show h'.1.2.2.1 - 2 ≤ 20000 by omega) (by decide)
  have hse : h'.1.2.2.2 ≤ room_1.slots := Nat.le_trans hslot (by decide)
  refine z_run_sim (R := room_1) (ce := h'.1.2.2.1 - 2) (se := h'.1.2.2.2) hchk (z_met_all hchk l σ 1000) hX (by decide) (by decide) hce hse ?_ n 0 _ [] _ hrun hw (z_okl_arg (args := [.inr (.inr (some 0))]) 3 (fun v hv => by
    have : v = .inr (.inr (some 0)) := by simpa using hv
    rw [this]; exact trivial)) (fun v hv => by cases hv) s.heap _ [] 0 0 hP hent (fun q hq => by cases hq) (by rw [e0]; omega) (by rw [e1]; omega)
  intro pc i a b' t n' st ht hk hret H rls locs hP' hl'
  have hc := hchk ht
  rcases z_ret_cases hret with ⟨rfl, x, rfl, hx1, hx2⟩ | ⟨rfl, x, rfl, hx1⟩ | ⟨rfl, x, rfl, hx1⟩ | ⟨rfl, rfl, hx1⟩
  · cases hx1
    obtain ⟨hd, -⟩ := z_chk_d hc rfl
    refine va_forget (fun q hq => by have := hl' q hq; rw [s2] at this; exact this) ?_
    refine W.widen (k := room_1.cells) (n := room_1.slots) hce hse ?_
    exact lw_ret hx hb hr hlocks hd
  · cases hx1
  · cases hx1
  · cases hx1
