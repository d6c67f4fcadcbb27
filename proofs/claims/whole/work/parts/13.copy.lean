/-! System.arraycopy of a whole beginning, clone of an array of longs -/
theorem z_nn (z : Int32) (hz : ¬ z < 0) : z.toInt = (z.toNatClampNeg : Int) := by
  have hz0 : (0 : Int) ≤ z.toInt := by
    have := Int32.not_lt.mp hz
    simpa using Int32.le_iff_toInt_le.mp this
  show z.toInt = ((z.toInt.toNat : Nat) : Int)
  omega
theorem z_ac_nat : Cond.native arraycopyName ∈ z_gw := z_gw_of 606 (by decide +kernel)
theorem z_ac_stat : Cond.static arraycopyName ∈ z_gw := z_gw_of 605 (by decide +kernel)
theorem z_ac_ini : Cond.initialized "java/lang/System" ∈ z_gw := z_gw_of 90 (by decide +kernel)
section ZXc
variable {M pc n a b t : Nat} {ls : ZL} {st : List ZV} {h : ZH} {r : ZR}
variable {p : Program} {l : Launch} {e : Env} {R : Room} {s : State} {m : MethodId} {args : Array Value} {below : List Frame} {meth : Method} {c : Code} {Q : State → Prop} {H : Heap} {rls : Array Slot} {locs : List Loc} {cells slots : Nat} {rest : List Value}
theorem z_copyW_int {own : String} {index : Nat} {c0 : ClassId} {n0 n1 a0 a1 : Nat} {f g : Nat → Int32} (hexec : p.tables.exec = Jvm.exec) (hb : c.code = z_b M) (hml : c.maxLocals = rls.size) (hown : s.vm.findClass own = some m.cls) (hlink : (Cond.methodLink own index arraycopyName).before args s = true) (hnat : (Cond.native arraycopyName).before args s = true) (hstat : (Cond.static arraycopyName).before args s = true) (hini : (Cond.initialized "java/lang/System").before args s = true)
    (hc0 : H[a0]? = some (arrV c0 n0 (fun j => .int (f j)))) (hc1 : H[a1]? = some (arrV c0 n1 (fun j => .int (g j)))) (hA : ArrOfT s c0 .int) {n : Int32} (h3 : ¬ n < 0) (h4 : n.toNatClampNeg ≤ n0) (h5 : n.toNatClampNeg ≤ n1) (hframes : 1 ≤ R.frames) (hlocals : (rest.map fun v => v.category).sum + (nativeFrameWords "java/lang/System" "arraycopy" 5 + 11) ≤ R.locals) (hdg : decode (z_b M) pc = .ok (.invokestatic index, 3))
    (kk : ∀ (H' : Heap) (locs' : List Loc), H'[a1]? = some (arrV c0 n1 (fun j => .int (va_cpy f g 0 0 n.toNatClampNeg j))) → H'.size = H.size → (∀ q, q ≠ a1 → H'[q]? = H[q]?) → (∀ q ∈ locs', q ∈ locs ∨ q.base = a1) → W p l e R s m args below meth c H' locs' cells slots Q (F0 m (pc + 3) rls rest)) : W p l e R s m args below meth c H locs cells slots Q (F0 m pc rls (.int n :: .int (Int32.ofInt 0) :: .ref a1 :: .int (Int32.ofInt 0) :: .ref a0 :: rest)) := by
  have hz0 : ¬ Int32.ofInt 0 < 0 := by decide
  have hc00 : (Int32.ofInt 0).toNatClampNeg = 0 := by decide
  intro T hT X
  obtain ⟨-, k0, hk0, cm0, hkk0⟩ := hA n0 (fun j => .int (f j))
  obtain ⟨vm', X', step⟩ := X.arraycopy hexec hown hlink hnat hstat hini (src := a0) (dst := a1) (cs := arrV c0 n0 (fun j => .int (f j))) (cd := arrV c0 n1 (fun j => .int (g j))) (srcPos := Int32.ofInt 0) (destPos := Int32.ofInt 0) (n := n) (by rw [hT]; exact hc0) (by rw [hT]; exact hc1)
    (fun _ h => by cases h) (fun _ h => by cases h) (fun h => by cases h) (fun h => by cases h) hk0 hk0 hkk0 hkk0 (by simp [refKind]) hz0 hz0 h3
    (by rw [z_nn _ hz0, z_nn n h3, arrV_size, hc00]; omega)
    (by rw [z_nn _ hz0, z_nn n h3, arrV_size, hc00]; omega)
    (fun vm₁ _ i hi => by
      have e : (arrV c0 n0 (fun j => .int (f j))).slots.getD ((Int32.ofInt 0).toNatClampNeg + i) .null = .int (f ((Int32.ofInt 0).toNatClampNeg + i)) := by
        rw [Array.getD_eq_getD_getElem?, arrV_read _ _ (by rw [hc00]; omega)]
        rfl
      refine ⟨?_, ?_⟩
      · rw [e]
        rfl
      · rw [e]
        exact trivial)
    (g := F0 m pc rls (.int n :: .int (Int32.ofInt 0) :: .ref a1 :: .int (Int32.ofInt 0) :: .ref a0 :: rest)) rfl (by rw [hml]) (rest := rest) rfl (by rw [hb]; exact hdg) hframes (by show 2 * 0 + _ + _ ≤ _; omega)
  have e1 : copied (arrV c0 n0 (fun j => .int (f j))) (arrV c0 n1 (fun j => .int (g j))) (Int32.ofInt 0) (Int32.ofInt 0) n = arrV c0 n1 (fun j => .int (va_cpy f g 0 0 n.toNatClampNeg j)) := by
    have := va_copied (fun z => .int z) c0 c0 (n0 := n0) (n1 := n1) (sp := (Int32.ofInt 0).toNatClampNeg) (dp := (Int32.ofInt 0).toNatClampNeg) (n := n.toNatClampNeg) f g (by rw [hc00]; omega)
    rw [hc00] at this
    exact this
  rw [e1] at X' step
  have hl : a1 < H.size := (Array.getElem?_eq_some_iff.mp hc1).1
  have hheap : ((T.setVm vm').setCell a1 (arrV c0 n1 (fun j => .int (va_cpy f g 0 0 n.toNatClampNeg j)))).heap = H.setIfInBounds a1 (arrV c0 n1 (fun j => .int (va_cpy f g 0 0 n.toNatClampNeg j))) := by rw [← hT]; rfl
  obtain ⟨t, b1, b2⟩ := kk _ _ (by simp [Array.getElem?_setIfInBounds, hl]) (by simp) (fun q hq => by simp [Array.getElem?_setIfInBounds, Ne.symm hq]) (fun q hq => by
      rcases List.mem_append.mp hq with h | h
      · exact Or.inl h
      · obtain ⟨z, -, hz⟩ := List.mem_map.mp h
        rw [← hz]
        exact Or.inr rfl) _ hheap X'
  exact ⟨t, step t b1, b2⟩
theorem z_copyW_long {own : String} {index : Nat} {c0 : ClassId} {n0 n1 a0 a1 : Nat} {f g : Nat → Int64} (hexec : p.tables.exec = Jvm.exec) (hb : c.code = z_b M) (hml : c.maxLocals = rls.size) (hown : s.vm.findClass own = some m.cls) (hlink : (Cond.methodLink own index arraycopyName).before args s = true) (hnat : (Cond.native arraycopyName).before args s = true) (hstat : (Cond.static arraycopyName).before args s = true) (hini : (Cond.initialized "java/lang/System").before args s = true)
    (hc0 : H[a0]? = some (arrV c0 n0 (fun j => .long (f j)))) (hc1 : H[a1]? = some (arrV c0 n1 (fun j => .long (g j)))) (hA : ArrOfT s c0 .long) {n : Int32} (h3 : ¬ n < 0) (h4 : n.toNatClampNeg ≤ n0) (h5 : n.toNatClampNeg ≤ n1) (hframes : 1 ≤ R.frames) (hlocals : (rest.map fun v => v.category).sum + (nativeFrameWords "java/lang/System" "arraycopy" 5 + 11) ≤ R.locals) (hdg : decode (z_b M) pc = .ok (.invokestatic index, 3))
    (kk : ∀ (H' : Heap) (locs' : List Loc), H'[a1]? = some (arrV c0 n1 (fun j => .long (va_cpy f g 0 0 n.toNatClampNeg j))) → H'.size = H.size → (∀ q, q ≠ a1 → H'[q]? = H[q]?) → (∀ q ∈ locs', q ∈ locs ∨ q.base = a1) → W p l e R s m args below meth c H' locs' cells slots Q (F0 m (pc + 3) rls rest)) : W p l e R s m args below meth c H locs cells slots Q (F0 m pc rls (.int n :: .int (Int32.ofInt 0) :: .ref a1 :: .int (Int32.ofInt 0) :: .ref a0 :: rest)) := by
  have hz0 : ¬ Int32.ofInt 0 < 0 := by decide
  have hc00 : (Int32.ofInt 0).toNatClampNeg = 0 := by decide
  intro T hT X
  obtain ⟨-, k0, hk0, cm0, hkk0⟩ := hA n0 (fun j => .long (f j))
  obtain ⟨vm', X', step⟩ := X.arraycopy hexec hown hlink hnat hstat hini (src := a0) (dst := a1) (cs := arrV c0 n0 (fun j => .long (f j))) (cd := arrV c0 n1 (fun j => .long (g j))) (srcPos := Int32.ofInt 0) (destPos := Int32.ofInt 0) (n := n) (by rw [hT]; exact hc0) (by rw [hT]; exact hc1)
    (fun _ h => by cases h) (fun _ h => by cases h) (fun h => by cases h) (fun h => by cases h) hk0 hk0 hkk0 hkk0 (by simp [refKind]) hz0 hz0 h3
    (by rw [z_nn _ hz0, z_nn n h3, arrV_size, hc00]; omega)
    (by rw [z_nn _ hz0, z_nn n h3, arrV_size, hc00]; omega)
    (fun vm₁ _ i hi => by
      have e : (arrV c0 n0 (fun j => .long (f j))).slots.getD ((Int32.ofInt 0).toNatClampNeg + i) .null = .long (f ((Int32.ofInt 0).toNatClampNeg + i)) := by
        rw [Array.getD_eq_getD_getElem?, arrV_read _ _ (by rw [hc00]; omega)]
        rfl
      refine ⟨?_, ?_⟩
      · rw [e]
        rfl
      · rw [e]
        exact trivial)
    (g := F0 m pc rls (.int n :: .int (Int32.ofInt 0) :: .ref a1 :: .int (Int32.ofInt 0) :: .ref a0 :: rest)) rfl (by rw [hml]) (rest := rest) rfl (by rw [hb]; exact hdg) hframes (by show 2 * 0 + _ + _ ≤ _; omega)
  have e1 : copied (arrV c0 n0 (fun j => .long (f j))) (arrV c0 n1 (fun j => .long (g j))) (Int32.ofInt 0) (Int32.ofInt 0) n = arrV c0 n1 (fun j => .long (va_cpy f g 0 0 n.toNatClampNeg j)) := by
    have := va_copied (fun z => .long z) c0 c0 (n0 := n0) (n1 := n1) (sp := (Int32.ofInt 0).toNatClampNeg) (dp := (Int32.ofInt 0).toNatClampNeg) (n := n.toNatClampNeg) f g (by rw [hc00]; omega)
    rw [hc00] at this
    exact this
  rw [e1] at X' step
  have hl : a1 < H.size := (Array.getElem?_eq_some_iff.mp hc1).1
  have hheap : ((T.setVm vm').setCell a1 (arrV c0 n1 (fun j => .long (va_cpy f g 0 0 n.toNatClampNeg j)))).heap = H.setIfInBounds a1 (arrV c0 n1 (fun j => .long (va_cpy f g 0 0 n.toNatClampNeg j))) := by rw [← hT]; rfl
  obtain ⟨t, b1, b2⟩ := kk _ _ (by simp [Array.getElem?_setIfInBounds, hl]) (by simp) (fun q hq => by simp [Array.getElem?_setIfInBounds, Ne.symm hq]) (fun q hq => by
      rcases List.mem_append.mp hq with h | h
      · exact Or.inl h
      · obtain ⟨z, -, hz⟩ := List.mem_map.mp h
        rw [← hz]
        exact Or.inr rfl) _ hheap X'
  exact ⟨t, step t b1, b2⟩
theorem zx_copy {j : Nat} (hx : z_copy n ls st h = some r) (hk : z_chk M pc (.invokestatic j) a b t n = true) (ha : Nat.ble 9000 a = true) (hw : z_wf h) (hl : z_okl ls) (hs : z_oks st) : ZPR h r ∧ ZSim M pc ls st h r := by
  obtain ⟨hd, rfl⟩ := z_chk_d hk rfl
  have h3 := z_chk_3 hk
  simp only [z_chk3, ha, cond_true] at h3
  have hlink : Cond.methodLink (z_R (z_cl M)) j arraycopyName ∈ z_gw := by
    obtain ⟨qq, hqq, g⟩ := List.any_eq_true.mp h3
    simp only [Bool.and_eq_true] at g
    have := z_gw_of _ (List.all_eq_true.mp z_AC_ok qq hqq)
    rw [Nat.eq_of_beq_eq_true g.1, Nat.eq_of_beq_eq_true g.2] at this
    exact this
  unfold z_copy at hx
  split at hx
  · rename_i x dp q sp r' st
    cases hc : (decide (dp = 0) && decide (sp = 0) && decide (0 ≤ x) && decide (x ≤ (h.1.1 q).2) && decide (x ≤ (h.1.1 r').2) && decide (q ≠ r') && Nat.ble 2 q && Nat.ble 2 r' && Nat.ble (st.map z_cat).sum 8) with
    | false => rw [hc] at hx; cases hx
    | true =>
      rw [hc] at hx
      simp only [cond_true] at hx
      simp only [Bool.and_eq_true, decide_eq_true_eq] at hc
      obtain ⟨⟨⟨⟨⟨⟨⟨⟨rfl, rfl⟩, hx0⟩, hxq⟩, hxr⟩, hne⟩, h2q⟩, h2r⟩, hsum⟩ := hc
      have h2q := Nat.le_of_ble_eq_true h2q
      have h2r := Nat.le_of_ble_eq_true h2r
      have hsum := Nat.le_of_ble_eq_true hsum
      simp only [z_oks_cons] at hs
      have hxin : z_in x := hs.1
      have hcl : (Int32.ofInt x).toNatClampNeg = x.toNat := z_clamp hxin
      have hneg : ¬ Int32.ofInt x < 0 := by rw [← z_of0, z_ltI hxin z_in0]; omega
      cases hk2 : (Nat.beq (h.1.1 q).1 2 && Nat.beq (h.1.1 r').1 2) with
      | true =>
        rw [hk2] at hx
        cases hx
        simp only [Bool.and_eq_true] at hk2
        have hTq := Nat.eq_of_beq_eq_true hk2.1
        have hTr := Nat.eq_of_beq_eq_true hk2.2
        refine ⟨⟨⟨hw.1, fun a' j' => ?_, hw.2.2⟩, hl, hs.2.2.2.2.2, Nat.le_refl _, Nat.le_refl _⟩, ?_⟩
        · show z_in (z_up h.2.2.1 q _ a' j')
          unfold z_up z_cpf
          split
          · dsimp only
            split
            · exact hw.2.1 _ _
            · exact hw.2.1 _ _
          · exact hw.2.1 _ _
        intro σ p l e R s m args below meth c' Q H rls locs cells slots hX hf hlo hP hL hlocs hcs hss K
        obtain ⟨hx0', hbb, hrt, hml, hown, hts, hlk0, hini, hU⟩ := hX
        have hcq := hP.cell hw h2q (by rw [hTq]; decide)
        have hcr := hP.cell hw h2r (by rw [hTr]; decide)
        unfold z_cell at hcq hcr
        have hpq : h.1.1 q = (2, (h.1.1 q).2) := Prod.ext hTq rfl
        rw [hpq] at hcq
        rw [show h.1.1 r' = (2, (h.1.1 r').2) from Prod.ext hTr rfl] at hcr
        refine z_copyW_int hx0' hbb (by rw [hml]; exact hL.2.1.symm) hown (hts _ hlink) (hts _ z_ac_nat) (hts _ z_ac_stat) (hts _ z_ac_ini) hcr hcq (hU.2.1 2 (by decide) (by decide)).1 (n := Int32.ofInt x) hneg (by rw [hcl]; omega) (by rw [hcl]; omega) hf (by rw [z_catsum]; show _ + (5 + 2 + 11) ≤ _; omega) hd (fun H' locs' e1 e2 e3 e4 => ?_)
        have hP' : ZP σ (h.1, h.2.1, z_up h.2.2.1 q (z_cpf x.toNat (h.2.2.1 r') (h.2.2.1 q)), h.2.2.2) H' := by
          refine hP.write h2q rfl rfl (fun b' hb' => ⟨rfl, rfl, z_up_ne _ _ hb', rfl, rfl⟩) ?_ e2 e3
          unfold z_cell
          show match h.1.1 q with | (1, c) => _ | (2, n) => _ | (3, n) => _ | (t, n) => _
          rw [hpq]
          show H'[z_ad σ q]? = some _
          rw [e1, hcl]
          congr 2
          funext y
          show _ = Value.int (Int32.ofInt (z_up h.2.2.1 q _ q y))
          rw [z_up_same]
          unfold va_cpy z_cpf
          by_cases hy : y < x.toNat <;> simp [hy]
        have K' := K H' rls locs' hP' hL (fun x' hx' => by
          rcases e4 x' hx' with g | g
          · exact hlocs x' g
          · rw [g]; exact z_ad_ge h2q)
        simp only [Nat.sub_self, Nat.add_zero] at K'
        exact K'
      | false =>
        rw [hk2] at hx
        simp only [cond_false] at hx
        obtain ⟨hk3, rfl⟩ := z_bif hx
        simp only [Bool.and_eq_true] at hk3
        have hTq := Nat.eq_of_beq_eq_true hk3.1
        have hTr := Nat.eq_of_beq_eq_true hk3.2
        refine ⟨⟨hw, hl, hs.2.2.2.2.2, Nat.le_refl _, Nat.le_refl _⟩, ?_⟩
        intro σ p l e R s m args below meth c' Q H rls locs cells slots hX hf hlo hP hL hlocs hcs hss K
        obtain ⟨hx0', hbb, hrt, hml, hown, hts, hlk0, hini, hU⟩ := hX
        have hcq := hP.cell hw h2q (by rw [hTq]; decide)
        have hcr := hP.cell hw h2r (by rw [hTr]; decide)
        unfold z_cell at hcq hcr
        have hpq : h.1.1 q = (3, (h.1.1 q).2) := Prod.ext hTq rfl
        rw [hpq] at hcq
        rw [show h.1.1 r' = (3, (h.1.1 r').2) from Prod.ext hTr rfl] at hcr
        refine z_copyW_long hx0' hbb (by rw [hml]; exact hL.2.1.symm) hown (hts _ hlink) (hts _ z_ac_nat) (hts _ z_ac_stat) (hts _ z_ac_ini) hcr hcq (hU.2.1 3 (by decide) (by decide)).1 (n := Int32.ofInt x) hneg (by rw [hcl]; omega) (by rw [hcl]; omega) hf (by rw [z_catsum]; show _ + (5 + 2 + 11) ≤ _; omega) hd (fun H' locs' e1 e2 e3 e4 => ?_)
        have hP' : ZP σ (h.1, h.2.1, h.2.2.1, z_up h.2.2.2.1 q (z_cpf x.toNat (h.2.2.2.1 r') (h.2.2.2.1 q)), h.2.2.2.2) H' := by
          refine hP.write h2q rfl rfl (fun b' hb' => ⟨rfl, rfl, rfl, z_up_ne _ _ hb', rfl⟩) ?_ e2 e3
          unfold z_cell
          show match h.1.1 q with | (1, c) => _ | (2, n) => _ | (3, n) => _ | (t, n) => _
          rw [hpq]
          show H'[z_ad σ q]? = some _
          rw [e1, hcl]
          congr 2
          funext y
          show _ = Value.long (z_up h.2.2.2.1 q _ q y)
          rw [z_up_same]
          unfold va_cpy z_cpf
          by_cases hy : y < x.toNat <;> simp [hy]
        have K' := K H' rls locs' hP' hL (fun x' hx' => by
          rcases e4 x' hx' with g | g
          · exact hlocs x' g
          · rw [g]; exact z_ad_ge h2q)
        simp only [Nat.sub_self, Nat.add_zero] at K'
        exact K'
  · cases hx
theorem z_co1 : Cond.sameMethod "[J" "java/lang/Object" "clone" "()Ljava/lang/Object;" ∈ z_gw := z_gw_of 723 (by decide +kernel)
theorem z_co2 : Cond.native ⟨"java/lang/Object", "clone", "()Ljava/lang/Object;"⟩ ∈ z_gw := z_gw_of 724 (by decide +kernel)
theorem z_co3 : Cond.instanceMethod ⟨"java/lang/Object", "clone", "()Ljava/lang/Object;"⟩ ∈ z_gw := z_gw_of 725 (by decide +kernel)
theorem z_co4 : Cond.selects "[J" ⟨"[J", "clone", "()Ljava/lang/Object;"⟩ ⟨"java/lang/Object", "clone", "()Ljava/lang/Object;"⟩ ∈ z_gw := z_gw_of 726 (by decide +kernel)
theorem zx_clone {j : Nat} (hx : z_clone n ls st h = some r) (hk : z_chk M pc (.invokevirtual j) a b t n = true) (ha : Nat.ble 9000 a = true) (hw : z_wf h) (hl : z_okl ls) (hs : z_oks st) : ZPR h r ∧ ZSim M pc ls st h r := by
  obtain ⟨hd, rfl⟩ := z_chk_d hk rfl
  have h3 := z_chk_3 hk
  simp only [z_chk3, ha, cond_true] at h3
  have hlink : Cond.methodLink (z_R (z_cl M)) j ⟨"[J", "clone", "()Ljava/lang/Object;"⟩ ∈ z_gw := by
    obtain ⟨qq, hqq, g⟩ := List.any_eq_true.mp h3
    simp only [Bool.and_eq_true] at g
    have := z_gw_of _ (List.all_eq_true.mp z_CO_ok qq hqq)
    rw [Nat.eq_of_beq_eq_true g.1, Nat.eq_of_beq_eq_true g.2] at this
    exact this
  unfold z_clone at hx
  split at hx
  · rename_i q st
    obtain ⟨hc, rfl⟩ := z_bif hx
    simp only [Bool.and_eq_true] at hc
    have h2 := Nat.le_of_ble_eq_true hc.1.1.1
    have hT := Nat.eq_of_beq_eq_true hc.1.1.2
    have hlen := Nat.le_of_ble_eq_true hc.1.2
    have hsum := Nat.le_of_ble_eq_true hc.2
    simp only [z_oks_cons] at hs
    refine ⟨⟨hw.born (k := (3, (h.1.1 q).2)) hlen rfl rfl rfl rfl, hl, z_oks_cons.mpr ⟨trivial, hs.2⟩, Nat.le_succ _, Nat.le_add_right _ _⟩, ?_⟩
    intro σ p l e R s m args below meth c' Q H rls locs cells slots hX hf hlo hP hL hlocs hcs hss K
    have hnx := z_ad_nx hP hw
    obtain ⟨hx0, hbb, hrt, hml, hown, hts, hlk0, hini, hU⟩ := hX
    have e5 : (z_born h (3, (h.1.1 q).2) (h.1.1 q).2).1.2.2.1 - h.1.2.2.1 = 1 := by show h.1.2.2.1 + 1 - h.1.2.2.1 = 1; omega
    have e6 : (z_born h (3, (h.1.1 q).2) (h.1.1 q).2).1.2.2.2 - h.1.2.2.2 = (h.1.1 q).2 := by show h.1.2.2.2 + (h.1.1 q).2 - h.1.2.2.2 = _; omega
    simp only [e5, e6] at hcs hss K
    have hcell := hP.cell hw h2 (by rw [hT]; decide)
    unfold z_cell at hcell
    rw [show h.1.1 q = (3, (h.1.1 q).2) from Prod.ext hT rfl] at hcell
    have hnm : s.vm.findClass "[J" = some (z_cA σ 3) := (hU.2.1 3 (by decide) (by decide)).2
    have hAr := (hU.2.1 3 (by decide) (by decide)).1
    obtain ⟨c0, t0', f1, f2, f3⟩ := Cond.castable_spec (va_Nw.use (A := args) rfl hU.2.2.2.2.2.2.2.1)
    cases hnm.symm.trans f1
    intro T hTT X
    have hcellT := hcell
    rw [← hTT] at hcellT
    obtain ⟨-, kA, hkA, comp, hkind⟩ := State.isArrayOf_alike X.warmed.alike (hAr 0 (fun _ => .null))
    obtain ⟨-, kS, hkS, compS, hkindS⟩ := hAr 0 (fun _ => .null)
    obtain ⟨vm', X', stp⟩ := X.cloneArray hx0 hown (hts _ hlink) (hts _ z_co1) (hts _ z_co2) (hts _ z_co3) (hts _ z_co4) (a := z_ad σ q) (cell := arrV (z_cA σ 3) (h.1.1 q).2 (fun j => .long (h.2.2.2.1 q j))) hcellT (fun k z => by cases z) (fun z => by cases z) hnm f2 f3
      (fun i v hv => by
        have hk' : T.vm.classes[z_cA σ 3]? = some kA := hkA
        have hlt : i < (h.1.1 q).2 := by
          have := (Array.getElem?_eq_some_iff.mp hv).1
          rw [arrV_size] at this
          exact this
        rw [arrV_read _ _ hlt] at hv
        cases hv
        show State.fitsSlot T (z_cA σ 3) _ i _ = true
        simp [State.fitsSlot, State.slotType?, hk', hkind, fits, z_et])
      (g := F0 m pc rls (.ref (z_ad σ q) :: st.map (z_rv σ))) rfl (by show rls.size = _; rw [hml]; exact hL.2.1) rfl (by rw [hbb]; exact hd) hf (by show 2 * 0 + _ + 14 ≤ _; rw [z_catsum]; omega) hcs (by rw [arrV_size]; exact hss) (hloader := Vm.clonesLoader_of_array hkS hkindS)
    rw [arrV_size] at X'
    generalize hH1 : H.push (arrV (z_cA σ 3) (h.1.1 q).2 (fun j => .long (h.2.2.2.1 q j))) = H1
    have z1 : H1.size = H.size + 1 := by rw [← hH1, Array.size_push]
    have e1 : H1[H.size]? = some (arrV (z_cA σ 3) (h.1.1 q).2 (fun j => .long (h.2.2.2.1 q j))) := by rw [← hH1, Array.getElem?_push_size]
    have o1 : ∀ x : Nat, x < H.size → H1[x]? = H[x]? := fun x hx' => by rw [← hH1, Array.getElem?_push, if_neg (Nat.ne_of_lt hx')]
    have hP' : ZP σ ((z_born h (3, (h.1.1 q).2) (h.1.1 q).2).1, (z_born h (3, (h.1.1 q).2) (h.1.1 q).2).2.1, (z_born h (3, (h.1.1 q).2) (h.1.1 q).2).2.2.1, z_up h.2.2.2.1 h.1.2.2.1 (h.2.2.2.1 q), (z_born h (3, (h.1.1 q).2) (h.1.1 q).2).2.2.2.2) H1 := by
      refine hP.born hw rfl rfl (fun b' hb' => ?_) ?_ z1 o1
      · exact ⟨z_up_ne _ _ hb', z_up_ne _ _ hb', z_up_ne _ _ hb', z_up_ne _ _ hb', z_up_ne _ _ hb'⟩
      · unfold z_cell
        have e0 : (z_born h (3, (h.1.1 q).2) (h.1.1 q).2).1.1 h.1.2.2.1 = (3, (h.1.1 q).2) := z_up_same _ _ _
        show match (z_born h (3, (h.1.1 q).2) (h.1.1 q).2).1.1 h.1.2.2.1 with | (1, c) => _ | (2, n) => _ | (3, n) => _ | (t, n) => _
        rw [e0, hnx]
        show H1[H.size]? = some _
        rw [e1]
        congr 2
        funext y
        show _ = Value.long (z_up h.2.2.2.1 h.1.2.2.1 (h.2.2.2.1 q) h.1.2.2.1 y)
        rw [z_up_same]
    obtain ⟨t, b1, b2⟩ := K H1 rls locs hP' hL hlocs ((T.setVm vm').pushCell (arrV (z_cA σ 3) (h.1.1 q).2 (fun j => .long (h.2.2.2.1 q j)))) (by rw [← hH1, ← hTT]; rfl) X'
    refine ⟨t, stp t ?_, b2⟩
    have e9 : T.heap.size = z_ad σ h.1.2.2.1 := by rw [hTT, hnx]
    rw [e9]
    exact b1
  · cases hx
end ZXc
