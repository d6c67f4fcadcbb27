/-! cells that are made; references stored; copies -/
theorem z_ad_nx {σ : ZS} {h : ZH} {H : Heap} (hP : ZP σ h H) (hw : z_wf h) : z_ad σ h.1.2.2.1 = H.size := by
  have h2 := hw.2.2.2.2
  rw [z_ad2 h2]
  have := hP.1
  omega
/-- the heap with one cell more -/
theorem ZP.born {σ : ZS} {h h' : ZH} {H H' : Heap} {k : Nat × Nat} (hP : ZP σ h H) (hw : z_wf h) (e0 : h'.1.1 = z_up h.1.1 h.1.2.2.1 k) (en : h'.1.2.2.1 = h.1.2.2.1 + 1)
    (hsame : ∀ b, b ≠ h.1.2.2.1 → h'.1.2.1 b = h.1.2.1 b ∧ h'.2.1 b = h.2.1 b ∧ h'.2.2.1 b = h.2.2.1 b ∧ h'.2.2.2.1 b = h.2.2.2.1 b ∧ h'.2.2.2.2 b = h.2.2.2.2 b) (hcell : z_cell σ h' h.1.2.2.1 H') (hz : H'.size = H.size + 1) (ho : ∀ q, q < H.size → H'[q]? = H[q]?) : ZP σ h' H' := by
  have hnx := z_ad_nx hP hw
  obtain ⟨p1, p2, p3, p4⟩ := hP
  have h2 := hw.2.2.2.2
  refine ⟨by rw [hz, en]; omega, fun q hq => ?_, fun b hb hn => ?_, fun c hc => ?_⟩
  · rw [ho q (by omega)]
    exact p2 q hq
  · by_cases hba : b = h.1.2.2.1
    · subst hba
      exact hcell
    · obtain ⟨s1, s2, s3, s4, s5⟩ := hsame b hba
      refine z_cell.congr (by rw [e0, z_up_ne _ _ hba]) s1 s2 s3 s4 s5 (ho _ ?_) (p3 b hb (by omega))
      rw [z_ad2 hb]
      omega
  · obtain ⟨s1, s2, s3, s4, s5⟩ := hsame c (by omega)
    rw [e0, z_up_ne _ _ (show c ≠ h.1.2.2.1 by omega), s3]
    exact p4 c hc
theorem z_wf.born {h h' : ZH} {k : Nat × Nat} (hw : z_wf h) (hk : k.2 ≤ 65536) (e0 : h'.1.1 = z_up h.1.1 h.1.2.2.1 k) (en : h'.1.2.2.1 = h.1.2.2.1 + 1) (e1 : h'.2.1 = z_up h.2.1 h.1.2.2.1 (fun _ => 0)) (e2 : h'.2.2.1 = z_up h.2.2.1 h.1.2.2.1 (fun _ => 0)) : z_wf h' := by
  obtain ⟨w1, w2, w3, w4, w5⟩ := hw
  refine ⟨fun a j => ?_, fun a j => ?_, fun a ha => ?_, fun a => ?_, by omega⟩
  · rw [e1]
    unfold z_up
    split
    · exact z_in0
    · exact w1 a j
  · rw [e2]
    unfold z_up
    split
    · exact z_in0
    · exact w2 a j
  · rw [e0, z_up_ne _ _ (show a ≠ h.1.2.2.1 by omega)]
    exact w3 a (by omega)
  · rw [e0]
    unfold z_up
    split
    · exact hk
    · exact w4 a
theorem z_N_small : ∀ c, c < 13 → z_N c ≤ 65536 := by decide +kernel
theorem z_def_ty : ∀ c, c < 13 → ∀ k, k < z_N c → defaultValue (z_ty c k) = bif Nat.beq (z_ft (z_ty c k)) 2 then Value.null else .int 0 := by decide +kernel
theorem z_oi_inst : Cond.instanceMethod Lib.objectInit ∈ z_gw := z_gw_of 99 (by decide +kernel)
set_option maxRecDepth 100000 in
theorem z_oi_code : Cond.code Lib.objectInit ⟨#[0xb1]⟩ 1 none ∈ z_gw := List.mem_filter.mpr ⟨List.mem_of_getElem? (i := 100) rfl, rfl⟩
section ZXn
variable {M pc n a b t : Nat} {ls : ZL} {st : List ZV} {h : ZH} {r : ZR}
theorem zx_new {j : Nat} (hk : z_chk M pc (.new j) a b t n = true) (hw : z_wf h) (hl : z_okl ls) (hs : z_oks st) : ZPR h (n, ls, .inr (.inr (some h.1.2.2.1)) :: st, z_born h (1, a) b) ∧ ZSim M pc ls st h (n, ls, .inr (.inr (some h.1.2.2.1)) :: st, z_born h (1, a) b) := by
  obtain ⟨hd, rfl⟩ := z_chk_d hk rfl
  have h3 := z_chk_3 hk
  simp only [z_chk3, Bool.and_eq_true] at h3
  have ha : a < 13 := by have := Nat.le_of_ble_eq_true h3.1.2; omega
  have hb := Nat.eq_of_beq_eq_true h3.2
  subst hb
  refine ⟨⟨hw.born (k := (1, a)) (by omega) rfl rfl rfl rfl, hl, z_oks_cons.mpr ⟨trivial, hs⟩, Nat.le_succ _, Nat.le_add_right _ _⟩, ?_⟩
  intro σ p l e R s m args below meth c' Q H rls locs cells slots hX hf hlo hP hL hlocs hcs hss K
  have hnx := z_ad_nx hP hw
  obtain ⟨hx0, hbb, hrt, hml, hown, hts, hlk0, hini, hU⟩ := hX
  have hlink : Cond.classLink (z_R (z_cl M)) j (z_R a) ∈ z_gw := by
    obtain ⟨qq, hqq, g⟩ := List.any_eq_true.mp h3.1.1
    simp only [Bool.and_eq_true] at g
    have := z_gw_of _ (List.all_eq_true.mp z_CL_ok qq hqq)
    rw [Nat.eq_of_beq_eq_true g.1.1, Nat.eq_of_beq_eq_true g.1.2, Nat.eq_of_beq_eq_true g.2] at this
    exact this
  have hcw : ∃ q ∈ z_CW, q.1 = a := by
    have : ∀ c, c < 13 → z_CW.any (fun q => Nat.beq q.1 c) = true := by decide +kernel
    obtain ⟨q, hq, g⟩ := List.any_eq_true.mp (this a ha)
    exact ⟨q, hq, Nat.eq_of_beq_eq_true g⟩
  obtain ⟨qc, hqc, rfl⟩ := hcw
  have hc2 := List.all_eq_true.mp z_CW_ok qc hqc
  simp only [Bool.and_eq_true] at hc2
  have hKn := hU.1 qc.1 ha
  have e5 : (z_born h (1, qc.1) (z_N qc.1)).1.2.2.1 - h.1.2.2.1 = 1 := by show h.1.2.2.1 + 1 - h.1.2.2.1 = 1; omega
  have e6 : (z_born h (1, qc.1) (z_N qc.1)).1.2.2.2 - h.1.2.2.2 = z_N qc.1 := by show h.1.2.2.2 + z_N qc.1 - h.1.2.2.2 = _; omega
  simp only [e5, e6] at hcs hss K
  refine W.newcK hx0 hbb hown (hts _ hlink) (hts _ (z_gw_of _ hc2.1)) (hts _ (z_gw_of _ hc2.2)) rfl hd hcs hss hKn.2.1 rfl (fun H1 kC hkC e1 z1 o1 => ?_)
  have hP' : ZP σ (z_born h (1, qc.1) (z_N qc.1)) H1 := by
    refine hP.born hw rfl rfl (fun b' hb' => ?_) ?_ z1 o1
    · unfold z_born
      exact ⟨z_up_ne _ _ hb', z_up_ne _ _ hb', z_up_ne _ _ hb', z_up_ne _ _ hb', z_up_ne _ _ hb'⟩
    · unfold z_cell
      have e0 : (z_born h (1, qc.1) (z_N qc.1)).1.1 h.1.2.2.1 = (1, qc.1) := z_up_same _ _ _
      rw [e0]
      refine ⟨ha, ?_⟩
      rw [hnx]
      refine (u_born (z_ty qc.1) hts (z_uws ha) hKn hkC e1 (z_tyok qc.1 ha)).to (fun k hkN => ?_)
      rw [z_def_ty qc.1 ha k hkN]
      unfold z_fv z_born
      simp only [z_up_same]
      cases Nat.beq (z_ft (z_ty qc.1 k)) 2 <;> rfl
  have K' := K H1 rls locs hP' hL hlocs
  show W p l e R s m args below meth c' H1 locs (cells + 1) (slots + z_N qc.1) Q (F0 m (pc + 3) rls (.ref H.size :: st.map (z_rv σ)))
  rw [← hnx]
  exact K'
theorem zx_newa {ty : ClassFile.ArrayType} (hx : z_newa n a ls st h = some r) (hk : z_chk M pc (.newarray ty) a b t n = true) (hw : z_wf h) (hl : z_okl ls) (hs : z_oks st) : ZPR h r ∧ ZSim M pc ls st h r := by
  obtain ⟨hd, rfl⟩ := z_chk_d hk rfl
  have h3 := z_chk_3 hk
  simp only [z_chk3, Bool.and_eq_true, Bool.or_eq_true, decide_eq_true_eq] at h3
  unfold z_newa at hx
  split at hx
  · rename_i x st
    obtain ⟨hc, rfl⟩ := z_bif hx
    simp only [Bool.and_eq_true, decide_eq_true_eq] at hc
    simp only [z_oks_cons] at hs
    have hin : z_in x := hs.1
    refine ⟨⟨hw.born (k := (a, x.toNat)) (by show x.toNat ≤ 65536; omega) rfl rfl rfl rfl, hl, z_oks_cons.mpr ⟨trivial, hs.2⟩, Nat.le_succ _, Nat.le_add_right _ _⟩, ?_⟩
    intro σ p l e R s m args below meth c' Q H rls locs cells slots hX hf hlo hP hL hlocs hcs hss K
    have hnx := z_ad_nx hP hw
    obtain ⟨hx0, hbb, hrt, hml, hown, hts, hlk0, hini, hU⟩ := hX
    have e5 : (z_born h (a, x.toNat) x.toNat).1.2.2.1 - h.1.2.2.1 = 1 := by show h.1.2.2.1 + 1 - h.1.2.2.1 = 1; omega
    have e6 : (z_born h (a, x.toNat) x.toNat).1.2.2.2 - h.1.2.2.2 = x.toNat := by show h.1.2.2.2 + x.toNat - h.1.2.2.2 = _; omega
    simp only [e5, e6] at hcs hss K
    have hm := z_misc
    simp only [List.all_cons, List.all_nil, Bool.and_true, Bool.and_eq_true] at hm
    have hneg : ¬ Int32.ofInt x < 0 := by rw [← z_of0, z_ltI hin z_in0]; omega
    have hall : ∃ (ha : 2 ≤ a ∧ a ≤ 3), newarray.typeOf ty = z_et a ∧ Cond.arrayClass (newarray.typeOf ty) ∈ z_gw := by
      rcases h3 with ⟨g1, g2⟩ | ⟨g1, g2⟩
      · have := Nat.eq_of_beq_eq_true g2
        subst this; subst g1
        exact ⟨⟨by omega, by omega⟩, rfl, z_gw_of 127 hm.1⟩
      · have := Nat.eq_of_beq_eq_true g2
        subst this; subst g1
        exact ⟨⟨by omega, by omega⟩, rfl, z_gw_of 226 hm.2.1⟩
    obtain ⟨ha, hty, hword⟩ := hall
    have hbytes : x.toNat * componentBytes (newarray.typeOf ty) ≤ 536870912 := by
      have : componentBytes (newarray.typeOf ty) ≤ 8 := by cases ty <;> decide
      have h8 : x.toNat * componentBytes (newarray.typeOf ty) ≤ 65536 * 8 := Nat.mul_le_mul (by omega) this
      omega
    refine va_newaK hx0 hbb (hts _ hword) rfl hd rfl hneg (z_clamp hin) hbytes hcs hss rfl (fun H1 cA e1 z1 o1 hAr hNm => ?_)
    have hcA : cA = z_cA σ a := by
      have h9 := (hU.2.1 a ha.1 (by omega)).2
      rw [hty] at hNm
      rcases (show a = 2 ∨ a = 3 by omega) with rfl | rfl
      · exact Option.some.inj (hNm.symm.trans h9)
      · exact Option.some.inj (hNm.symm.trans h9)
    have hP' : ZP σ (z_born h (a, x.toNat) x.toNat) H1 := by
      refine hP.born hw rfl rfl (fun b' hb' => ?_) ?_ z1 o1
      · unfold z_born
        exact ⟨z_up_ne _ _ hb', z_up_ne _ _ hb', z_up_ne _ _ hb', z_up_ne _ _ hb', z_up_ne _ _ hb'⟩
      · unfold z_cell
        have e0 : (z_born h (a, x.toNat) x.toNat).1.1 h.1.2.2.1 = (a, x.toNat) := z_up_same _ _ _
        rw [e0, hnx]
        rw [hty, hcA] at e1
        rcases (show a = 2 ∨ a = 3 by omega) with rfl | rfl
        · show H1[H.size]? = some _
          rw [e1]
          unfold z_born
          simp only [z_up_same]
          rfl
        · show H1[H.size]? = some _
          rw [e1]
          unfold z_born
          simp only [z_up_same]
          rfl
    have K' := K H1 rls locs hP' hL hlocs
    show W p l e R s m args below meth c' H1 locs (cells + 1) (slots + x.toNat) Q (F0 m (pc + 2) rls (.ref H.size :: st.map (z_rv σ)))
    rw [← hnx]
    exact K'
  · cases hx
theorem zx_anewa {j : Nat} (hx : z_newa n a ls st h = some r) (hk : z_chk M pc (.anewarray j) a b t n = true) (hw : z_wf h) (hl : z_okl ls) (hs : z_oks st) : ZPR h r ∧ ZSim M pc ls st h r := by
  obtain ⟨hd, rfl⟩ := z_chk_d hk rfl
  have h3 := z_chk_3 hk
  simp only [z_chk3, Bool.and_eq_true] at h3
  have h4 := Nat.le_of_ble_eq_true h3.1.2
  have h6 := Nat.le_of_ble_eq_true h3.2
  unfold z_newa at hx
  split at hx
  · rename_i x st
    obtain ⟨hc, rfl⟩ := z_bif hx
    simp only [Bool.and_eq_true, decide_eq_true_eq] at hc
    simp only [z_oks_cons] at hs
    have hin : z_in x := hs.1
    refine ⟨⟨hw.born (k := (a, x.toNat)) (by show x.toNat ≤ 65536; omega) rfl rfl rfl rfl, hl, z_oks_cons.mpr ⟨trivial, hs.2⟩, Nat.le_succ _, Nat.le_add_right _ _⟩, ?_⟩
    intro σ p l e R s m args below meth c' Q H rls locs cells slots hX hf hlo hP hL hlocs hcs hss K
    have hnx := z_ad_nx hP hw
    obtain ⟨hx0, hbb, hrt, hml, hown, hts, hlk0, hini, hU⟩ := hX
    have e5 : (z_born h (a, x.toNat) x.toNat).1.2.2.1 - h.1.2.2.1 = 1 := by show h.1.2.2.1 + 1 - h.1.2.2.1 = 1; omega
    have e6 : (z_born h (a, x.toNat) x.toNat).1.2.2.2 - h.1.2.2.2 = x.toNat := by show h.1.2.2.2 + x.toNat - h.1.2.2.2 = _; omega
    simp only [e5, e6] at hcs hss K
    have hneg : ¬ Int32.ofInt x < 0 := by rw [← z_of0, z_ltI hin z_in0]; omega
    have hcl : (Int32.ofInt x).toNatClampNeg = x.toNat := z_clamp hin
    have hlink : Cond.classLink (z_R (z_cl M)) j (z_en a) ∈ z_gw := by
      obtain ⟨qq, hqq, g⟩ := List.any_eq_true.mp h3.1.1
      simp only [Bool.and_eq_true] at g
      have := z_gw_of _ (List.all_eq_true.mp z_CA_ok qq hqq)
      rw [Nat.eq_of_beq_eq_true g.1.1, Nat.eq_of_beq_eq_true g.1.2, Nat.eq_of_beq_eq_true g.2] at this
      exact this
    have key : ∀ (cA : ClassId), s.vm.findClass ("[" ++ (z_et a).toString) = some cA → W p l e R s m args below meth c' (H.push { cls := cA, slots := Array.replicate (Int32.ofInt x).toNatClampNeg .null, vm := .none }) locs (cells + 1) (slots + (Int32.ofInt x).toNatClampNeg) Q (F0 m (pc + 3) rls (.ref H.size :: st.map (z_rv σ))) := by
      intro cA hNm
      have hcA : cA = z_cA σ a := by
        have h9 := (hU.2.1 a (by omega) h6).2
        rcases (show a = 4 ∨ a = 5 ∨ a = 6 by omega) with rfl | rfl | rfl
        · obtain ⟨_, _, _, _, _, g⟩ := h9
          exact Option.some.inj (hNm.symm.trans g)
        · obtain ⟨_, _, _, _, _, g⟩ := h9
          exact Option.some.inj (hNm.symm.trans g)
        · exact Option.some.inj (hNm.symm.trans h9)
      subst hcA
      rw [hcl]
      generalize hH1 : H.push ({ cls := z_cA σ a, slots := Array.replicate x.toNat .null, vm := .none } : Cell) = H1
      have z1 : H1.size = H.size + 1 := by rw [← hH1, Array.size_push]
      have e1 : H1[H.size]? = some (arrV (z_cA σ a) x.toNat (fun _ => .null)) := by rw [← hH1, Array.getElem?_push_size, ← arrV_new]
      have o1 : ∀ q : Nat, q < H.size → H1[q]? = H[q]? := fun q hq => by rw [← hH1, Array.getElem?_push, if_neg (Nat.ne_of_lt hq)]
      have hP' : ZP σ (z_born h (a, x.toNat) x.toNat) H1 := by
        refine hP.born hw rfl rfl (fun b' hb' => ?_) ?_ z1 o1
        · unfold z_born
          exact ⟨z_up_ne _ _ hb', z_up_ne _ _ hb', z_up_ne _ _ hb', z_up_ne _ _ hb', z_up_ne _ _ hb'⟩
        · unfold z_cell
          have e0 : (z_born h (a, x.toNat) x.toNat).1.1 h.1.2.2.1 = (a, x.toNat) := z_up_same _ _ _
          rw [e0, hnx]
          have e7 : (z_born h (a, x.toNat) x.toNat).2.2.2.2 h.1.2.2.1 = fun _ => none := z_up_same _ _ _
          rcases (show a = 4 ∨ a = 5 ∨ a = 6 by omega) with rfl | rfl | rfl
          · refine ⟨by omega, by omega, ?_⟩
            rw [e1, e7]
            rfl
          · refine ⟨by omega, by omega, ?_⟩
            rw [e1, e7]
            rfl
          · refine ⟨by omega, by omega, ?_⟩
            rw [e1, e7]
            rfl
      have K' := K H1 rls locs hP' hL hlocs
      rw [← hnx]
      exact K'
    rcases (show a = 4 ∨ a = 5 ∨ a = 6 by omega) with rfl | rfl | rfl
    · exact W.anew hx0 hbb hown (hts _ hlink) (va_AO.use hU.2.2.2.2.1) rfl hd rfl hneg (by rw [hcl]; omega) hcs (by rw [hcl]; exact hss) (fun cA kA comp f1 f2 f3 f4 => key cA f1)
    · exact W.anew hx0 hbb hown (hts _ hlink) (va_AO.use hU.2.2.2.2.2.1) rfl hd rfl hneg (by rw [hcl]; omega) hcs (by rw [hcl]; exact hss) (fun cA kA comp f1 f2 f3 f4 => key cA f1)
    · exact W.anewA (t := .long) hx0 hbb hown (hts _ hlink) (over_moved (Vm.Alike.refl _) hU.2.2.2.2.2.2.1) rfl hd rfl hneg (by rw [hcl]; omega) hcs (by rw [hcl]; exact hss) (fun cA kA comp f1 f2 f3 f4 => key cA f1)
  · cases hx
theorem zx_oinit {j : Nat} (hx : z_oinit n ls st h = some r) (hk : z_chk M pc (.invokespecial j) a b t n = true) (ha : Nat.ble 9000 a = true) (hw : z_wf h) (hl : z_okl ls) (hs : z_oks st) : ZPR h r ∧ ZSim M pc ls st h r := by
  obtain ⟨hd, rfl⟩ := z_chk_d hk rfl
  have h3 := z_chk_3 hk
  simp only [z_chk3, ha, cond_true] at h3
  unfold z_oinit at hx
  split at hx
  · rename_i q st
    obtain ⟨hc, rfl⟩ := z_bif hx
    have hsum := Nat.le_of_ble_eq_true hc
    simp only [z_oks_cons] at hs
    refine ⟨zpr_st hw hl hs.2, zsim_same ?_⟩
    intro σ p l e R s m args below meth c' Q H rls locs cells slots hX hf hlo hP hL K
    obtain ⟨hx0, hbb, hrt, hml, hown, hts, hlk0, hini, hU⟩ := hX
    have hlink : Cond.methodLink (z_R (z_cl M)) j Lib.objectInit ∈ z_gw := by
      obtain ⟨qq, hqq, g⟩ := List.any_eq_true.mp h3
      simp only [Bool.and_eq_true] at g
      have := z_gw_of _ (List.all_eq_true.mp z_OI_ok qq hqq)
      rw [Nat.eq_of_beq_eq_true g.1, Nat.eq_of_beq_eq_true g.2] at this
      exact this
    have hcat : ((st.map (z_rv σ)).map fun v => v.category).sum = (st.map z_cat).sum := by
      rw [List.map_map]
      congr 1
      exact List.map_congr_left (fun v _ => z_cat_rv σ v)
    refine W.objInit hx0 hbb hown (hts _ hlink) (hts _ z_oi_inst) (hts _ z_oi_code) rfl (by rw [hml]; exact hL.2.1) rfl hd hf ?_ (K rls hL)
    show 2 * 0 + _ + 12 ≤ R.locals
    rw [hcat]
    omega
  · cases hx
theorem z_catsum (σ : ZS) (st : List ZV) : ((st.map (z_rv σ)).map fun v => v.category).sum = (st.map z_cat).sum := by
  rw [List.map_map]
  congr 1
  exact List.map_congr_left (fun v _ => z_cat_rv σ v)
theorem zx_aast (hx : z_aast n ls st h = some r) (hk : z_chk M pc .aastore a b t n = true) (hw : z_wf h) (hl : z_okl ls) (hs : z_oks st) : ZPR h r ∧ ZSim M pc ls st h r := by
  obtain ⟨hd, rfl⟩ := z_chk_d hk rfl
  unfold z_aast at hx
  split at hx
  · rename_i v i q st
    obtain ⟨hc, rfl⟩ := z_bif hx
    simp only [Bool.and_eq_true, decide_eq_true_eq] at hc
    have h4 := Nat.le_of_ble_eq_true hc.1.1.1.1
    have h6 := Nat.le_of_ble_eq_true hc.1.1.1.2
    have hfit := hc.1.1.2
    simp only [z_oks_cons] at hs
    have hin : z_in i := hs.2.1
    refine ⟨⟨hw, hl, hs.2.2.2, Nat.le_refl _, Nat.le_refl _⟩, ?_⟩
    intro σ p l e R s m args below meth c' Q H rls locs cells slots hX hf hlo hP hL hlocs hcs hss K
    obtain ⟨hx0, hbb, hrt, hml, hown, hts, hlk0, hini, hU⟩ := hX
    have hcl : (Int32.ofInt i).toNatClampNeg = i.toNat := z_clamp hin
    have h2 : 2 ≤ q := hP.ge2 (by omega)
    have hcell0 := hP.cell hw h2 (by omega)
    have hcell := z_cell_ref hcell0 h4 h6
    have hneg : ¬ Int32.ofInt i < 0 := by rw [← z_of0, z_ltI hin z_in0]; omega
    -- the class of the array's cells, and the cell that is stored
    have hall : ∃ (k kv kcomp : Class) (comp : ClassId) (ty : FieldType) (cv : Cell), s.vm.classes[z_cA σ (h.1.1 q).1]? = some k ∧ k.kind = .array comp ty ∧ ty.isReference = true ∧ s.vm.classes[comp]? = some kcomp ∧ H[z_ad σ v]? = some cv ∧ (∀ x, cv.vm ≠ .statics x) ∧ s.vm.classes[cv.cls]? = some kv ∧ s.vm.assignable cv.cls comp = true := by
      unfold z_fit at hfit
      simp only [Bool.or_eq_true, Bool.and_eq_true] at hfit
      rcases hfit with (⟨⟨g1, g2⟩, g3⟩ | ⟨⟨g1, g2⟩, g3⟩) | ⟨g1, g2⟩
      · have e1 := Nat.eq_of_beq_eq_true g1
        have hTv := z_pair g2 g3
        have h2v : 2 ≤ v := hP.ge2 (by rw [hTv]; decide)
        have hcv := hP.cell hw h2v (by rw [hTv]; decide)
        unfold z_cell at hcv
        rw [hTv] at hcv
        obtain ⟨-, cv, q1, q2, q3, q4⟩ := hcv
        obtain ⟨kA, comp, f1, f2, f3, f4⟩ := (hU.2.1 4 (by decide) (by decide)).2
        obtain ⟨-, hfc, kC, hkC, hkind⟩ := hU.1 10 (by decide)
        have e2 : comp = (z_D σ).1 10 := Option.some.inj (f3.symm.trans hfc)
        rw [e1]
        exact ⟨kA, kC, kC, comp, _, cv, f1, f2, rfl, by rw [e2]; exact hkC, q1, (fun x hx => by rw [q3] at hx; cases hx), by rw [q2]; exact hkC, by rw [q2, e2]; exact va_asg _ _⟩
      · have e1 := Nat.eq_of_beq_eq_true g1
        have hTv := z_pair g2 g3
        have h2v : 2 ≤ v := hP.ge2 (by rw [hTv]; decide)
        have hcv := hP.cell hw h2v (by rw [hTv]; decide)
        unfold z_cell at hcv
        rw [hTv] at hcv
        obtain ⟨-, cv, q1, q2, q3, q4⟩ := hcv
        obtain ⟨kA, comp, f1, f2, f3, f4⟩ := (hU.2.1 5 (by decide) (by decide)).2
        obtain ⟨-, hfc, kC, hkC, hkind⟩ := hU.1 8 (by decide)
        have e2 : comp = (z_D σ).1 8 := Option.some.inj (f3.symm.trans hfc)
        rw [e1]
        exact ⟨kA, kC, kC, comp, _, cv, f1, f2, rfl, by rw [e2]; exact hkC, q1, (fun x hx => by rw [q3] at hx; cases hx), by rw [q2]; exact hkC, by rw [q2, e2]; exact va_asg _ _⟩
      · have e1 := Nat.eq_of_beq_eq_true g1
        have hTv := Nat.eq_of_beq_eq_true g2
        have h2v : 2 ≤ v := hP.ge2 (by rw [hTv]; decide)
        have hcv := hP.cell hw h2v (by rw [hTv]; decide)
        unfold z_cell at hcv
        rw [show h.1.1 v = (3, (h.1.1 v).2) from Prod.ext hTv rfl] at hcv
        obtain ⟨comp, c6, k6, f1, -, f3, f4, f5⟩ := arrayOverA_spec hU.2.2.2.2.2.2.1
        have h9 := (hU.2.1 6 (by decide) (by decide)).2
        have h8 := (hU.2.1 3 (by decide) (by decide)).2
        have e2 : comp = z_cA σ 3 := Option.some.inj (f1.symm.trans h8)
        have e3 : c6 = z_cA σ 6 := Option.some.inj (f5.symm.trans h9)
        obtain ⟨-, k3, hk3, -⟩ := (hU.2.1 3 (by decide) (by decide)).1 0 (fun _ => .null)
        rw [e1]
        exact ⟨k6, k3, k3, comp, _, _, by rw [← e3]; exact f3, f4, rfl, by rw [e2]; exact hk3, hcv, (fun x hx => by cases hx), hk3, by rw [e2]; exact va_asg _ _⟩
    obtain ⟨kA, kv, kcomp, comp, ty, cv, f1, f2, f3, f4, f5, f6, f7, f8⟩ := hall
    refine W.aast hx0 hbb hcell (fun x hx => by cases hx) (fun z => by cases z) f1 f2 f3 f4 ⟨hneg, by rw [hcl, arrV_size]; omega⟩ f5 f6 f7 f8 rfl rfl hd (fun H' e1 e2 e3 => ?_)
    have hP' : ZP σ (h.1, h.2.1, h.2.2.1, h.2.2.2.1, z_u2 h.2.2.2.2 q i.toNat (some v)) H' := by
      refine hP.write h2 rfl rfl (fun b' hb' => ⟨rfl, rfl, rfl, rfl, ?_⟩) ?_ e2 e3
      · funext y
        exact z_u2_na _ _ _ _ hb'
      · have hgoal : H'[z_ad σ q]? = some (arrV (z_cA σ (h.1.1 q).1) (h.1.1 q).2 (fun j => va_rf ((z_u2 h.2.2.2.2 q i.toNat (some v) q j).map (z_ad σ)))) := by
          rw [e1, hcl, arrV_store]
          congr 2
          funext y
          unfold updV z_u2
          by_cases hy : y = i.toNat
          · simp [hy]; rfl
          · simp [hy]
        unfold z_cell
        show match h.1.1 q with | (1, c) => _ | (2, n) => _ | (3, n) => _ | (t, n) => _
        rcases (show (h.1.1 q).1 = 4 ∨ (h.1.1 q).1 = 5 ∨ (h.1.1 q).1 = 6 by omega) with g | g | g
        · rw [show h.1.1 q = (4, (h.1.1 q).2) from Prod.ext g rfl]
          rw [g] at hgoal
          exact ⟨by omega, by omega, hgoal⟩
        · rw [show h.1.1 q = (5, (h.1.1 q).2) from Prod.ext g rfl]
          rw [g] at hgoal
          exact ⟨by omega, by omega, hgoal⟩
        · rw [show h.1.1 q = (6, (h.1.1 q).2) from Prod.ext g rfl]
          rw [g] at hgoal
          exact ⟨by omega, by omega, hgoal⟩
    have K' := K H' rls (locs ++ [⟨z_ad σ q, (Int32.ofInt i).toNatClampNeg⟩]) hP' hL (z_locs hlocs h2)
    simp only [Nat.sub_self, Nat.add_zero] at K'
    exact K'
  · cases hx
end ZXn
