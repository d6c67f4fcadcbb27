/-! the instructions of the heap -/
theorem z_T1 : ∀ c, c < 13 → ∀ k, k < z_N c → (z_T c k).1 = z_R c := by decide +kernel
theorem z_tyok : ∀ c, c < 13 → ∀ k, k < z_N c → parseFieldDescriptor (z_T c k).2.2.1 = some (z_ty c k) := by decide +kernel
theorem z_nm : ∀ c, c < 13 → ∀ j, j < z_N c → ∀ k, k < z_N c → j ≠ k → (z_T c j).2.1 ≠ (z_T c k).2.1 := by decide +kernel
theorem z_LW_all : ∀ c, c < 13 → ∀ k, k < z_N c → z_LW.any (fun q => Nat.beq q.1 c && Nat.beq q.2.1 k) = true := by decide +kernel
theorem z_uws {c : Nat} (hc : c < 13) : ∀ w ∈ u_ws (z_R c) (z_T c) (z_N c), w ∈ z_gw := by
  intro w hw
  obtain ⟨k, hk, rfl⟩ := List.mem_map.mp hw
  obtain ⟨q, hq, h1⟩ := List.any_eq_true.mp (z_LW_all c hc k (List.mem_range.mp hk))
  simp only [Bool.and_eq_true] at h1
  have e1 := Nat.eq_of_beq_eq_true h1.1
  have e2 := Nat.eq_of_beq_eq_true h1.2
  subst e1; subst e2
  exact z_gw_of _ (List.all_eq_true.mp z_LW_ok q hq)
theorem z_ad2 {σ : ZS} {a : Nat} (h : 2 ≤ a) : z_ad σ a = (z_H0 σ).size + (a - 2) := by
  unfold z_ad
  rw [if_neg (by omega), if_neg (by omega)]
theorem z_ad_ge {σ : ZS} {a : Nat} (h : 2 ≤ a) : (z_H0 σ).size ≤ z_ad σ a := by rw [z_ad2 h]; omega
theorem z_ad_inj {σ : ZS} {a b : Nat} (ha : 2 ≤ a) (hb : 2 ≤ b) (h : a ≠ b) : z_ad σ a ≠ z_ad σ b := by rw [z_ad2 ha, z_ad2 hb]; omega
theorem z_cell.congr {σ : ZS} {h h' : ZH} {b : Nat} {H H' : Heap} (e1 : h'.1.1 b = h.1.1 b) (e2 : h'.1.2.1 b = h.1.2.1 b) (e3 : h'.2.1 b = h.2.1 b) (e4 : h'.2.2.1 b = h.2.2.1 b) (e5 : h'.2.2.2.1 b = h.2.2.2.1 b) (e6 : h'.2.2.2.2 b = h.2.2.2.2 b) (eH : H'[z_ad σ b]? = H[z_ad σ b]?) (hc : z_cell σ h b H) : z_cell σ h' b H' := by
  unfold z_cell at hc ⊢
  rw [e1, e4, e5, e6, eH]
  split at hc
  · refine ⟨hc.1, ?_⟩
    have e : z_fv σ h' b = z_fv σ h b := by
      funext c j
      unfold z_fv
      rw [e2, e3]
    rw [e]
    exact hc.2.kept eH
  · exact hc
  · exact hc
  · exact hc
theorem ZP.write {σ : ZS} {h h' : ZH} {H H' : Heap} {a : Nat} (hP : ZP σ h H) (ha : 2 ≤ a) (e0 : h'.1.1 = h.1.1) (en : h'.1.2.2 = h.1.2.2) (hsame : ∀ b, b ≠ a → h'.1.2.1 b = h.1.2.1 b ∧ h'.2.1 b = h.2.1 b ∧ h'.2.2.1 b = h.2.2.1 b ∧ h'.2.2.2.1 b = h.2.2.2.1 b ∧ h'.2.2.2.2 b = h.2.2.2.2 b) (hcell : z_cell σ h' a H') (hz : H'.size = H.size) (ho : ∀ q, q ≠ z_ad σ a → H'[q]? = H[q]?) : ZP σ h' H' := by
  obtain ⟨p1, p2, p3, p4⟩ := hP
  refine ⟨by rw [hz, en]; exact p1, fun q hq => ?_, fun b hb hn => ?_, fun c hc => ?_⟩
  · rw [ho q (by have := z_ad_ge (σ := σ) ha; omega)]
    exact p2 q hq
  · by_cases hba : b = a
    · subst hba
      exact hcell
    · obtain ⟨s1, s2, s3, s4, s5⟩ := hsame b hba
      exact z_cell.congr (by rw [e0]) s1 s2 s3 s4 s5 (ho _ (z_ad_inj hb ha hba)) (p3 b hb (by rw [en] at hn; exact hn))
  · obtain ⟨s1, s2, s3, s4, s5⟩ := hsame c (by omega)
    rw [e0, s3]
    exact p4 c hc
theorem ZP.cell {σ : ZS} {h : ZH} {H : Heap} {q : Nat} (hP : ZP σ h H) (hw : z_wf h) (h2 : 2 ≤ q) (hq : (h.1.1 q).1 ≠ 0) : z_cell σ h q H := by
  refine hP.2.2.1 q h2 ?_
  rcases Nat.lt_or_ge q h.1.2.2.1 with g | g
  · exact g
  · exact absurd (hw.2.2.1 q g) hq
theorem ZP.ge2 {σ : ZS} {h : ZH} {H : Heap} {q : Nat} (hP : ZP σ h H) (hq : (h.1.1 q).1 ≠ 2) : 2 ≤ q := by
  rcases Nat.lt_or_ge q 2 with g | g
  · have := (hP.2.2.2 q g).1
    rw [this] at hq
    exact absurd rfl hq
  · exact g
theorem z_pair {x : Nat × Nat} {a b : Nat} (h1 : Nat.beq x.1 a = true) (h2 : Nat.beq x.2 b = true) : x = (a, b) := Prod.ext (Nat.eq_of_beq_eq_true h1) (Nat.eq_of_beq_eq_true h2)
theorem z_rv_ref (σ : ZS) (q : Nat) : z_rv σ (.inr (.inr (some q))) = .ref (z_ad σ q) := rfl
theorem z_fok_spec {o j a b t : Nat} (h : z_fok o j a b t = true) : (z_wFL o j a b ∈ z_gw ∨ ∃ q ∈ z_FN, q.1 = o ∧ q.2.1 = j ∧ q.2.2.1 = a ∧ q.2.2.2.1 = b) ∧ a < 13 ∧ b < z_N a ∧ z_ft (z_ty a b) = t ∧ t ≤ 2 := by
  unfold z_fok at h
  simp only [Bool.and_eq_true, Bool.or_eq_true] at h
  obtain ⟨⟨⟨⟨h1, h2⟩, h3⟩, h4⟩, h5⟩ := h
  refine ⟨?_, by have := Nat.le_of_ble_eq_true h2; omega, by have := Nat.le_of_ble_eq_true h3; omega, Nat.eq_of_beq_eq_true h4, Nat.le_of_ble_eq_true h5⟩
  rcases h1 with h1 | h1
  · obtain ⟨q, hq, g⟩ := List.any_eq_true.mp h1
    simp only [Bool.and_eq_true] at g
    have e1 := Nat.eq_of_beq_eq_true g.1.1.1
    have e2 := Nat.eq_of_beq_eq_true g.1.1.2
    have e3 := Nat.eq_of_beq_eq_true g.1.2
    have e4 := Nat.eq_of_beq_eq_true g.2
    subst e1; subst e2; subst e3; subst e4
    exact Or.inl (z_gw_of _ (List.all_eq_true.mp z_FL_ok q hq))
  · obtain ⟨q, hq, g⟩ := List.any_eq_true.mp h1
    simp only [Bool.and_eq_true] at g
    exact Or.inr ⟨q, hq, Nat.eq_of_beq_eq_true g.1.1.1, Nat.eq_of_beq_eq_true g.1.1.2, Nat.eq_of_beq_eq_true g.1.2, Nat.eq_of_beq_eq_true g.2⟩
section ZXh
variable {M pc n a b t : Nat} {ls : ZL} {st : List ZV} {h : ZH} {r : ZR}
theorem zx_getf {j : Nat} (hx : z_getf n a b t ls st h = some r) (hk : z_chk M pc (.getfield j) a b t n = true) (hw : z_wf h) (hl : z_okl ls) (hs : z_oks st) : ZPR h r ∧ ZSim M pc ls st h r := by
  obtain ⟨hd, rfl⟩ := z_chk_d hk rfl
  obtain ⟨hlk, ha, hbN, hft, ht2⟩ := z_fok_spec (z_chk_3 hk : z_fok (z_cl M) j a b t = true)
  unfold z_getf at hx
  split at hx
  · rename_i q st
    obtain ⟨hc, rfl⟩ := z_bif hx
    simp only [Bool.and_eq_true] at hc
    have hT := z_pair hc.1 hc.2
    simp only [z_oks_cons] at hs
    refine ⟨zpr_st hw hl (z_oks_cons.mpr ⟨?_, hs.2⟩), zsim_same ?_⟩
    · cases hb2 : Nat.beq t 2 with
      | true => exact trivial
      | false => exact hw.1 q b
    intro σ p l e R s m args below meth c' Q H rls locs cells slots hX hf hlo hP hL K
    have h2 : 2 ≤ q := hP.ge2 (by rw [hT]; exact (by decide : (1 : Nat) ≠ 2))
    have hcl := hP.cell hw h2 (by rw [hT]; exact Nat.one_ne_zero)
    unfold z_cell at hcl
    rw [hT] at hcl
    obtain ⟨-, cell, q1, q2, q3, q4⟩ := hcl
    obtain ⟨hx0, hbb, hrt, hml, hown, hts, hlk0, hini, hU⟩ := hX
    obtain ⟨hS, hfc, kC, hkC, hkind⟩ := hU.1 a ha
    obtain ⟨cf, kf, fi, f, hi, hsl⟩ := hS b hbN
    rw [z_T1 a ha b hbN] at hi
    have hst := (u_facts hfc hkC (by have := u_lays hts (z_uws ha) hbN; rw [z_T1 a ha b hbN] at this; exact this) hi).1
    have hv : cell.slots[f.slot]? = some (z_rv σ (bif Nat.beq t 2 then .inr (.inr (h.1.2.1 q b)) else .inl (h.2.1 q b))) := by
      rw [hsl, q4 b hbN]
      unfold z_fv
      rw [hft]
      cases hb2 : Nat.beq t 2 <;> rfl
    rcases hlk with hlk | ⟨qq, hqq, g1, g2, g3, g4⟩
    · exact W.getf hx0 hbb hown (hts _ hlk) hi hst q1 (by rw [q3]; exact fun z => by cases z) hv rfl rfl hd (K rls hL)
    · have hN := hU.2.2.1 qq hqq
      rw [g1, g2, g3, g4] at hN
      exact va_Wgetf hx0 hbb hown (va_Nw.use rfl hN) hi hst q1 (by rw [q3]; exact fun z => by cases z) hv rfl rfl hd (K rls hL)
  · cases hx
/-- a put into a field, any kind of number or reference -/
theorem z_put {j q : Nat} {v : Value} {h' : ZH} {σ : ZS} {p : Program} {l : Launch} {e : Env} {R : Room} {s : State} {m : MethodId} {args : Array Value} {below : List Frame} {meth : Method} {c : Code} {Q : State → Prop} {H : Heap} {rls : Array Slot} {locs : List Loc} {cells slots : Nat} {rest : List Value}
    (hk : z_chk M pc (.putfield j) a b t n = true) (hw : z_wf h) (hX : ZX σ M p s m args meth c) (hP : ZP σ h H) (hlocs : ∀ q ∈ locs, (z_H0 σ).size ≤ q.base) (hT : h.1.1 q = (1, a)) (hn : narrow (z_ty a b) v = v) (hfit : fits (z_ty a b) v = true)
    (e0 : h'.1.1 = h.1.1) (en : h'.1.2.2 = h.1.2.2) (hsame : ∀ b, b ≠ q → h'.1.2.1 b = h.1.2.1 b ∧ h'.2.1 b = h.2.1 b ∧ h'.2.2.1 b = h.2.2.1 b ∧ h'.2.2.2.1 b = h.2.2.2.1 b ∧ h'.2.2.2.2 b = h.2.2.2.2 b) (hfv : ∀ k, k < z_N a → updV (z_fv σ h q a) b v k = z_fv σ h' q a k)
    (K : ∀ (H' : Heap) (locs' : List Loc), ZP σ h' H' → (∀ q ∈ locs', (z_H0 σ).size ≤ q.base) → W p l e R s m args below meth c H' locs' cells slots Q (F0 m (pc + 3) rls rest)) : W p l e R s m args below meth c H locs cells slots Q (F0 m pc rls (v :: .ref (z_ad σ q) :: rest)) := by
  obtain ⟨hd, -⟩ := z_chk_d hk rfl
  have h3 := z_chk_3 hk
  simp only [z_chk3, Bool.and_eq_true] at h3
  obtain ⟨hlk, ha, hbN, hft, ht2⟩ := z_fok_spec h3.1
  have h2 : 2 ≤ q := hP.ge2 (by rw [hT]; exact (by decide : (1 : Nat) ≠ 2))
  have hcl := hP.cell hw h2 (by rw [hT]; exact Nat.one_ne_zero)
  unfold z_cell at hcl
  rw [hT] at hcl
  obtain ⟨-, cell, q1, q2, q3, q4⟩ := hcl
  obtain ⟨hx0, hbb, hrt, hml, hown, hts, hlk0, hini, hU⟩ := hX
  have hap : ∀ x y, x < z_N a → y < z_N a → x ≠ y → ((z_D σ).2 a) x ≠ ((z_D σ).2 a) y := by
    intro x y hx hy hne
    obtain ⟨hS, -⟩ := hU.1 a ha
    obtain ⟨_, _, _, fa, hia, ea⟩ := hS x hx
    obtain ⟨_, _, _, fb, hib, eb⟩ := hS y hy
    rw [← ea, ← eb]
    refine u_apart (u_lays hts (z_uws ha) hx) (u_lays hts (z_uws ha) hy) hia hib ?_
    rw [(State.fieldFound?_type hia (z_tyok a ha x hx)).1, (State.fieldFound?_type hib (z_tyok a ha y hy)).1]
    exact z_nm a ha x hx y hy hne
  obtain ⟨hS, hfc, kC, hkC, hkind⟩ := hU.1 a ha
  obtain ⟨cf, kf, fi, f, hi, hsl⟩ := hS b hbN
  rw [z_T1 a ha b hbN] at hi
  have hlays := u_lays hts (z_uws ha) hbN
  rw [z_T1 a ha b hbN] at hlays
  have hst := (u_facts hfc hkC hlays hi).1
  have hlay := hts _ (z_uws ha _ (u_in_lay hbN))
  unfold u_lay at hlay
  rw [z_T1 a ha b hbN] at hlay
  have key : ∀ H' : Heap, H'[z_ad σ q]? = some (cell.setSlot f.slot v) → H'.size = H.size → (∀ x, x ≠ z_ad σ q → H'[x]? = H[x]?) → W p l e R s m args below meth c H' (locs ++ [⟨z_ad σ q, f.slot⟩]) cells slots Q (F0 m (pc + 3) rls rest) := by
    intro H' e1 e2 e3
    refine K H' _ (hP.write h2 e0 en hsame ?_ e2 e3) ?_
    · unfold z_cell
      rw [e0, hT]
      refine ⟨ha, t_OB.to (V := updV (z_fv σ h q a) b v) ⟨_, e1, q2, q3, ?_⟩ hfv⟩
      rw [hsl]
      exact t_set q4 hap hbN v
    · intro x hx
      rcases List.mem_append.mp hx with g | g
      · exact hlocs x g
      · rw [List.mem_singleton.mp g]
        exact z_ad_ge h2
  by_cases hfin : (z_T a b).2.2.2 = true
  · have hp := h3.2
    unfold z_pok at hp
    rw [hfin] at hp
    simp only [cond_true, Bool.and_eq_true, decide_eq_true_eq] at hp
    obtain ⟨⟨p1, p2⟩, p3⟩ := hp
    have eo := Nat.eq_of_beq_eq_true p1
    rw [if_pos hfin] at hlay
    obtain ⟨qq, hqq, g⟩ := List.any_eq_true.mp p3
    simp only [Bool.and_eq_true] at g
    have hlink := z_gw_of _ (List.all_eq_true.mp z_FL_ok qq hqq)
    rw [Nat.eq_of_beq_eq_true g.1.1.1, Nat.eq_of_beq_eq_true g.1.1.2, Nat.eq_of_beq_eq_true g.1.2, Nat.eq_of_beq_eq_true g.2] at hlink
    have hcf : m.cls = cf := by
      obtain ⟨_, _, c', _, _, _, -, -, hf', -, -, -, hown2, -⟩ := Cond.laysFinal_spec hlay
      have e1 : c' = cf := by have := hi.symm.trans hf'; simp at this; exact this.1.symm
      rw [eo] at hown
      rw [← e1]; exact Option.some.inj (hown.symm.trans hown2)
    have h6 := u_fits hfc hkC hkind (Or.inr hlay) hi (z_tyok a ha b hbN) hn hfit
    exact W.putFinK hx0 hbb hown (hts _ hlink) hi hst hcf (hini p2) (by rw [q2]; exact h6) q1 q3 (by rw [hsl]; exact k2_hasslot (q4 b hbN)) rfl rfl hd key
  · rw [if_neg hfin] at hlay
    have h6 := u_store hfc hkC hkind hlay hi (z_tyok a ha b hbN) hn hfit
    rcases hlk with hlk | ⟨qq, hqq, g1, g2, g3, g4⟩
    · exact W.putK hx0 hbb (f := f) ⟨hown, hts _ hlk, ⟨_, _, _, hi⟩, hst⟩ (by rw [q2]; exact h6) q1 q3 (by rw [hsl]; exact k2_hasslot (q4 b hbN)) rfl rfl hd key
    · have hN := hU.2.2.1 qq hqq
      rw [g1, g2, g3, g4] at hN
      exact va_WputK hx0 hbb (f := f) hown (va_Nw.use rfl hN) hi hst (by rw [q2]; exact h6) q1 q3 (by rw [hsl]; exact k2_hasslot (q4 b hbN)) rfl rfl hd key
theorem zx_putf {j : Nat} (hx : z_putf n a b t ls st h = some r) (hk : z_chk M pc (.putfield j) a b t n = true) (hw : z_wf h) (hl : z_okl ls) (hs : z_oks st) : ZPR h r ∧ ZSim M pc ls st h r := by
  have hk0 := hk
  obtain ⟨hd, rfl⟩ := z_chk_d hk rfl
  have h3 := z_chk_3 hk
  simp only [z_chk3, Bool.and_eq_true] at h3
  obtain ⟨hlk, ha, hbN, hft, ht2⟩ := z_fok_spec h3.1
  unfold z_putf at hx
  split at hx
  · rename_i x q st
    obtain ⟨hc, rfl⟩ := z_bif hx
    simp only [Bool.and_eq_true, Bool.or_eq_true, decide_eq_true_eq] at hc
    have hT := z_pair hc.1.1 hc.1.2
    simp only [z_oks_cons] at hs
    have hxin : z_in x := hs.1
    have hty : (z_ty a b = .int) ∨ (z_ty a b = .boolean ∧ (x = 0 ∨ x = 1)) := by
      rcases hc.2 with g | ⟨g, g2⟩
      · have e := Nat.eq_of_beq_eq_true g
        rw [e] at hft
        left
        cases hz : z_ty a b <;> rw [hz] at hft <;> simp [z_ft] at hft <;> rfl
      · have e := Nat.eq_of_beq_eq_true g
        rw [e] at hft
        right
        refine ⟨?_, g2⟩
        cases hz : z_ty a b <;> rw [hz] at hft <;> simp [z_ft] at hft <;> rfl
    refine ⟨⟨⟨fun a' j' => ?_, hw.2⟩, hl, hs.2.2, Nat.le_refl _, Nat.le_refl _⟩, ?_⟩
    · show z_in (z_u2 h.2.1 q b x a' j')
      unfold z_u2
      split
      · exact hxin
      · exact hw.1 a' j'
    intro σ p l e R s m args below meth c' Q H rls locs cells slots hX hf hlo hP hL hlocs hcs hss K
    refine z_put (v := .int (Int32.ofInt x)) (h' := (h.1, z_u2 h.2.1 q b x, h.2.2)) hk0 hw hX hP hlocs hT ?_ ?_ rfl rfl (fun b' hb' => ⟨rfl, ?_, rfl, rfl, rfl⟩) ?_ (fun H' locs' hP' hl' => ?_)
    · rcases hty with g | ⟨g, g2⟩
      · rw [g]; rfl
      · rw [g]
        rcases g2 with rfl | rfl <;> rfl
    · rcases hty with g | ⟨g, g2⟩
      · rw [g]; rfl
      · rw [g]
        rcases g2 with rfl | rfl <;> rfl
    · funext y
      exact z_u2_na _ _ _ _ hb'
    · intro k hkN
      unfold updV z_fv
      by_cases hkb : k = b
      · subst hkb
        rw [if_pos rfl]
        have e1 : Nat.beq (z_ft (z_ty a k)) 2 = false := by
          rcases hty with g | ⟨g, -⟩ <;> rw [g] <;> rfl
        rw [e1]
        show _ = Value.int (Int32.ofInt (z_u2 h.2.1 q k x q k))
        rw [z_u2_same]
      · rw [if_neg hkb]
        show _ = bif _ then _ else Value.int (Int32.ofInt (z_u2 h.2.1 q b x q k))
        rw [z_u2_nk _ _ _ _ hkb]
    · have K' := K H' rls locs' hP' hL hl'
      simp only [Nat.sub_self, Nat.add_zero] at K'
      exact K'
  · rename_i x q st
    obtain ⟨hc, rfl⟩ := z_bif hx
    simp only [Bool.and_eq_true] at hc
    have hT := z_pair hc.1.1 hc.1.2
    simp only [z_oks_cons] at hs
    have e := Nat.eq_of_beq_eq_true hc.2
    rw [e] at hft
    have hty : (∃ C, z_ty a b = .object C) ∨ ∃ ty, z_ty a b = .array ty := by
      cases hz : z_ty a b <;> rw [hz] at hft <;> simp [z_ft] at hft
      · exact Or.inl ⟨_, rfl⟩
      · exact Or.inr ⟨_, rfl⟩
    refine ⟨⟨hw, hl, hs.2.2, Nat.le_refl _, Nat.le_refl _⟩, ?_⟩
    intro σ p l e R s m args below meth c' Q H rls locs cells slots hX hf hlo hP hL hlocs hcs hss K
    refine z_put (v := va_rf (x.map (z_ad σ))) (h' := ((h.1.1, z_u2 h.1.2.1 q b x, h.1.2.2), h.2)) hk0 hw hX hP hlocs hT ?_ ?_ rfl rfl (fun b' hb' => ⟨?_, rfl, rfl, rfl, rfl⟩) ?_ (fun H' locs' hP' hl' => ?_)
    · rcases hty with ⟨C, g⟩ | ⟨ty, g⟩ <;> rw [g] <;> cases x <;> rfl
    · rcases hty with ⟨C, g⟩ | ⟨ty, g⟩ <;> rw [g] <;> cases x <;> rfl
    · funext y
      exact z_u2_na _ _ _ _ hb'
    · intro k hkN
      unfold updV z_fv
      by_cases hkb : k = b
      · subst hkb
        rw [if_pos rfl]
        have e1 : Nat.beq (z_ft (z_ty a k)) 2 = true := by
          rcases hty with ⟨C, g⟩ | ⟨ty, g⟩ <;> rw [g] <;> rfl
        rw [e1]
        show _ = va_rf ((z_u2 h.1.2.1 q k x q k).map (z_ad σ))
        rw [z_u2_same]
      · rw [if_neg hkb]
        show _ = bif _ then va_rf ((z_u2 h.1.2.1 q b x q k).map (z_ad σ)) else _
        rw [z_u2_nk _ _ _ _ hkb]
    · have K' := K H' rls locs' hP' hL hl'
      simp only [Nat.sub_self, Nat.add_zero] at K'
      exact K'
  · cases hx
theorem zx_gets {j : Nat} (hk : z_chk M pc (.getstatic j) a b t n = true) (hw : z_wf h) (hl : z_okl ls) (hs : z_oks st) : ZPR h (n, ls, .inr (.inr (some 1)) :: st, h) ∧ ZSim M pc ls st h (n, ls, .inr (.inr (some 1)) :: st, h) := by
  obtain ⟨hd, rfl⟩ := z_chk_d hk rfl
  have h3 := z_chk_3 hk
  simp only [z_chk3, Bool.and_eq_true] at h3
  have e1 := Nat.eq_of_beq_eq_true h3.1
  have e2 := Nat.eq_of_beq_eq_true h3.2
  subst e1
  refine ⟨zpr_st hw hl (z_oks_cons.mpr ⟨trivial, hs⟩), zsim_same ?_⟩
  intro σ p l e R s m args below meth c' Q H rls locs cells slots hX hf hlo hP hL K
  obtain ⟨hx0, hbb, hrt, hml, hown, hts, hlk0, hini, hU⟩ := hX
  rw [e2] at hown
  have hown : s.vm.findClass "RulerBench" = some m.cls := hown
  have hlink : Cond.fieldLink "RulerBench" 304 "RulerBench" "PRIMES" "[I" ∈ z_gw := z_gw_of 902 (by have := z_misc; simp only [List.all_cons, List.all_nil, Bool.and_true, Bool.and_eq_true] at this; exact this.2.2)
  obtain ⟨cf, kf, fi, f, a1, cell, g1, g2, g3, g4, g5, g6, g7, g8⟩ := hU.2.2.2.2.2.2.2.2.1
  have hlt : a1 < (z_H0 σ).size := (Array.getElem?_eq_some_iff.mp g5).1
  exact W.gets hx0 hbb hown (hts _ hlink) g1 g2 g3 g4 (by rw [hP.2.1 a1 hlt]; exact g5) (fun z => by rw [z] at g6; cases g6) g7 rfl hd (K rls hL)
theorem zx_iald (hx : z_iald n ls st h = some r) (hk : z_chk M pc .iaload a b t n = true) (hw : z_wf h) (hl : z_okl ls) (hs : z_oks st) : ZPR h r ∧ ZSim M pc ls st h r := by
  obtain ⟨hd, rfl⟩ := z_chk_d hk rfl
  unfold z_iald at hx
  split at hx
  · rename_i i q st
    obtain ⟨hc, rfl⟩ := z_bif hx
    simp only [Bool.and_eq_true, decide_eq_true_eq] at hc
    have hT := Nat.eq_of_beq_eq_true hc.1.1
    simp only [z_oks_cons] at hs
    have hin : z_in i := hs.1
    refine ⟨zpr_st hw hl (z_oks_cons.mpr ⟨hw.2.1 _ _, hs.2.2⟩), zsim_same ?_⟩
    intro σ p l e R s m args below meth c' Q H rls locs cells slots hX hf hlo hP hL K
    obtain ⟨hx0, hbb, hrt, hml, hown, hts, hlk0, hini, hU⟩ := hX
    have hcl : (Int32.ofInt i).toNatClampNeg = i.toNat := z_clamp hin
    have hlt : i.toNat < (h.1.1 q).2 := by omega
    by_cases h2 : 2 ≤ q
    · have hcell := hP.cell hw h2 (by rw [hT]; decide)
      unfold z_cell at hcell
      rw [show h.1.1 q = (2, (h.1.1 q).2) from Prod.ext hT rfl] at hcell
      refine W.iald (v := .int (Int32.ofInt (h.2.2.1 q i.toNat))) hx0 hbb hcell ((hU.2.1 2 (by decide) (by decide)).1 _ _) (fun z => by cases z) (by rw [arrV_size]; exact z_idx hin hc.1.2 hc.2) (by rw [hcl, arrV_read _ _ hlt]) rfl rfl hd (K rls hL)
    · obtain ⟨f1, f2⟩ := hP.2.2.2 q (by omega)
      obtain ⟨g1, scr, g2, g3, g4, g5, g7, g6⟩ := hU.2.2.2.2.2.2.2.2.2 q (by omega)
      rw [f1] at hlt hc
      have hidx : ¬ (Int32.ofInt i < 0 ∨ scr.slots.size ≤ (Int32.ofInt i).toNatClampNeg) := by
        have h0 := z_idx hin hc.1.2 hc.2
        intro hh
        rcases hh with hh | hh
        · exact h0 (Or.inl hh)
        · exact h0 (Or.inr (Nat.le_trans g5 hh))
      refine W.iald (v := .int (Int32.ofInt (h.2.2.1 q i.toNat))) hx0 hbb (by rw [hP.2.1 _ g1]; exact g2) g3 g4 hidx (by rw [hcl, g6 _ hlt, f2]) rfl rfl hd (K rls hL)
  · cases hx
theorem zx_lald (hx : z_lald n ls st h = some r) (hk : z_chk M pc .laload a b t n = true) (hw : z_wf h) (hl : z_okl ls) (hs : z_oks st) : ZPR h r ∧ ZSim M pc ls st h r := by
  obtain ⟨hd, rfl⟩ := z_chk_d hk rfl
  unfold z_lald at hx
  split at hx
  · rename_i i q st
    obtain ⟨hc, rfl⟩ := z_bif hx
    simp only [Bool.and_eq_true, decide_eq_true_eq] at hc
    have hT := Nat.eq_of_beq_eq_true hc.1.1
    simp only [z_oks_cons] at hs
    have hin : z_in i := hs.1
    refine ⟨zpr_st hw hl (z_oks_cons.mpr ⟨trivial, hs.2.2⟩), zsim_same ?_⟩
    intro σ p l e R s m args below meth c' Q H rls locs cells slots hX hf hlo hP hL K
    obtain ⟨hx0, hbb, hrt, hml, hown, hts, hlk0, hini, hU⟩ := hX
    have hcl : (Int32.ofInt i).toNatClampNeg = i.toNat := z_clamp hin
    have hlt : i.toNat < (h.1.1 q).2 := by omega
    have h2 : 2 ≤ q := hP.ge2 (by rw [hT]; decide)
    have hcell := hP.cell hw h2 (by rw [hT]; decide)
    unfold z_cell at hcell
    rw [show h.1.1 q = (3, (h.1.1 q).2) from Prod.ext hT rfl] at hcell
    refine W.lald (v := .long (h.2.2.2.1 q i.toNat)) hx0 hbb hcell ((hU.2.1 3 (by decide) (by decide)).1 _ _) (fun z => by cases z) (by rw [arrV_size]; exact z_idx hin hc.1.2 hc.2) (by rw [hcl, arrV_read _ _ hlt]) rfl rfl hd (K rls hL)
  · cases hx
theorem z_cell_ref {σ : ZS} {q : Nat} {H : Heap} (hc : z_cell σ h q H) (h4 : 4 ≤ (h.1.1 q).1) (h6 : (h.1.1 q).1 ≤ 6) : H[z_ad σ q]? = some (arrV (z_cA σ (h.1.1 q).1) (h.1.1 q).2 (fun j => va_rf ((h.2.2.2.2 q j).map (z_ad σ)))) := by
  unfold z_cell at hc
  split at hc
  · rename_i c hc'; rw [hc'] at h4; simp at h4
  · rename_i c hc'; rw [hc'] at h4; simp at h4
  · rename_i c hc'; rw [hc'] at h4; simp at h4
  · rename_i t' n' _ _ _ hc'
    rw [hc']
    exact hc.2.2
theorem z_et_ref {t : Nat} (h4 : 4 ≤ t) (h6 : t ≤ 6) : (z_et t).isReference = true := by
  rcases (show t = 4 ∨ t = 5 ∨ t = 6 by omega) with rfl | rfl | rfl <;> rfl
theorem zx_aald (hx : z_aald n ls st h = some r) (hk : z_chk M pc .aaload a b t n = true) (hw : z_wf h) (hl : z_okl ls) (hs : z_oks st) : ZPR h r ∧ ZSim M pc ls st h r := by
  obtain ⟨hd, rfl⟩ := z_chk_d hk rfl
  unfold z_aald at hx
  split at hx
  · rename_i i q st
    obtain ⟨hc, rfl⟩ := z_bif hx
    simp only [Bool.and_eq_true, decide_eq_true_eq] at hc
    have h4 := Nat.le_of_ble_eq_true hc.1.1.1
    have h6 := Nat.le_of_ble_eq_true hc.1.1.2
    simp only [z_oks_cons] at hs
    have hin : z_in i := hs.1
    refine ⟨zpr_st hw hl (z_oks_cons.mpr ⟨trivial, hs.2.2⟩), zsim_same ?_⟩
    intro σ p l e R s m args below meth c' Q H rls locs cells slots hX hf hlo hP hL K
    obtain ⟨hx0, hbb, hrt, hml, hown, hts, hlk0, hini, hU⟩ := hX
    have hcl : (Int32.ofInt i).toNatClampNeg = i.toNat := z_clamp hin
    have hlt : i.toNat < (h.1.1 q).2 := by omega
    have h2 : 2 ≤ q := hP.ge2 (by omega)
    have hcell := z_cell_ref (hP.cell hw h2 (by omega)) h4 h6
    refine W.aald (v := va_rf ((h.2.2.2.2 q i.toNat).map (z_ad σ))) hx0 hbb hcell ((hU.2.1 _ (by omega) h6).1 _ _) (z_et_ref h4 h6) (fun z => by cases z) (by rw [arrV_size]; exact z_idx hin hc.1.2 hc.2) (by rw [hcl, arrV_read _ _ hlt]) rfl rfl hd (K rls hL)
  · cases hx
theorem z_locs {σ : ZS} {locs : List Loc} {q k : Nat} (h : ∀ q ∈ locs, (z_H0 σ).size ≤ q.base) (h2 : 2 ≤ q) : ∀ x ∈ locs ++ [(⟨z_ad σ q, k⟩ : Loc)], (z_H0 σ).size ≤ x.base := by
  intro x hx
  rcases List.mem_append.mp hx with g | g
  · exact h x g
  · rw [List.mem_singleton.mp g]
    exact z_ad_ge h2
theorem zx_iast (hx : z_iast n ls st h = some r) (hk : z_chk M pc .iastore a b t n = true) (hw : z_wf h) (hl : z_okl ls) (hs : z_oks st) : ZPR h r ∧ ZSim M pc ls st h r := by
  obtain ⟨hd, rfl⟩ := z_chk_d hk rfl
  unfold z_iast at hx
  split at hx
  · rename_i x i q st
    obtain ⟨hc, rfl⟩ := z_bif hx
    simp only [Bool.and_eq_true, decide_eq_true_eq] at hc
    have h2 := Nat.le_of_ble_eq_true hc.1.1.1
    have hT := Nat.eq_of_beq_eq_true hc.1.1.2
    simp only [z_oks_cons] at hs
    have hxin : z_in x := hs.1
    have hin : z_in i := hs.2.1
    refine ⟨⟨⟨hw.1, fun a' j' => ?_, hw.2.2⟩, hl, hs.2.2.2, Nat.le_refl _, Nat.le_refl _⟩, ?_⟩
    · show z_in (z_u2 h.2.2.1 q i.toNat x a' j')
      unfold z_u2
      split
      · exact hxin
      · exact hw.2.1 a' j'
    intro σ p l e R s m args below meth c' Q H rls locs cells slots hX hf hlo hP hL hlocs hcs hss K
    obtain ⟨hx0, hbb, hrt, hml, hown, hts, hlk0, hini, hU⟩ := hX
    have hcl : (Int32.ofInt i).toNatClampNeg = i.toNat := z_clamp hin
    have hcell := hP.cell hw h2 (by rw [hT]; decide)
    unfold z_cell at hcell
    have hpr : h.1.1 q = (2, (h.1.1 q).2) := Prod.ext hT rfl
    rw [hpr] at hcell
    refine W.iast hx0 hbb hcell ((hU.2.1 2 (by decide) (by decide)).1 _ _) (fun z => by cases z) (by rw [arrV_size]; exact z_idx hin hc.1.2 hc.2) rfl rfl hd (fun H' e1 e2 e3 => ?_)
    have hP' : ZP σ (h.1, h.2.1, z_u2 h.2.2.1 q i.toNat x, h.2.2.2) H' := by
      refine hP.write h2 rfl rfl (fun b' hb' => ⟨rfl, rfl, ?_, rfl, rfl⟩) ?_ e2 e3
      · funext y
        exact z_u2_na _ _ _ _ hb'
      · unfold z_cell
        show match h.1.1 q with | (1, c) => _ | (2, n) => _ | (3, n) => _ | (t, n) => _
        rw [hpr]
        show H'[z_ad σ q]? = some _
        rw [e1, hcl, arrV_store]
        congr 2
        funext y
        unfold updV z_u2
        by_cases hy : y = i.toNat <;> simp [hy]
    have K' := K H' rls (locs ++ [⟨z_ad σ q, (Int32.ofInt i).toNatClampNeg⟩]) hP' hL (z_locs hlocs h2)
    simp only [Nat.sub_self, Nat.add_zero] at K'
    exact K'
  · cases hx
theorem zx_last (hx : z_last n ls st h = some r) (hk : z_chk M pc .lastore a b t n = true) (hw : z_wf h) (hl : z_okl ls) (hs : z_oks st) : ZPR h r ∧ ZSim M pc ls st h r := by
  obtain ⟨hd, rfl⟩ := z_chk_d hk rfl
  unfold z_last at hx
  split at hx
  · rename_i x i q st
    obtain ⟨hc, rfl⟩ := z_bif hx
    simp only [Bool.and_eq_true, decide_eq_true_eq] at hc
    have hT := Nat.eq_of_beq_eq_true hc.1.1
    simp only [z_oks_cons] at hs
    have hin : z_in i := hs.2.1
    refine ⟨⟨hw, hl, hs.2.2.2, Nat.le_refl _, Nat.le_refl _⟩, ?_⟩
    intro σ p l e R s m args below meth c' Q H rls locs cells slots hX hf hlo hP hL hlocs hcs hss K
    obtain ⟨hx0, hbb, hrt, hml, hown, hts, hlk0, hini, hU⟩ := hX
    have h2 : 2 ≤ q := hP.ge2 (by rw [hT]; decide)
    have hcl : (Int32.ofInt i).toNatClampNeg = i.toNat := z_clamp hin
    have hcell := hP.cell hw h2 (by rw [hT]; decide)
    unfold z_cell at hcell
    have hpr : h.1.1 q = (3, (h.1.1 q).2) := Prod.ext hT rfl
    rw [hpr] at hcell
    refine W.last hx0 hbb hcell ((hU.2.1 3 (by decide) (by decide)).1 _ _) (fun z => by cases z) (by rw [arrV_size]; exact z_idx hin hc.1.2 hc.2) rfl rfl hd (fun H' e1 e2 e3 => ?_)
    have hP' : ZP σ (h.1, h.2.1, h.2.2.1, z_u2 h.2.2.2.1 q i.toNat x, h.2.2.2.2) H' := by
      refine hP.write h2 rfl rfl (fun b' hb' => ⟨rfl, rfl, rfl, ?_, rfl⟩) ?_ e2 e3
      · funext y
        exact z_u2_na _ _ _ _ hb'
      · unfold z_cell
        show match h.1.1 q with | (1, c) => _ | (2, n) => _ | (3, n) => _ | (t, n) => _
        rw [hpr]
        show H'[z_ad σ q]? = some _
        rw [e1, hcl, arrV_store]
        congr 2
        funext y
        unfold updV z_u2
        by_cases hy : y = i.toNat <;> simp [hy]
    have K' := K H' rls (locs ++ [⟨z_ad σ q, (Int32.ofInt i).toNatClampNeg⟩]) hP' hL (z_locs hlocs h2)
    simp only [Nat.sub_self, Nat.add_zero] at K'
    exact K'
  · cases hx
theorem zx_alen (hx : z_alen n ls st h = some r) (hk : z_chk M pc .arraylength a b t n = true) (hw : z_wf h) (hl : z_okl ls) (hs : z_oks st) : ZPR h r ∧ ZSim M pc ls st h r := by
  obtain ⟨hd, rfl⟩ := z_chk_d hk rfl
  unfold z_alen at hx
  split at hx
  · rename_i q st
    obtain ⟨hc, rfl⟩ := z_bif hx
    simp only [Bool.and_eq_true] at hc
    have h2t := Nat.le_of_ble_eq_true hc.1
    have h6t := Nat.le_of_ble_eq_true hc.2
    simp only [z_oks_cons] at hs
    have hlen := hw.2.2.2.1 q
    refine ⟨zpr_st hw hl (z_oks_cons.mpr ⟨⟨by omega, by omega⟩, hs.2⟩), zsim_same ?_⟩
    intro σ p l e R s m args below meth c' Q H rls locs cells slots hX hf hlo hP hL K
    obtain ⟨hx0, hbb, hrt, hml, hown, hts, hlk0, hini, hU⟩ := hX
    have hI : ∀ k : Nat, k.toInt32 = Int32.ofInt (k : Int) := fun k => by rw [Int32.ofInt_eq_ofNat]
    by_cases h2 : 2 ≤ q
    · have hcell := hP.cell hw h2 (by omega)
      have hall : ∃ f, H[z_ad σ q]? = some (arrV (z_cA σ (h.1.1 q).1) (h.1.1 q).2 f) := by
        unfold z_cell at hcell
        split at hcell
        · rename_i c hc'; rw [hc'] at h2t; simp at h2t
        · rename_i c hc'; rw [hc']; exact ⟨_, hcell⟩
        · rename_i c hc'; rw [hc']; exact ⟨_, hcell⟩
        · rename_i t' n' _ _ _ hc'; rw [hc']; exact ⟨_, hcell.2.2⟩
      obtain ⟨f, hf'⟩ := hall
      exact W.alen hx0 hbb hf' ((hU.2.1 _ h2t h6t).1 _ _) (by rw [arrV_size]; exact hI _) rfl rfl hd (K rls hL)
    · obtain ⟨f1, f2⟩ := hP.2.2.2 q (by omega)
      obtain ⟨g1, scr, g2, g3, g4, g5, g7, g6⟩ := hU.2.2.2.2.2.2.2.2.2 q (by omega)
      exact W.alen hx0 hbb (by rw [hP.2.1 _ g1]; exact g2) g3 (by rw [g7, f1]; exact hI _) rfl rfl hd (K rls hL)
  · cases hx
theorem zx_ccast {j : Nat} (hx : z_ccast n ls st h = some r) (hk : z_chk M pc (.checkcast j) a b t n = true) (hw : z_wf h) (hl : z_okl ls) (hs : z_oks st) : ZPR h r ∧ ZSim M pc ls st h r := by
  obtain ⟨hd, rfl⟩ := z_chk_d hk rfl
  have h3 := z_chk_3 hk
  simp only [z_chk3] at h3
  unfold z_ccast at hx
  split at hx
  · rename_i q st
    obtain ⟨hc, rfl⟩ := z_bif hx
    simp only [Bool.and_eq_true] at hc
    have h2 := Nat.le_of_ble_eq_true hc.1
    have hT := Nat.eq_of_beq_eq_true hc.2
    have hs0 := hs
    simp only [z_oks_cons] at hs
    refine ⟨zpr_st hw hl hs0, zsim_same ?_⟩
    intro σ p l e R s m args below meth c' Q H rls locs cells slots hX hf hlo hP hL K
    obtain ⟨hx0, hbb, hrt, hml, hown, hts, hlk0, hini, hU⟩ := hX
    have hlink : Cond.classLink (z_R (z_cl M)) j "[J" ∈ z_gw := by
      obtain ⟨qq, hqq, g⟩ := List.any_eq_true.mp h3
      simp only [Bool.and_eq_true] at g
      have := z_gw_of _ (List.all_eq_true.mp z_CA_ok qq hqq)
      rw [Nat.eq_of_beq_eq_true g.1.1, Nat.eq_of_beq_eq_true g.1.2, Nat.eq_of_beq_eq_true g.2] at this
      exact this
    have hcell := hP.cell hw h2 (by rw [hT]; decide)
    unfold z_cell at hcell
    rw [show h.1.1 q = (3, (h.1.1 q).2) from Prod.ext hT rfl] at hcell
    have hnm : s.vm.findClass "[J" = some (z_cA σ 3) := (hU.2.1 3 (by decide) (by decide)).2
    intro T hTT X
    obtain ⟨vm', X', stp⟩ := X.checkcastYes hx0 hown (hts _ hlink) (by rw [hTT]; exact hcell) rfl hnm (va_asg _ _) (g := F0 m pc rls (.ref (z_ad σ q) :: st.map (z_rv σ))) rfl rfl (by rw [hbb]; exact hd)
    obtain ⟨t, a1, b1⟩ := K rls hL (T.setVm vm') hTT X'
    exact ⟨t, stp t a1, b1⟩
  · cases hx
end ZXh
