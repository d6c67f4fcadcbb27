/-! THE REFERENCE: gangs, the search -/
theorem z_app1 {l : List Nat} {y j : Nat} (h : j < l.length) : (l ++ [y]).getD j 0 = l.getD j 0 := by
  rw [List.getD_eq_getElem?_getD, List.getD_eq_getElem?_getD, List.getElem?_append_left h]
theorem z_app2 {l : List Nat} {y : Nat} : (l ++ [y]).getD l.length 0 = y := by
  rw [List.getD_eq_getElem?_getD, List.getElem?_append_right (Nat.le_refl _), Nat.sub_self]; rfl
section ZRef23
variable {e m n : Nat} {A : ZA} {k : ZK} {F : Nat → Nat → Int} {L : Nat → Nat → Int64} {R : Nat → Nat → Option Nat}
theorem c_goGang (hk : ZMk k) (hm : 2 ≤ m ∧ m ≤ 4) (he : e ≤ 3) (hme : m * e ≤ 9) (hn : n ≤ 60) (h27 : F 79 27 = (m : Int)) (h28 : F 79 28 = (e : Int)) (h29 : F 79 29 = (n : Int)) :
    ∀ (s d kk mark rr seen : Nat) (l : List Nat) (f : Nat → Int) (I : Nat → Nat → Int) (Q : Option ZV → ZH → Prop), kk + rr = e → s + mark = rr * (m + 1) → mark ≤ m → l.length = m * kk + mark → (∀ j, j < l.length → I 94 j = (l.getD j 0 : Int)) → (∀ j, j < l.length → l.getD j 0 ≤ n) → (∀ i j, i < j → j < mark → l.getD (m * kk + i) 0 < l.getD (m * kk + j) 0) → I 93 = f → (∀ x, x ≤ 1000 → f x = z_fb seen x) → (∀ x, 1000 < x → seen.testBit x = false) →
      (∀ (I' : Nat → Nat → Int) (l' : List Nat), (∀ b, b ≠ 93 → b ≠ 94 → I' b = I b) → z_ggw m n s mark l seen = some l' → (∀ j, j < l'.length → I' 94 j = (l'.getD j 0 : Int)) → Q (some (.inl 1)) (k, F, I', L, R)) →
      (∀ (I' : Nat → Nat → Int), (∀ b, b ≠ 93 → b ≠ 94 → I' b = I b) → z_ggw m n s mark l seen = none → I' 93 = f → (∀ j, j < l.length → I' 94 j = (l.getD j 0 : Int)) → Q (some (.inl 0)) (k, F, I', L, R)) →
      ZC (d + s + 2) 212 [.inr (.inr (some 79)), .inl (kk : Int), .inl (mark : Int)] (k, F, I, L, R) Q := by
  have hk0 := hk
  obtain ⟨⟨hT, _⟩, ⟨g10, g11, g12, g13, g20, g22, g25, g26⟩, _, ⟨t87, t88, t89, t90, t91, t92, t93, t94⟩⟩ := hk
  intro s
  induction s with
  | zero =>
    intro d kk mark rr seen l f I Q h1 h2 h3 hl hI hb hr h93 hf hse K1 K0
    have hrr : rr = 0 := by
      cases rr with
      | zero => rfl
      | succ rr => rw [Nat.succ_mul] at h2; omega
    refine ze_M_goGang ?_
    repeat (first | refine zw_t rfl rfl ?_ | refine zw_jump rfl rfl ?_ | refine zw_getI rfl rfl (by assumption) ?_ | refine zw_ialn rfl (by assumption) (by omega) ?_ | refine zw_laln rfl (by assumption) (by omega) ?_ | refine zw_iastn rfl (by omega) (by assumption) (by omega) ?_ | refine zw_lastn rfl (by assumption) (by omega) ?_ | refine zw_iald0 rfl (by assumption) (by omega) ?_ | refine zw_lald0 rfl (by assumption) (by omega) ?_ | refine zw_aaln rfl (by assumption) rfl (by omega) ?_ | refine zw_getR rfl (by assumption) (by assumption) ?_ | refine zw_alen rfl (by assumption) rfl ?_ | refine zw_iald rfl (by assumption) (by omega) (by omega) ?_ | refine zw_iast rfl (by omega) (by assumption) (by omega) (by omega) ?_ | refine zw_putI rfl (by assumption) ?_ | refine zw_lald rfl (by assumption) (by omega) (by omega) ?_ | refine zw_last rfl (by assumption) (by omega) (by omega) ?_ | refine zw_iadd rfl (by omega) (by omega) ?_ | refine zw_isub rfl (by omega) (by omega) ?_ | refine zw_iinc rfl rfl rfl (by omega) (by omega) ?_ | refine zw_imul rfl (by omega) (by omega) ?_)
    rw [h28]
    refine zw_icmp_ne_f rfl (by omega) ?_
    repeat (first | refine zw_t rfl rfl ?_ | refine zw_jump rfl rfl ?_ | refine zw_getI rfl rfl (by assumption) ?_ | refine zw_ialn rfl (by assumption) (by omega) ?_ | refine zw_laln rfl (by assumption) (by omega) ?_ | refine zw_iastn rfl (by omega) (by assumption) (by omega) ?_ | refine zw_lastn rfl (by assumption) (by omega) ?_ | refine zw_iald0 rfl (by assumption) (by omega) ?_ | refine zw_lald0 rfl (by assumption) (by omega) ?_ | refine zw_aaln rfl (by assumption) rfl (by omega) ?_ | refine zw_getR rfl (by assumption) (by assumption) ?_ | refine zw_alen rfl (by assumption) rfl ?_ | refine zw_iald rfl (by assumption) (by omega) (by omega) ?_ | refine zw_iast rfl (by omega) (by assumption) (by omega) (by omega) ?_ | refine zw_putI rfl (by assumption) ?_ | refine zw_lald rfl (by assumption) (by omega) (by omega) ?_ | refine zw_last rfl (by assumption) (by omega) (by omega) ?_ | refine zw_iadd rfl (by omega) (by omega) ?_ | refine zw_isub rfl (by omega) (by omega) ?_ | refine zw_iinc rfl rfl rfl (by omega) (by omega) ?_ | refine zw_imul rfl (by omega) (by omega) ?_)
    exact zw_zret rfl (Or.inr rfl) (K1 I l (fun _ _ _ => rfl) rfl hI)
  | succ s ih =>
    intro d kk mark rr seen l f I Q h1 h2 h3 hl hI hb hr h93 hf hse K1 K0
    obtain ⟨r', rfl⟩ : ∃ r', rr = r' + 1 := by
      cases rr with
      | zero => rw [Nat.zero_mul] at h2; omega
      | succ rr => exact ⟨rr, rfl⟩
    rw [Nat.succ_mul] at h2
    obtain ⟨a, ha⟩ : ∃ a, a = m * kk := ⟨_, rfl⟩
    have ham : a + m ≤ 9 := by
      have q : m * (kk + 1) ≤ m * e := Nat.mul_le_mul_left _ (by omega)
      rw [Nat.mul_add, Nat.mul_one, ← ha] at q
      omega
    have ea : (m : Int) * (kk : Int) = (a : Int) := by rw [ha, Int.natCast_mul]
    rw [← ha] at hl hr
    refine ze_M_goGang ?_
    repeat (first | refine zw_t rfl rfl ?_ | refine zw_jump rfl rfl ?_ | refine zw_getI rfl rfl (by assumption) ?_ | refine zw_ialn rfl (by assumption) (by omega) ?_ | refine zw_laln rfl (by assumption) (by omega) ?_ | refine zw_iastn rfl (by omega) (by assumption) (by omega) ?_ | refine zw_lastn rfl (by assumption) (by omega) ?_ | refine zw_iald0 rfl (by assumption) (by omega) ?_ | refine zw_lald0 rfl (by assumption) (by omega) ?_ | refine zw_aaln rfl (by assumption) rfl (by omega) ?_ | refine zw_getR rfl (by assumption) (by assumption) ?_ | refine zw_alen rfl (by assumption) rfl ?_ | refine zw_iald rfl (by assumption) (by omega) (by omega) ?_ | refine zw_iast rfl (by omega) (by assumption) (by omega) (by omega) ?_ | refine zw_putI rfl (by assumption) ?_ | refine zw_lald rfl (by assumption) (by omega) (by omega) ?_ | refine zw_last rfl (by assumption) (by omega) (by omega) ?_ | refine zw_iadd rfl (by omega) (by omega) ?_ | refine zw_isub rfl (by omega) (by omega) ?_ | refine zw_iinc rfl rfl rfl (by omega) (by omega) ?_ | refine zw_imul rfl (by omega) (by omega) ?_)
    rw [h28]
    refine zw_icmp_ne_t rfl (by omega) ?_
    repeat (first | refine zw_t rfl rfl ?_ | refine zw_jump rfl rfl ?_ | refine zw_getI rfl rfl (by assumption) ?_ | refine zw_ialn rfl (by assumption) (by omega) ?_ | refine zw_laln rfl (by assumption) (by omega) ?_ | refine zw_iastn rfl (by omega) (by assumption) (by omega) ?_ | refine zw_lastn rfl (by assumption) (by omega) ?_ | refine zw_iald0 rfl (by assumption) (by omega) ?_ | refine zw_lald0 rfl (by assumption) (by omega) ?_ | refine zw_aaln rfl (by assumption) rfl (by omega) ?_ | refine zw_getR rfl (by assumption) (by assumption) ?_ | refine zw_alen rfl (by assumption) rfl ?_ | refine zw_iald rfl (by assumption) (by omega) (by omega) ?_ | refine zw_iast rfl (by omega) (by assumption) (by omega) (by omega) ?_ | refine zw_putI rfl (by assumption) ?_ | refine zw_lald rfl (by assumption) (by omega) (by omega) ?_ | refine zw_last rfl (by assumption) (by omega) (by omega) ?_ | refine zw_iadd rfl (by omega) (by omega) ?_ | refine zw_isub rfl (by omega) (by omega) ?_ | refine zw_iinc rfl rfl rfl (by omega) (by omega) ?_ | refine zw_imul rfl (by omega) (by omega) ?_)
    rw [h27]
    refine zw_imul rfl (by rw [ea]; omega) (by rw [ea]; omega) ?_
    rw [ea]
    repeat (first | refine zw_t rfl rfl ?_ | refine zw_jump rfl rfl ?_ | refine zw_getI rfl rfl (by assumption) ?_ | refine zw_ialn rfl (by assumption) (by omega) ?_ | refine zw_laln rfl (by assumption) (by omega) ?_ | refine zw_iastn rfl (by omega) (by assumption) (by omega) ?_ | refine zw_lastn rfl (by assumption) (by omega) ?_ | refine zw_iald0 rfl (by assumption) (by omega) ?_ | refine zw_lald0 rfl (by assumption) (by omega) ?_ | refine zw_aaln rfl (by assumption) rfl (by omega) ?_ | refine zw_getR rfl (by assumption) (by assumption) ?_ | refine zw_alen rfl (by assumption) rfl ?_ | refine zw_iald rfl (by assumption) (by omega) (by omega) ?_ | refine zw_iast rfl (by omega) (by assumption) (by omega) (by omega) ?_ | refine zw_putI rfl (by assumption) ?_ | refine zw_lald rfl (by assumption) (by omega) (by omega) ?_ | refine zw_last rfl (by assumption) (by omega) (by omega) ?_ | refine zw_iadd rfl (by omega) (by omega) ?_ | refine zw_isub rfl (by omega) (by omega) ?_ | refine zw_iinc rfl rfl rfl (by omega) (by omega) ?_ | refine zw_imul rfl (by omega) (by omega) ?_)
    rw [h27]
    refine zw_icmp_ne rfl (fun h4 => ?_) (fun h4 => ?_)
    · have hmm : mark ≠ m := by omega
      obtain ⟨fn, hfn⟩ : ∃ fn : Nat → Option (List Nat), fn = (fun x => if z_gn l (l.length - mark) x mark &&& seen = 0 then z_ggw m n s (mark + 1) (l ++ [x]) (seen ||| z_gn l (l.length - mark) x mark) else none) := ⟨_, rfl⟩
      have ego := z_ggw_go (m := m) (most := n) (s := s) (l := l) (seen := seen) hmm
      rw [← hfn] at ego
      have hlm : l.length - mark = a := by omega
      have loop : ∀ (c y : Nat) (a4 to : Int) (x7 x8 : Option ZV) (I1 : Nat → Nat → Int), (∀ b, b ≠ 93 → b ≠ 94 → I1 b = I b) → I1 93 = f → (∀ j, j < l.length → I1 94 j = (l.getD j 0 : Int)) → (c : Int) + y = to + 1 → to ≤ (n : Int) → (∀ i, i < mark → l.getD (a + i) 0 < y) → z_ggw m n (s + 1) mark l seen = z_gfs fn c y → ZW (d + (s + 1) + 1) 212 98 [some (.inr (.inr (some 79))), some (.inl (kk : Int)), some (.inl (mark : Int)), some (.inl (a : Int)), some (.inl a4), some (.inl to), some (.inl (y : Int)), x7, x8] [] (k, F, I1, L, R) Q := by
        intro c
        induction c with
        | zero =>
          intro y a4 to x7 x8 I1 s1 i93 i94 hc hto hy hg
          repeat (first | refine zw_t rfl rfl ?_ | refine zw_jump rfl rfl ?_ | refine zw_getI rfl rfl (by assumption) ?_ | refine zw_ialn rfl (by assumption) (by omega) ?_ | refine zw_laln rfl (by assumption) (by omega) ?_ | refine zw_iastn rfl (by omega) (by assumption) (by omega) ?_ | refine zw_lastn rfl (by assumption) (by omega) ?_ | refine zw_iald0 rfl (by assumption) (by omega) ?_ | refine zw_lald0 rfl (by assumption) (by omega) ?_ | refine zw_aaln rfl (by assumption) rfl (by omega) ?_ | refine zw_getR rfl (by assumption) (by assumption) ?_ | refine zw_alen rfl (by assumption) rfl ?_ | refine zw_iald rfl (by assumption) (by omega) (by omega) ?_ | refine zw_iast rfl (by omega) (by assumption) (by omega) (by omega) ?_ | refine zw_putI rfl (by assumption) ?_ | refine zw_lald rfl (by assumption) (by omega) (by omega) ?_ | refine zw_last rfl (by assumption) (by omega) (by omega) ?_ | refine zw_iadd rfl (by omega) (by omega) ?_ | refine zw_isub rfl (by omega) (by omega) ?_ | refine zw_iinc rfl rfl rfl (by omega) (by omega) ?_ | refine zw_imul rfl (by omega) (by omega) ?_)
          refine zw_icmp_gt_t rfl (by omega) ?_
          repeat (first | refine zw_t rfl rfl ?_ | refine zw_jump rfl rfl ?_ | refine zw_getI rfl rfl (by assumption) ?_ | refine zw_ialn rfl (by assumption) (by omega) ?_ | refine zw_laln rfl (by assumption) (by omega) ?_ | refine zw_iastn rfl (by omega) (by assumption) (by omega) ?_ | refine zw_lastn rfl (by assumption) (by omega) ?_ | refine zw_iald0 rfl (by assumption) (by omega) ?_ | refine zw_lald0 rfl (by assumption) (by omega) ?_ | refine zw_aaln rfl (by assumption) rfl (by omega) ?_ | refine zw_getR rfl (by assumption) (by assumption) ?_ | refine zw_alen rfl (by assumption) rfl ?_ | refine zw_iald rfl (by assumption) (by omega) (by omega) ?_ | refine zw_iast rfl (by omega) (by assumption) (by omega) (by omega) ?_ | refine zw_putI rfl (by assumption) ?_ | refine zw_lald rfl (by assumption) (by omega) (by omega) ?_ | refine zw_last rfl (by assumption) (by omega) (by omega) ?_ | refine zw_iadd rfl (by omega) (by omega) ?_ | refine zw_isub rfl (by omega) (by omega) ?_ | refine zw_iinc rfl rfl rfl (by omega) (by omega) ?_ | refine zw_imul rfl (by omega) (by omega) ?_)
          exact zw_zret rfl (Or.inl rfl) (K0 I1 s1 hg i93 i94)
        | succ c ihc =>
          intro y a4 to x7 x8 I1 s1 i93 i94 hc hto hy hg
          rw [z_gfs_succ] at hg
          have hyn : y ≤ n := by omega
          obtain ⟨nw, hnw⟩ : ∃ nw, nw = z_gn l a y mark := ⟨_, rfl⟩
          have efn : fn y = if nw &&& seen = 0 then z_ggw m n s (mark + 1) (l ++ [y]) (seen ||| nw) else none := by rw [hfn, hnw, ← hlm]
          have ecn : ∀ z, z_cn (fun i => (l.getD (a + i) 0 : Int)) mark 0 (y : Int) z = z_fb nw z := fun z => by rw [hnw]; exact z_cn_gn hr hy z
          have hnb : ∀ z, 1000 < z → nw.testBit z = false := fun z hz => by
            rw [Bool.eq_false_iff]
            intro q
            rw [hnw] at q
            obtain ⟨i, hi, q⟩ := (z_gn_bit mark).1 q
            omega
          have fbd : ∀ z, z ≤ 1000 → 0 ≤ f z ∧ f z ≤ 1 := fun z hz => by rw [hf z hz]; exact z_fb_le _ _
          obtain ⟨f1, hf1⟩ : ∃ f1 : Nat → Int, f1 = (fun z => f z + z_cn (fun i => (l.getD (a + i) 0 : Int)) mark 0 (y : Int) z) := ⟨_, rfl⟩
          have step : ∀ i z, z_cn (fun i => (l.getD (a + i) 0 : Int)) (i + 1) 0 (y : Int) z = z_cn (fun i => (l.getD (a + i) 0 : Int)) i 0 (y : Int) z + z_one ((y : Int) - (l.getD (a + i) 0 : Int)) z := fun i z => by
            unfold z_cn
            rw [zsf_snoc, Nat.zero_add]
            unfold z_e
            rw [if_neg (by omega), Int.add_zero]
          -- the lengths are taken back
          have back : ∀ (t : Int) (I3 : Nat → Nat → Int), (∀ b, b ≠ 93 → b ≠ 94 → I3 b = I b) → (∀ j, j < l.length → I3 94 j = (l.getD j 0 : Int)) → fn y = none → ∀ (cn i : Nat) (g : Nat → Int), cn + i = mark → g = (fun z => f1 z - z_cn (fun i => (l.getD (a + i) 0 : Int)) i 0 (y : Int) z) → ZW (d + (s + 1) + 1) 212 208 [some (.inr (.inr (some 79))), some (.inl (kk : Int)), some (.inl (mark : Int)), some (.inl (a : Int)), some (.inl a4), some (.inl to), some (.inl (y : Int)), some (.inl t), some (.inl (i : Int))] [] (k, F, z_up I3 93 g, L, R) Q := by
            intro t I3 s3 i3 hno cn
            induction cn with
            | zero =>
              intro i g hi hg2
              have hi : i = mark := by omega
              subst hi
              have eg : g = f := by
                rw [hg2, hf1]
                funext z
                dsimp only
                omega
              rw [eg]
              repeat (first | refine zw_t rfl rfl ?_ | refine zw_jump rfl rfl ?_ | refine zw_getI rfl rfl (by assumption) ?_ | refine zw_ialn rfl (by assumption) (by omega) ?_ | refine zw_laln rfl (by assumption) (by omega) ?_ | refine zw_iastn rfl (by omega) (by assumption) (by omega) ?_ | refine zw_lastn rfl (by assumption) (by omega) ?_ | refine zw_iald0 rfl (by assumption) (by omega) ?_ | refine zw_lald0 rfl (by assumption) (by omega) ?_ | refine zw_aaln rfl (by assumption) rfl (by omega) ?_ | refine zw_getR rfl (by assumption) (by assumption) ?_ | refine zw_alen rfl (by assumption) rfl ?_ | refine zw_iald rfl (by assumption) (by omega) (by omega) ?_ | refine zw_iast rfl (by omega) (by assumption) (by omega) (by omega) ?_ | refine zw_putI rfl (by assumption) ?_ | refine zw_lald rfl (by assumption) (by omega) (by omega) ?_ | refine zw_last rfl (by assumption) (by omega) (by omega) ?_ | refine zw_iadd rfl (by omega) (by omega) ?_ | refine zw_isub rfl (by omega) (by omega) ?_ | refine zw_iinc rfl rfl rfl (by omega) (by omega) ?_ | refine zw_imul rfl (by omega) (by omega) ?_)
              refine zw_icmp_ge_t rfl (by omega) ?_
              repeat (first | refine zw_t rfl rfl ?_ | refine zw_jump rfl rfl ?_ | refine zw_getI rfl rfl (by assumption) ?_ | refine zw_ialn rfl (by assumption) (by omega) ?_ | refine zw_laln rfl (by assumption) (by omega) ?_ | refine zw_iastn rfl (by omega) (by assumption) (by omega) ?_ | refine zw_lastn rfl (by assumption) (by omega) ?_ | refine zw_iald0 rfl (by assumption) (by omega) ?_ | refine zw_lald0 rfl (by assumption) (by omega) ?_ | refine zw_aaln rfl (by assumption) rfl (by omega) ?_ | refine zw_getR rfl (by assumption) (by assumption) ?_ | refine zw_alen rfl (by assumption) rfl ?_ | refine zw_iald rfl (by assumption) (by omega) (by omega) ?_ | refine zw_iast rfl (by omega) (by assumption) (by omega) (by omega) ?_ | refine zw_putI rfl (by assumption) ?_ | refine zw_lald rfl (by assumption) (by omega) (by omega) ?_ | refine zw_last rfl (by assumption) (by omega) (by omega) ?_ | refine zw_iadd rfl (by omega) (by omega) ?_ | refine zw_isub rfl (by omega) (by omega) ?_ | refine zw_iinc rfl rfl rfl (by omega) (by omega) ?_ | refine zw_imul rfl (by omega) (by omega) ?_)
              refine zw_goto rfl ?_
              refine ihc (y + 1) a4 to _ _ (z_up I3 93 f) (fun b b1 b2 => by rw [z_up_ne _ _ b1]; exact s3 b b1 b2) (z_up_same _ _ _) (fun j hj => by rw [z_up_ne _ _ (by omega)]; exact i3 j hj) (by omega) hto (fun i hi => by have := hy i hi; omega) ?_
              rw [hno] at hg
              exact hg
            | succ cn ihn =>
              intro i g hi hg2
              have q1 := hy i (by omega)
              obtain ⟨u, hu⟩ : ∃ u : Nat, (y : Int) - (l.getD (a + i) 0 : Int) = (u : Int) := ⟨y - l.getD (a + i) 0, by omega⟩
              have gb : -100 ≤ g u ∧ g u ≤ 100 := by
                rw [hg2, hf1]
                dsimp only
                have a1 := fbd u (by omega)
                have a2 := z_cn_le (fun i => (l.getD (a + i) 0 : Int)) mark 0 (y : Int) u
                have a3 := z_cn_le (fun i => (l.getD (a + i) 0 : Int)) i 0 (y : Int) u
                omega
              repeat (first | refine zw_t rfl rfl ?_ | refine zw_jump rfl rfl ?_ | refine zw_getI rfl rfl (by assumption) ?_ | refine zw_ialn rfl (by assumption) (by omega) ?_ | refine zw_laln rfl (by assumption) (by omega) ?_ | refine zw_iastn rfl (by omega) (by assumption) (by omega) ?_ | refine zw_lastn rfl (by assumption) (by omega) ?_ | refine zw_iald0 rfl (by assumption) (by omega) ?_ | refine zw_lald0 rfl (by assumption) (by omega) ?_ | refine zw_aaln rfl (by assumption) rfl (by omega) ?_ | refine zw_getR rfl (by assumption) (by assumption) ?_ | refine zw_alen rfl (by assumption) rfl ?_ | refine zw_iald rfl (by assumption) (by omega) (by omega) ?_ | refine zw_iast rfl (by omega) (by assumption) (by omega) (by omega) ?_ | refine zw_putI rfl (by assumption) ?_ | refine zw_lald rfl (by assumption) (by omega) (by omega) ?_ | refine zw_last rfl (by assumption) (by omega) (by omega) ?_ | refine zw_iadd rfl (by omega) (by omega) ?_ | refine zw_isub rfl (by omega) (by omega) ?_ | refine zw_iinc rfl rfl rfl (by omega) (by omega) ?_ | refine zw_imul rfl (by omega) (by omega) ?_)
              refine zw_icmp_ge_f rfl (by omega) ?_
              repeat (first | refine zw_t rfl rfl ?_ | refine zw_jump rfl rfl ?_ | refine zw_getI rfl rfl (by assumption) ?_ | refine zw_ialn rfl (by assumption) (by omega) ?_ | refine zw_laln rfl (by assumption) (by omega) ?_ | refine zw_iastn rfl (by omega) (by assumption) (by omega) ?_ | refine zw_lastn rfl (by assumption) (by omega) ?_ | refine zw_iald0 rfl (by assumption) (by omega) ?_ | refine zw_lald0 rfl (by assumption) (by omega) ?_ | refine zw_aaln rfl (by assumption) rfl (by omega) ?_ | refine zw_getR rfl (by assumption) (by assumption) ?_ | refine zw_alen rfl (by assumption) rfl ?_ | refine zw_iald rfl (by assumption) (by omega) (by omega) ?_ | refine zw_iast rfl (by omega) (by assumption) (by omega) (by omega) ?_ | refine zw_putI rfl (by assumption) ?_ | refine zw_lald rfl (by assumption) (by omega) (by omega) ?_ | refine zw_last rfl (by assumption) (by omega) (by omega) ?_ | refine zw_iadd rfl (by omega) (by omega) ?_ | refine zw_isub rfl (by omega) (by omega) ?_ | refine zw_iinc rfl rfl rfl (by omega) (by omega) ?_ | refine zw_imul rfl (by omega) (by omega) ?_)
              rw [z_up_ne _ _ (show (94 : Nat) ≠ 93 by omega), i3 (a + i) (by omega)]
              refine zw_isub rfl (by omega) (by omega) ?_
              rw [hu]
              repeat (first | refine zw_t rfl rfl ?_ | refine zw_jump rfl rfl ?_ | refine zw_getI rfl rfl (by assumption) ?_ | refine zw_ialn rfl (by assumption) (by omega) ?_ | refine zw_laln rfl (by assumption) (by omega) ?_ | refine zw_iastn rfl (by omega) (by assumption) (by omega) ?_ | refine zw_lastn rfl (by assumption) (by omega) ?_ | refine zw_iald0 rfl (by assumption) (by omega) ?_ | refine zw_lald0 rfl (by assumption) (by omega) ?_ | refine zw_aaln rfl (by assumption) rfl (by omega) ?_ | refine zw_getR rfl (by assumption) (by assumption) ?_ | refine zw_alen rfl (by assumption) rfl ?_ | refine zw_iald rfl (by assumption) (by omega) (by omega) ?_ | refine zw_iast rfl (by omega) (by assumption) (by omega) (by omega) ?_ | refine zw_putI rfl (by assumption) ?_ | refine zw_lald rfl (by assumption) (by omega) (by omega) ?_ | refine zw_last rfl (by assumption) (by omega) (by omega) ?_ | refine zw_iadd rfl (by omega) (by omega) ?_ | refine zw_isub rfl (by omega) (by omega) ?_ | refine zw_iinc rfl rfl rfl (by omega) (by omega) ?_ | refine zw_imul rfl (by omega) (by omega) ?_)
              rw [z_up_same]
              refine zw_isub rfl (by omega) (by omega) ?_
              repeat (first | refine zw_t rfl rfl ?_ | refine zw_jump rfl rfl ?_ | refine zw_getI rfl rfl (by assumption) ?_ | refine zw_ialn rfl (by assumption) (by omega) ?_ | refine zw_laln rfl (by assumption) (by omega) ?_ | refine zw_iastn rfl (by omega) (by assumption) (by omega) ?_ | refine zw_lastn rfl (by assumption) (by omega) ?_ | refine zw_iald0 rfl (by assumption) (by omega) ?_ | refine zw_lald0 rfl (by assumption) (by omega) ?_ | refine zw_aaln rfl (by assumption) rfl (by omega) ?_ | refine zw_getR rfl (by assumption) (by assumption) ?_ | refine zw_alen rfl (by assumption) rfl ?_ | refine zw_iald rfl (by assumption) (by omega) (by omega) ?_ | refine zw_iast rfl (by omega) (by assumption) (by omega) (by omega) ?_ | refine zw_putI rfl (by assumption) ?_ | refine zw_lald rfl (by assumption) (by omega) (by omega) ?_ | refine zw_last rfl (by assumption) (by omega) (by omega) ?_ | refine zw_iadd rfl (by omega) (by omega) ?_ | refine zw_isub rfl (by omega) (by omega) ?_ | refine zw_iinc rfl rfl rfl (by omega) (by omega) ?_ | refine zw_imul rfl (by omega) (by omega) ?_)
              rw [z_u2_up]
              refine zw_goto rfl ?_
              refine ihn (i + 1) _ (by omega) ?_
              funext z
              rw [z_up_val, step i z, hu, hg2]
              dsimp only
              unfold z_one
              by_cases hz : z = u
              · rw [if_pos hz, if_pos (by omega), hz]; omega
              · rw [if_neg hz, if_neg (by omega)]; omega
          have after : ∀ (t : Int), ((t = 0 ∧ ∀ z, z ≤ 1000 → f1 z ≤ 1) ∨ (t = 1 ∧ ∃ z, z ≤ 1000 ∧ 1 < f1 z)) → ZW (d + (s + 1) + 1) 212 177 [some (.inr (.inr (some 79))), some (.inl (kk : Int)), some (.inl (mark : Int)), some (.inl (a : Int)), some (.inl a4), some (.inl to), some (.inl (y : Int)), some (.inl t), some (.inl (mark : Int))] [] (k, F, z_up I1 93 f1, L, R) Q := by
            intro t hfl
            have ef1 : ∀ z, z ≤ 1000 → f1 z = z_fb seen z + z_fb nw z := fun z hz => by rw [hf1]; dsimp only; rw [ecn z, hf z hz]
            obtain ⟨I2, hI2⟩ : ∃ I2, I2 = z_u2 (z_up I1 93 f1) 94 (a + mark) (y : Int) := ⟨_, rfl⟩
            have s2 : ∀ b, b ≠ 93 → b ≠ 94 → I2 b = I b := fun b b1 b2 => by rw [hI2, z_u2_ad _ _ _ b2, z_up_ne _ _ b1]; exact s1 b b1 b2
            have j93 : I2 93 = f1 := by rw [hI2, z_u2_ad _ _ _ (by omega), z_up_same]
            have j94 : ∀ j, j < (l ++ [y]).length → I2 94 j = ((l ++ [y]).getD j 0 : Int) := fun j hj => by
              rw [List.length_append, List.length_singleton] at hj
              by_cases hjl : j = l.length
              · rw [hjl, z_app2, hI2, hl, z_u2_same]
              · rw [z_app1 (by omega), hI2, z_u2_nk _ _ _ _ (by omega), z_up_ne _ _ (by omega)]
                exact i94 j (by omega)
            have j94b : ∀ j, j < l.length → I2 94 j = (l.getD j 0 : Int) := fun j hj => by
              rw [j94 j (by rw [List.length_append, List.length_singleton]; omega), z_app1 hj]
            rcases hfl with ⟨t0, hle⟩ | ⟨t1, z, hz1, hz⟩
            · have hz : nw &&& seen = 0 := z_fb_one (fun z => by
                by_cases hz : z ≤ 1000
                · rw [← ef1 z hz]; exact hle z hz
                · have q := z_fb_le seen z
                  have q2 : z_fb nw z = 0 := by unfold z_fb; rw [if_neg (by rw [hnb z (by omega)]; decide)]
                  omega)
              rw [if_pos hz] at efn
              repeat (first | refine zw_t rfl rfl ?_ | refine zw_jump rfl rfl ?_ | refine zw_getI rfl rfl (by assumption) ?_ | refine zw_ialn rfl (by assumption) (by omega) ?_ | refine zw_laln rfl (by assumption) (by omega) ?_ | refine zw_iastn rfl (by omega) (by assumption) (by omega) ?_ | refine zw_lastn rfl (by assumption) (by omega) ?_ | refine zw_iald0 rfl (by assumption) (by omega) ?_ | refine zw_lald0 rfl (by assumption) (by omega) ?_ | refine zw_aaln rfl (by assumption) rfl (by omega) ?_ | refine zw_getR rfl (by assumption) (by assumption) ?_ | refine zw_alen rfl (by assumption) rfl ?_ | refine zw_iald rfl (by assumption) (by omega) (by omega) ?_ | refine zw_iast rfl (by omega) (by assumption) (by omega) (by omega) ?_ | refine zw_putI rfl (by assumption) ?_ | refine zw_lald rfl (by assumption) (by omega) (by omega) ?_ | refine zw_last rfl (by assumption) (by omega) (by omega) ?_ | refine zw_iadd rfl (by omega) (by omega) ?_ | refine zw_isub rfl (by omega) (by omega) ?_ | refine zw_iinc rfl rfl rfl (by omega) (by omega) ?_ | refine zw_imul rfl (by omega) (by omega) ?_)
              rw [← hI2]
              refine zw_if_ne_f rfl t0 ?_
              repeat (first | refine zw_t rfl rfl ?_ | refine zw_jump rfl rfl ?_ | refine zw_getI rfl rfl (by assumption) ?_ | refine zw_ialn rfl (by assumption) (by omega) ?_ | refine zw_laln rfl (by assumption) (by omega) ?_ | refine zw_iastn rfl (by omega) (by assumption) (by omega) ?_ | refine zw_lastn rfl (by assumption) (by omega) ?_ | refine zw_iald0 rfl (by assumption) (by omega) ?_ | refine zw_lald0 rfl (by assumption) (by omega) ?_ | refine zw_aaln rfl (by assumption) rfl (by omega) ?_ | refine zw_getR rfl (by assumption) (by assumption) ?_ | refine zw_alen rfl (by assumption) rfl ?_ | refine zw_iald rfl (by assumption) (by omega) (by omega) ?_ | refine zw_iast rfl (by omega) (by assumption) (by omega) (by omega) ?_ | refine zw_putI rfl (by assumption) ?_ | refine zw_lald rfl (by assumption) (by omega) (by omega) ?_ | refine zw_last rfl (by assumption) (by omega) (by omega) ?_ | refine zw_iadd rfl (by omega) (by omega) ?_ | refine zw_isub rfl (by omega) (by omega) ?_ | refine zw_iinc rfl rfl rfl (by omega) (by omega) ?_ | refine zw_imul rfl (by omega) (by omega) ?_)
              refine zw_callv rfl rfl rfl rfl rfl rfl (by assumption) ?_
              rw [show (mark : Int) + 1 = ((mark + 1 : Nat) : Int) by omega]
              refine ZC.le (show d + s + 2 ≤ _ by omega) ?_
              refine ih d kk (mark + 1) (r' + 1) (seen ||| nw) (l ++ [y]) f1 I2 _ h1 (by rw [Nat.succ_mul]; omega) (by omega) (by rw [List.length_append, List.length_singleton, hl, ha]; omega) j94 (fun j hj => ?_) (fun i j hij hj => ?_) j93 (fun z hz2 => by rw [z_fb_or hz]; exact ef1 z hz2) (fun z hz2 => by rw [Nat.testBit_or, hse z hz2, hnb z hz2]; rfl) (fun I4 l' s4 q1 q2 => ?_) (fun I4 s4 q1 q2 q3 => ?_)
              · rw [List.length_append, List.length_singleton] at hj
                by_cases hjl : j = l.length
                · rw [hjl, z_app2]; exact hyn
                · rw [z_app1 (by omega)]; exact hb j (by omega)
              · rw [← ha, z_app1 (show a + i < l.length by omega)]
                by_cases hjm : j = mark
                · rw [hjm, ← hl, z_app2]; exact hy i (by omega)
                · rw [z_app1 (show a + j < l.length by omega)]; exact hr i j hij (by omega)
              · refine zw_if_eq_f rfl (by decide) ?_
                repeat (first | refine zw_t rfl rfl ?_ | refine zw_jump rfl rfl ?_ | refine zw_getI rfl rfl (by assumption) ?_ | refine zw_ialn rfl (by assumption) (by omega) ?_ | refine zw_laln rfl (by assumption) (by omega) ?_ | refine zw_iastn rfl (by omega) (by assumption) (by omega) ?_ | refine zw_lastn rfl (by assumption) (by omega) ?_ | refine zw_iald0 rfl (by assumption) (by omega) ?_ | refine zw_lald0 rfl (by assumption) (by omega) ?_ | refine zw_aaln rfl (by assumption) rfl (by omega) ?_ | refine zw_getR rfl (by assumption) (by assumption) ?_ | refine zw_alen rfl (by assumption) rfl ?_ | refine zw_iald rfl (by assumption) (by omega) (by omega) ?_ | refine zw_iast rfl (by omega) (by assumption) (by omega) (by omega) ?_ | refine zw_putI rfl (by assumption) ?_ | refine zw_lald rfl (by assumption) (by omega) (by omega) ?_ | refine zw_last rfl (by assumption) (by omega) (by omega) ?_ | refine zw_iadd rfl (by omega) (by omega) ?_ | refine zw_isub rfl (by omega) (by omega) ?_ | refine zw_iinc rfl rfl rfl (by omega) (by omega) ?_ | refine zw_imul rfl (by omega) (by omega) ?_)
                rw [efn, q1] at hg
                exact zw_zret rfl (Or.inr rfl) (K1 I4 l' (fun b b1 b2 => (s4 b b1 b2).trans (s2 b b1 b2)) hg q2)
              · refine zw_if_eq_t rfl rfl ?_
                repeat (refine zw_ne 208 rfl ?_; first | refine zw_t rfl rfl ?_ | refine zw_jump rfl rfl ?_ | refine zw_getI rfl rfl (by assumption) ?_ | refine zw_ialn rfl (by assumption) (by omega) ?_ | refine zw_laln rfl (by assumption) (by omega) ?_ | refine zw_iastn rfl (by omega) (by assumption) (by omega) ?_ | refine zw_lastn rfl (by assumption) (by omega) ?_ | refine zw_iald0 rfl (by assumption) (by omega) ?_ | refine zw_lald0 rfl (by assumption) (by omega) ?_ | refine zw_aaln rfl (by assumption) rfl (by omega) ?_ | refine zw_getR rfl (by assumption) (by assumption) ?_ | refine zw_alen rfl (by assumption) rfl ?_ | refine zw_iald rfl (by assumption) (by omega) (by omega) ?_ | refine zw_iast rfl (by omega) (by assumption) (by omega) (by omega) ?_ | refine zw_putI rfl (by assumption) ?_ | refine zw_lald rfl (by assumption) (by omega) (by omega) ?_ | refine zw_last rfl (by assumption) (by omega) (by omega) ?_ | refine zw_iadd rfl (by omega) (by omega) ?_ | refine zw_isub rfl (by omega) (by omega) ?_ | refine zw_iinc rfl rfl rfl (by omega) (by omega) ?_ | refine zw_imul rfl (by omega) (by omega) ?_)
                have bk := back t I4 (fun b b1 b2 => (s4 b b1 b2).trans (s2 b b1 b2)) (fun j hj => by rw [q3 j (by rw [List.length_append, List.length_singleton]; omega), z_app1 hj]) (by rw [efn, q1]) mark 0 f1 (by omega) (by funext z; show f1 z = f1 z - 0; omega)
                rw [← q2, z_up_self] at bk
                exact bk
            · have hz2 : ¬ nw &&& seen = 0 := z_fb_two (x := z) (by rw [← ef1 z hz1]; exact hz)
              rw [if_neg hz2] at efn
              repeat (first | refine zw_t rfl rfl ?_ | refine zw_jump rfl rfl ?_ | refine zw_getI rfl rfl (by assumption) ?_ | refine zw_ialn rfl (by assumption) (by omega) ?_ | refine zw_laln rfl (by assumption) (by omega) ?_ | refine zw_iastn rfl (by omega) (by assumption) (by omega) ?_ | refine zw_lastn rfl (by assumption) (by omega) ?_ | refine zw_iald0 rfl (by assumption) (by omega) ?_ | refine zw_lald0 rfl (by assumption) (by omega) ?_ | refine zw_aaln rfl (by assumption) rfl (by omega) ?_ | refine zw_getR rfl (by assumption) (by assumption) ?_ | refine zw_alen rfl (by assumption) rfl ?_ | refine zw_iald rfl (by assumption) (by omega) (by omega) ?_ | refine zw_iast rfl (by omega) (by assumption) (by omega) (by omega) ?_ | refine zw_putI rfl (by assumption) ?_ | refine zw_lald rfl (by assumption) (by omega) (by omega) ?_ | refine zw_last rfl (by assumption) (by omega) (by omega) ?_ | refine zw_iadd rfl (by omega) (by omega) ?_ | refine zw_isub rfl (by omega) (by omega) ?_ | refine zw_iinc rfl rfl rfl (by omega) (by omega) ?_ | refine zw_imul rfl (by omega) (by omega) ?_)
              rw [← hI2]
              refine zw_if_ne_t rfl (by omega) ?_
              repeat (refine zw_ne 208 rfl ?_; first | refine zw_t rfl rfl ?_ | refine zw_jump rfl rfl ?_ | refine zw_getI rfl rfl (by assumption) ?_ | refine zw_ialn rfl (by assumption) (by omega) ?_ | refine zw_laln rfl (by assumption) (by omega) ?_ | refine zw_iastn rfl (by omega) (by assumption) (by omega) ?_ | refine zw_lastn rfl (by assumption) (by omega) ?_ | refine zw_iald0 rfl (by assumption) (by omega) ?_ | refine zw_lald0 rfl (by assumption) (by omega) ?_ | refine zw_aaln rfl (by assumption) rfl (by omega) ?_ | refine zw_getR rfl (by assumption) (by assumption) ?_ | refine zw_alen rfl (by assumption) rfl ?_ | refine zw_iald rfl (by assumption) (by omega) (by omega) ?_ | refine zw_iast rfl (by omega) (by assumption) (by omega) (by omega) ?_ | refine zw_putI rfl (by assumption) ?_ | refine zw_lald rfl (by assumption) (by omega) (by omega) ?_ | refine zw_last rfl (by assumption) (by omega) (by omega) ?_ | refine zw_iadd rfl (by omega) (by omega) ?_ | refine zw_isub rfl (by omega) (by omega) ?_ | refine zw_iinc rfl rfl rfl (by omega) (by omega) ?_ | refine zw_imul rfl (by omega) (by omega) ?_)
              have bk := back t I2 s2 j94b efn mark 0 f1 (by omega) (by funext z; show f1 z = f1 z - 0; omega)
              rw [← j93, z_up_self] at bk
              exact bk
          -- the lengths are counted
          have count : ∀ (cn i : Nat) (t : Int) (g : Nat → Int), cn + i = mark → (t = 0 ∨ t = 1) → g = (fun z => f z + z_cn (fun i => (l.getD (a + i) 0 : Int)) i 0 (y : Int) z) → ((t = 0 ∧ ∀ z, z ≤ 1000 → g z ≤ 1) ∨ (t = 1 ∧ ∃ z, z ≤ 1000 ∧ 1 < g z)) → ZW (d + (s + 1) + 1) 212 111 [some (.inr (.inr (some 79))), some (.inl (kk : Int)), some (.inl (mark : Int)), some (.inl (a : Int)), some (.inl a4), some (.inl to), some (.inl (y : Int)), some (.inl t), some (.inl (i : Int))] [] (k, F, z_up I1 93 g, L, R) Q := by
            intro cn
            induction cn with
            | zero =>
              intro i t g hi ht hg2 hfl
              have hi : i = mark := by omega
              subst hi
              rw [← hf1] at hg2
              rw [hg2] at hfl ⊢
              repeat (first | refine zw_t rfl rfl ?_ | refine zw_jump rfl rfl ?_ | refine zw_getI rfl rfl (by assumption) ?_ | refine zw_ialn rfl (by assumption) (by omega) ?_ | refine zw_laln rfl (by assumption) (by omega) ?_ | refine zw_iastn rfl (by omega) (by assumption) (by omega) ?_ | refine zw_lastn rfl (by assumption) (by omega) ?_ | refine zw_iald0 rfl (by assumption) (by omega) ?_ | refine zw_lald0 rfl (by assumption) (by omega) ?_ | refine zw_aaln rfl (by assumption) rfl (by omega) ?_ | refine zw_getR rfl (by assumption) (by assumption) ?_ | refine zw_alen rfl (by assumption) rfl ?_ | refine zw_iald rfl (by assumption) (by omega) (by omega) ?_ | refine zw_iast rfl (by omega) (by assumption) (by omega) (by omega) ?_ | refine zw_putI rfl (by assumption) ?_ | refine zw_lald rfl (by assumption) (by omega) (by omega) ?_ | refine zw_last rfl (by assumption) (by omega) (by omega) ?_ | refine zw_iadd rfl (by omega) (by omega) ?_ | refine zw_isub rfl (by omega) (by omega) ?_ | refine zw_iinc rfl rfl rfl (by omega) (by omega) ?_ | refine zw_imul rfl (by omega) (by omega) ?_)
              refine zw_icmp_ge_t rfl (by omega) ?_
              exact after t hfl
            | succ cn ihn =>
              intro i t g hi ht hg2 hfl
              have q1 := hy i (by omega)
              obtain ⟨u, hu⟩ : ∃ u : Nat, (y : Int) - (l.getD (a + i) 0 : Int) = (u : Int) := ⟨y - l.getD (a + i) 0, by omega⟩
              have gb : -100 ≤ g u ∧ g u ≤ 100 := by
                rw [hg2]
                dsimp only
                have a1 := fbd u (by omega)
                have a3 := z_cn_le (fun i => (l.getD (a + i) 0 : Int)) i 0 (y : Int) u
                omega
              obtain ⟨g2, hgg⟩ : ∃ g2, g2 = z_up g u (g u + 1) := ⟨_, rfl⟩
              have eg2 : g2 = (fun z => f z + z_cn (fun i => (l.getD (a + i) 0 : Int)) (i + 1) 0 (y : Int) z) := by
                funext z
                rw [hgg, z_up_val, step i z, hu, hg2]
                dsimp only
                unfold z_one
                by_cases hz : z = u
                · rw [if_pos hz, if_pos (by omega), hz]; omega
                · rw [if_neg hz, if_neg (by omega)]; omega
              have nx : ∀ t' : Int, (t' = 0 ∨ t' = 1) → ((t' = 0 ∧ ∀ z, z ≤ 1000 → g2 z ≤ 1) ∨ (t' = 1 ∧ ∃ z, z ≤ 1000 ∧ 1 < g2 z)) → ZW (d + (s + 1) + 1) 212 169 [some (.inr (.inr (some 79))), some (.inl (kk : Int)), some (.inl (mark : Int)), some (.inl (a : Int)), some (.inl a4), some (.inl to), some (.inl (y : Int)), some (.inl t), some (.inl (i : Int))] [.inl t'] (k, F, z_up I1 93 g2, L, R) Q := by
                intro t' ht' hfl'
                repeat (first | refine zw_t rfl rfl ?_ | refine zw_jump rfl rfl ?_ | refine zw_getI rfl rfl (by assumption) ?_ | refine zw_ialn rfl (by assumption) (by omega) ?_ | refine zw_laln rfl (by assumption) (by omega) ?_ | refine zw_iastn rfl (by omega) (by assumption) (by omega) ?_ | refine zw_lastn rfl (by assumption) (by omega) ?_ | refine zw_iald0 rfl (by assumption) (by omega) ?_ | refine zw_lald0 rfl (by assumption) (by omega) ?_ | refine zw_aaln rfl (by assumption) rfl (by omega) ?_ | refine zw_getR rfl (by assumption) (by assumption) ?_ | refine zw_alen rfl (by assumption) rfl ?_ | refine zw_iald rfl (by assumption) (by omega) (by omega) ?_ | refine zw_iast rfl (by omega) (by assumption) (by omega) (by omega) ?_ | refine zw_putI rfl (by assumption) ?_ | refine zw_lald rfl (by assumption) (by omega) (by omega) ?_ | refine zw_last rfl (by assumption) (by omega) (by omega) ?_ | refine zw_iadd rfl (by omega) (by omega) ?_ | refine zw_isub rfl (by omega) (by omega) ?_ | refine zw_iinc rfl rfl rfl (by omega) (by omega) ?_ | refine zw_imul rfl (by omega) (by omega) ?_)
                refine zw_goto rfl ?_
                exact ihn (i + 1) t' g2 (by omega) ht' eg2 hfl'
              repeat (first | refine zw_t rfl rfl ?_ | refine zw_jump rfl rfl ?_ | refine zw_getI rfl rfl (by assumption) ?_ | refine zw_ialn rfl (by assumption) (by omega) ?_ | refine zw_laln rfl (by assumption) (by omega) ?_ | refine zw_iastn rfl (by omega) (by assumption) (by omega) ?_ | refine zw_lastn rfl (by assumption) (by omega) ?_ | refine zw_iald0 rfl (by assumption) (by omega) ?_ | refine zw_lald0 rfl (by assumption) (by omega) ?_ | refine zw_aaln rfl (by assumption) rfl (by omega) ?_ | refine zw_getR rfl (by assumption) (by assumption) ?_ | refine zw_alen rfl (by assumption) rfl ?_ | refine zw_iald rfl (by assumption) (by omega) (by omega) ?_ | refine zw_iast rfl (by omega) (by assumption) (by omega) (by omega) ?_ | refine zw_putI rfl (by assumption) ?_ | refine zw_lald rfl (by assumption) (by omega) (by omega) ?_ | refine zw_last rfl (by assumption) (by omega) (by omega) ?_ | refine zw_iadd rfl (by omega) (by omega) ?_ | refine zw_isub rfl (by omega) (by omega) ?_ | refine zw_iinc rfl rfl rfl (by omega) (by omega) ?_ | refine zw_imul rfl (by omega) (by omega) ?_)
              refine zw_icmp_ge_f rfl (by omega) ?_
              repeat (first | refine zw_t rfl rfl ?_ | refine zw_jump rfl rfl ?_ | refine zw_getI rfl rfl (by assumption) ?_ | refine zw_ialn rfl (by assumption) (by omega) ?_ | refine zw_laln rfl (by assumption) (by omega) ?_ | refine zw_iastn rfl (by omega) (by assumption) (by omega) ?_ | refine zw_lastn rfl (by assumption) (by omega) ?_ | refine zw_iald0 rfl (by assumption) (by omega) ?_ | refine zw_lald0 rfl (by assumption) (by omega) ?_ | refine zw_aaln rfl (by assumption) rfl (by omega) ?_ | refine zw_getR rfl (by assumption) (by assumption) ?_ | refine zw_alen rfl (by assumption) rfl ?_ | refine zw_iald rfl (by assumption) (by omega) (by omega) ?_ | refine zw_iast rfl (by omega) (by assumption) (by omega) (by omega) ?_ | refine zw_putI rfl (by assumption) ?_ | refine zw_lald rfl (by assumption) (by omega) (by omega) ?_ | refine zw_last rfl (by assumption) (by omega) (by omega) ?_ | refine zw_iadd rfl (by omega) (by omega) ?_ | refine zw_isub rfl (by omega) (by omega) ?_ | refine zw_iinc rfl rfl rfl (by omega) (by omega) ?_ | refine zw_imul rfl (by omega) (by omega) ?_)
              rw [z_up_ne _ _ (show (94 : Nat) ≠ 93 by omega), i94 (a + i) (by omega)]
              refine zw_isub rfl (by omega) (by omega) ?_
              rw [hu]
              repeat (first | refine zw_t rfl rfl ?_ | refine zw_jump rfl rfl ?_ | refine zw_getI rfl rfl (by assumption) ?_ | refine zw_ialn rfl (by assumption) (by omega) ?_ | refine zw_laln rfl (by assumption) (by omega) ?_ | refine zw_iastn rfl (by omega) (by assumption) (by omega) ?_ | refine zw_lastn rfl (by assumption) (by omega) ?_ | refine zw_iald0 rfl (by assumption) (by omega) ?_ | refine zw_lald0 rfl (by assumption) (by omega) ?_ | refine zw_aaln rfl (by assumption) rfl (by omega) ?_ | refine zw_getR rfl (by assumption) (by assumption) ?_ | refine zw_alen rfl (by assumption) rfl ?_ | refine zw_iald rfl (by assumption) (by omega) (by omega) ?_ | refine zw_iast rfl (by omega) (by assumption) (by omega) (by omega) ?_ | refine zw_putI rfl (by assumption) ?_ | refine zw_lald rfl (by assumption) (by omega) (by omega) ?_ | refine zw_last rfl (by assumption) (by omega) (by omega) ?_ | refine zw_iadd rfl (by omega) (by omega) ?_ | refine zw_isub rfl (by omega) (by omega) ?_ | refine zw_iinc rfl rfl rfl (by omega) (by omega) ?_ | refine zw_imul rfl (by omega) (by omega) ?_)
              rw [z_up_same]
              refine zw_iadd rfl (by omega) (by omega) ?_
              repeat (first | refine zw_t rfl rfl ?_ | refine zw_jump rfl rfl ?_ | refine zw_getI rfl rfl (by assumption) ?_ | refine zw_ialn rfl (by assumption) (by omega) ?_ | refine zw_laln rfl (by assumption) (by omega) ?_ | refine zw_iastn rfl (by omega) (by assumption) (by omega) ?_ | refine zw_lastn rfl (by assumption) (by omega) ?_ | refine zw_iald0 rfl (by assumption) (by omega) ?_ | refine zw_lald0 rfl (by assumption) (by omega) ?_ | refine zw_aaln rfl (by assumption) rfl (by omega) ?_ | refine zw_getR rfl (by assumption) (by assumption) ?_ | refine zw_alen rfl (by assumption) rfl ?_ | refine zw_iald rfl (by assumption) (by omega) (by omega) ?_ | refine zw_iast rfl (by omega) (by assumption) (by omega) (by omega) ?_ | refine zw_putI rfl (by assumption) ?_ | refine zw_lald rfl (by assumption) (by omega) (by omega) ?_ | refine zw_last rfl (by assumption) (by omega) (by omega) ?_ | refine zw_iadd rfl (by omega) (by omega) ?_ | refine zw_isub rfl (by omega) (by omega) ?_ | refine zw_iinc rfl rfl rfl (by omega) (by omega) ?_ | refine zw_imul rfl (by omega) (by omega) ?_)
              rw [z_u2_up, ← hgg]
              refine zw_if_ne rfl (fun h6 => ?_) (fun h6 => ?_)
              · repeat (refine zw_ne 169 rfl ?_; first | refine zw_t rfl rfl ?_ | refine zw_jump rfl rfl ?_ | refine zw_getI rfl rfl (by assumption) ?_ | refine zw_ialn rfl (by assumption) (by omega) ?_ | refine zw_laln rfl (by assumption) (by omega) ?_ | refine zw_iastn rfl (by omega) (by assumption) (by omega) ?_ | refine zw_lastn rfl (by assumption) (by omega) ?_ | refine zw_iald0 rfl (by assumption) (by omega) ?_ | refine zw_lald0 rfl (by assumption) (by omega) ?_ | refine zw_aaln rfl (by assumption) rfl (by omega) ?_ | refine zw_getR rfl (by assumption) (by assumption) ?_ | refine zw_alen rfl (by assumption) rfl ?_ | refine zw_iald rfl (by assumption) (by omega) (by omega) ?_ | refine zw_iast rfl (by omega) (by assumption) (by omega) (by omega) ?_ | refine zw_putI rfl (by assumption) ?_ | refine zw_lald rfl (by assumption) (by omega) (by omega) ?_ | refine zw_last rfl (by assumption) (by omega) (by omega) ?_ | refine zw_iadd rfl (by omega) (by omega) ?_ | refine zw_isub rfl (by omega) (by omega) ?_ | refine zw_iinc rfl rfl rfl (by omega) (by omega) ?_ | refine zw_imul rfl (by omega) (by omega) ?_)
                refine nx 1 (Or.inr rfl) ?_
                rcases hfl with ⟨q, _⟩ | ⟨_, z, hz1, hz⟩
                · exact absurd q h6
                · refine Or.inr ⟨rfl, z, hz1, ?_⟩
                  rw [hgg, z_up_val]
                  split
                  · rename_i hzu
                    subst hzu
                    omega
                  · exact hz
              · repeat (first | refine zw_t rfl rfl ?_ | refine zw_jump rfl rfl ?_ | refine zw_getI rfl rfl (by assumption) ?_ | refine zw_ialn rfl (by assumption) (by omega) ?_ | refine zw_laln rfl (by assumption) (by omega) ?_ | refine zw_iastn rfl (by omega) (by assumption) (by omega) ?_ | refine zw_lastn rfl (by assumption) (by omega) ?_ | refine zw_iald0 rfl (by assumption) (by omega) ?_ | refine zw_lald0 rfl (by assumption) (by omega) ?_ | refine zw_aaln rfl (by assumption) rfl (by omega) ?_ | refine zw_getR rfl (by assumption) (by assumption) ?_ | refine zw_alen rfl (by assumption) rfl ?_ | refine zw_iald rfl (by assumption) (by omega) (by omega) ?_ | refine zw_iast rfl (by omega) (by assumption) (by omega) (by omega) ?_ | refine zw_putI rfl (by assumption) ?_ | refine zw_lald rfl (by assumption) (by omega) (by omega) ?_ | refine zw_last rfl (by assumption) (by omega) (by omega) ?_ | refine zw_iadd rfl (by omega) (by omega) ?_ | refine zw_isub rfl (by omega) (by omega) ?_ | refine zw_iinc rfl rfl rfl (by omega) (by omega) ?_ | refine zw_imul rfl (by omega) (by omega) ?_)
                rw [z_up_ne _ _ (show (94 : Nat) ≠ 93 by omega), i94 (a + i) (by omega)]
                refine zw_isub rfl (by omega) (by omega) ?_
                rw [hu]
                repeat (first | refine zw_t rfl rfl ?_ | refine zw_jump rfl rfl ?_ | refine zw_getI rfl rfl (by assumption) ?_ | refine zw_ialn rfl (by assumption) (by omega) ?_ | refine zw_laln rfl (by assumption) (by omega) ?_ | refine zw_iastn rfl (by omega) (by assumption) (by omega) ?_ | refine zw_lastn rfl (by assumption) (by omega) ?_ | refine zw_iald0 rfl (by assumption) (by omega) ?_ | refine zw_lald0 rfl (by assumption) (by omega) ?_ | refine zw_aaln rfl (by assumption) rfl (by omega) ?_ | refine zw_getR rfl (by assumption) (by assumption) ?_ | refine zw_alen rfl (by assumption) rfl ?_ | refine zw_iald rfl (by assumption) (by omega) (by omega) ?_ | refine zw_iast rfl (by omega) (by assumption) (by omega) (by omega) ?_ | refine zw_putI rfl (by assumption) ?_ | refine zw_lald rfl (by assumption) (by omega) (by omega) ?_ | refine zw_last rfl (by assumption) (by omega) (by omega) ?_ | refine zw_iadd rfl (by omega) (by omega) ?_ | refine zw_isub rfl (by omega) (by omega) ?_ | refine zw_iinc rfl rfl rfl (by omega) (by omega) ?_ | refine zw_imul rfl (by omega) (by omega) ?_)
                rw [z_up_same]
                refine zw_icmp_le rfl (fun h7 => ?_) (fun h7 => ?_)
                · repeat (refine zw_ne 169 rfl ?_; first | refine zw_t rfl rfl ?_ | refine zw_jump rfl rfl ?_ | refine zw_getI rfl rfl (by assumption) ?_ | refine zw_ialn rfl (by assumption) (by omega) ?_ | refine zw_laln rfl (by assumption) (by omega) ?_ | refine zw_iastn rfl (by omega) (by assumption) (by omega) ?_ | refine zw_lastn rfl (by assumption) (by omega) ?_ | refine zw_iald0 rfl (by assumption) (by omega) ?_ | refine zw_lald0 rfl (by assumption) (by omega) ?_ | refine zw_aaln rfl (by assumption) rfl (by omega) ?_ | refine zw_getR rfl (by assumption) (by assumption) ?_ | refine zw_alen rfl (by assumption) rfl ?_ | refine zw_iald rfl (by assumption) (by omega) (by omega) ?_ | refine zw_iast rfl (by omega) (by assumption) (by omega) (by omega) ?_ | refine zw_putI rfl (by assumption) ?_ | refine zw_lald rfl (by assumption) (by omega) (by omega) ?_ | refine zw_last rfl (by assumption) (by omega) (by omega) ?_ | refine zw_iadd rfl (by omega) (by omega) ?_ | refine zw_isub rfl (by omega) (by omega) ?_ | refine zw_iinc rfl rfl rfl (by omega) (by omega) ?_ | refine zw_imul rfl (by omega) (by omega) ?_)
                  refine nx 0 (Or.inl rfl) (Or.inl ⟨rfl, fun z hz1 => ?_⟩)
                  rcases hfl with ⟨_, q⟩ | ⟨q, _⟩
                  · by_cases hzu : z = u
                    · rw [hzu]; exact h7
                    · rw [hgg, z_up_ne _ _ hzu]; exact q z hz1
                  · omega
                · repeat (refine zw_ne 169 rfl ?_; first | refine zw_t rfl rfl ?_ | refine zw_jump rfl rfl ?_ | refine zw_getI rfl rfl (by assumption) ?_ | refine zw_ialn rfl (by assumption) (by omega) ?_ | refine zw_laln rfl (by assumption) (by omega) ?_ | refine zw_iastn rfl (by omega) (by assumption) (by omega) ?_ | refine zw_lastn rfl (by assumption) (by omega) ?_ | refine zw_iald0 rfl (by assumption) (by omega) ?_ | refine zw_lald0 rfl (by assumption) (by omega) ?_ | refine zw_aaln rfl (by assumption) rfl (by omega) ?_ | refine zw_getR rfl (by assumption) (by assumption) ?_ | refine zw_alen rfl (by assumption) rfl ?_ | refine zw_iald rfl (by assumption) (by omega) (by omega) ?_ | refine zw_iast rfl (by omega) (by assumption) (by omega) (by omega) ?_ | refine zw_putI rfl (by assumption) ?_ | refine zw_lald rfl (by assumption) (by omega) (by omega) ?_ | refine zw_last rfl (by assumption) (by omega) (by omega) ?_ | refine zw_iadd rfl (by omega) (by omega) ?_ | refine zw_isub rfl (by omega) (by omega) ?_ | refine zw_iinc rfl rfl rfl (by omega) (by omega) ?_ | refine zw_imul rfl (by omega) (by omega) ?_)
                  exact nx 1 (Or.inr rfl) (Or.inr ⟨rfl, u, by omega, h7⟩)
          repeat (first | refine zw_t rfl rfl ?_ | refine zw_jump rfl rfl ?_ | refine zw_getI rfl rfl (by assumption) ?_ | refine zw_ialn rfl (by assumption) (by omega) ?_ | refine zw_laln rfl (by assumption) (by omega) ?_ | refine zw_iastn rfl (by omega) (by assumption) (by omega) ?_ | refine zw_lastn rfl (by assumption) (by omega) ?_ | refine zw_iald0 rfl (by assumption) (by omega) ?_ | refine zw_lald0 rfl (by assumption) (by omega) ?_ | refine zw_aaln rfl (by assumption) rfl (by omega) ?_ | refine zw_getR rfl (by assumption) (by assumption) ?_ | refine zw_alen rfl (by assumption) rfl ?_ | refine zw_iald rfl (by assumption) (by omega) (by omega) ?_ | refine zw_iast rfl (by omega) (by assumption) (by omega) (by omega) ?_ | refine zw_putI rfl (by assumption) ?_ | refine zw_lald rfl (by assumption) (by omega) (by omega) ?_ | refine zw_last rfl (by assumption) (by omega) (by omega) ?_ | refine zw_iadd rfl (by omega) (by omega) ?_ | refine zw_isub rfl (by omega) (by omega) ?_ | refine zw_iinc rfl rfl rfl (by omega) (by omega) ?_ | refine zw_imul rfl (by omega) (by omega) ?_)
          refine zw_icmp_gt_f rfl (by omega) ?_
          repeat (refine zw_ne 111 rfl ?_; first | refine zw_t rfl rfl ?_ | refine zw_jump rfl rfl ?_ | refine zw_getI rfl rfl (by assumption) ?_ | refine zw_ialn rfl (by assumption) (by omega) ?_ | refine zw_laln rfl (by assumption) (by omega) ?_ | refine zw_iastn rfl (by omega) (by assumption) (by omega) ?_ | refine zw_lastn rfl (by assumption) (by omega) ?_ | refine zw_iald0 rfl (by assumption) (by omega) ?_ | refine zw_lald0 rfl (by assumption) (by omega) ?_ | refine zw_aaln rfl (by assumption) rfl (by omega) ?_ | refine zw_getR rfl (by assumption) (by assumption) ?_ | refine zw_alen rfl (by assumption) rfl ?_ | refine zw_iald rfl (by assumption) (by omega) (by omega) ?_ | refine zw_iast rfl (by omega) (by assumption) (by omega) (by omega) ?_ | refine zw_putI rfl (by assumption) ?_ | refine zw_lald rfl (by assumption) (by omega) (by omega) ?_ | refine zw_last rfl (by assumption) (by omega) (by omega) ?_ | refine zw_iadd rfl (by omega) (by omega) ?_ | refine zw_isub rfl (by omega) (by omega) ?_ | refine zw_iinc rfl rfl rfl (by omega) (by omega) ?_ | refine zw_imul rfl (by omega) (by omega) ?_)
          have ct := count mark 0 0 f (by omega) (Or.inl rfl) (by funext z; show f z = f z + 0; omega) (Or.inl ⟨rfl, fun z hz => (fbd z hz).2⟩)
          rw [← i93, z_up_self] at ct
          exact ct
      by_cases hz : mark = 0
      · rw [if_pos hz, if_pos hz] at ego
        repeat (first | refine zw_t rfl rfl ?_ | refine zw_jump rfl rfl ?_ | refine zw_getI rfl rfl (by assumption) ?_ | refine zw_ialn rfl (by assumption) (by omega) ?_ | refine zw_laln rfl (by assumption) (by omega) ?_ | refine zw_iastn rfl (by omega) (by assumption) (by omega) ?_ | refine zw_lastn rfl (by assumption) (by omega) ?_ | refine zw_iald0 rfl (by assumption) (by omega) ?_ | refine zw_lald0 rfl (by assumption) (by omega) ?_ | refine zw_aaln rfl (by assumption) rfl (by omega) ?_ | refine zw_getR rfl (by assumption) (by assumption) ?_ | refine zw_alen rfl (by assumption) rfl ?_ | refine zw_iald rfl (by assumption) (by omega) (by omega) ?_ | refine zw_iast rfl (by omega) (by assumption) (by omega) (by omega) ?_ | refine zw_putI rfl (by assumption) ?_ | refine zw_lald rfl (by assumption) (by omega) (by omega) ?_ | refine zw_last rfl (by assumption) (by omega) (by omega) ?_ | refine zw_iadd rfl (by omega) (by omega) ?_ | refine zw_isub rfl (by omega) (by omega) ?_ | refine zw_iinc rfl rfl rfl (by omega) (by omega) ?_ | refine zw_imul rfl (by omega) (by omega) ?_)
        refine zw_if_ne_f rfl (by omega) ?_
        repeat (first | refine zw_t rfl rfl ?_ | refine zw_jump rfl rfl ?_ | refine zw_getI rfl rfl (by assumption) ?_ | refine zw_ialn rfl (by assumption) (by omega) ?_ | refine zw_laln rfl (by assumption) (by omega) ?_ | refine zw_iastn rfl (by omega) (by assumption) (by omega) ?_ | refine zw_lastn rfl (by assumption) (by omega) ?_ | refine zw_iald0 rfl (by assumption) (by omega) ?_ | refine zw_lald0 rfl (by assumption) (by omega) ?_ | refine zw_aaln rfl (by assumption) rfl (by omega) ?_ | refine zw_getR rfl (by assumption) (by assumption) ?_ | refine zw_alen rfl (by assumption) rfl ?_ | refine zw_iald rfl (by assumption) (by omega) (by omega) ?_ | refine zw_iast rfl (by omega) (by assumption) (by omega) (by omega) ?_ | refine zw_putI rfl (by assumption) ?_ | refine zw_lald rfl (by assumption) (by omega) (by omega) ?_ | refine zw_last rfl (by assumption) (by omega) (by omega) ?_ | refine zw_iadd rfl (by omega) (by omega) ?_ | refine zw_isub rfl (by omega) (by omega) ?_ | refine zw_iinc rfl rfl rfl (by omega) (by omega) ?_ | refine zw_imul rfl (by omega) (by omega) ?_)
        refine zw_if_ne_f rfl (by omega) ?_
        repeat (refine zw_ne 98 rfl ?_; first | refine zw_t rfl rfl ?_ | refine zw_jump rfl rfl ?_ | refine zw_getI rfl rfl (by assumption) ?_ | refine zw_ialn rfl (by assumption) (by omega) ?_ | refine zw_laln rfl (by assumption) (by omega) ?_ | refine zw_iastn rfl (by omega) (by assumption) (by omega) ?_ | refine zw_lastn rfl (by assumption) (by omega) ?_ | refine zw_iald0 rfl (by assumption) (by omega) ?_ | refine zw_lald0 rfl (by assumption) (by omega) ?_ | refine zw_aaln rfl (by assumption) rfl (by omega) ?_ | refine zw_getR rfl (by assumption) (by assumption) ?_ | refine zw_alen rfl (by assumption) rfl ?_ | refine zw_iald rfl (by assumption) (by omega) (by omega) ?_ | refine zw_iast rfl (by omega) (by assumption) (by omega) (by omega) ?_ | refine zw_putI rfl (by assumption) ?_ | refine zw_lald rfl (by assumption) (by omega) (by omega) ?_ | refine zw_last rfl (by assumption) (by omega) (by omega) ?_ | refine zw_iadd rfl (by omega) (by omega) ?_ | refine zw_isub rfl (by omega) (by omega) ?_ | refine zw_iinc rfl rfl rfl (by omega) (by omega) ?_ | refine zw_imul rfl (by omega) (by omega) ?_)
        exact loop 1 0 0 0 none none I (fun _ _ _ => rfl) h93 hI (by omega) (by omega) (fun i hi => by omega) ego
      · rw [if_neg hz, if_neg hz] at ego
        have hb1 := hb (l.length - 1) (by omega)
        repeat (first | refine zw_t rfl rfl ?_ | refine zw_jump rfl rfl ?_ | refine zw_getI rfl rfl (by assumption) ?_ | refine zw_ialn rfl (by assumption) (by omega) ?_ | refine zw_laln rfl (by assumption) (by omega) ?_ | refine zw_iastn rfl (by omega) (by assumption) (by omega) ?_ | refine zw_lastn rfl (by assumption) (by omega) ?_ | refine zw_iald0 rfl (by assumption) (by omega) ?_ | refine zw_lald0 rfl (by assumption) (by omega) ?_ | refine zw_aaln rfl (by assumption) rfl (by omega) ?_ | refine zw_getR rfl (by assumption) (by assumption) ?_ | refine zw_alen rfl (by assumption) rfl ?_ | refine zw_iald rfl (by assumption) (by omega) (by omega) ?_ | refine zw_iast rfl (by omega) (by assumption) (by omega) (by omega) ?_ | refine zw_putI rfl (by assumption) ?_ | refine zw_lald rfl (by assumption) (by omega) (by omega) ?_ | refine zw_last rfl (by assumption) (by omega) (by omega) ?_ | refine zw_iadd rfl (by omega) (by omega) ?_ | refine zw_isub rfl (by omega) (by omega) ?_ | refine zw_iinc rfl rfl rfl (by omega) (by omega) ?_ | refine zw_imul rfl (by omega) (by omega) ?_)
        refine zw_if_ne_t rfl (by omega) ?_
        repeat (first | refine zw_t rfl rfl ?_ | refine zw_jump rfl rfl ?_ | refine zw_getI rfl rfl (by assumption) ?_ | refine zw_ialn rfl (by assumption) (by omega) ?_ | refine zw_laln rfl (by assumption) (by omega) ?_ | refine zw_iastn rfl (by omega) (by assumption) (by omega) ?_ | refine zw_lastn rfl (by assumption) (by omega) ?_ | refine zw_iald0 rfl (by assumption) (by omega) ?_ | refine zw_lald0 rfl (by assumption) (by omega) ?_ | refine zw_aaln rfl (by assumption) rfl (by omega) ?_ | refine zw_getR rfl (by assumption) (by assumption) ?_ | refine zw_alen rfl (by assumption) rfl ?_ | refine zw_iald rfl (by assumption) (by omega) (by omega) ?_ | refine zw_iast rfl (by omega) (by assumption) (by omega) (by omega) ?_ | refine zw_putI rfl (by assumption) ?_ | refine zw_lald rfl (by assumption) (by omega) (by omega) ?_ | refine zw_last rfl (by assumption) (by omega) (by omega) ?_ | refine zw_iadd rfl (by omega) (by omega) ?_ | refine zw_isub rfl (by omega) (by omega) ?_ | refine zw_iinc rfl rfl rfl (by omega) (by omega) ?_ | refine zw_imul rfl (by omega) (by omega) ?_)
        rw [show ((a : Int) + (mark : Int) - 1).toNat = l.length - 1 by omega, hI (l.length - 1) (by omega)]
        repeat (first | refine zw_t rfl rfl ?_ | refine zw_jump rfl rfl ?_ | refine zw_getI rfl rfl (by assumption) ?_ | refine zw_ialn rfl (by assumption) (by omega) ?_ | refine zw_laln rfl (by assumption) (by omega) ?_ | refine zw_iastn rfl (by omega) (by assumption) (by omega) ?_ | refine zw_lastn rfl (by assumption) (by omega) ?_ | refine zw_iald0 rfl (by assumption) (by omega) ?_ | refine zw_lald0 rfl (by assumption) (by omega) ?_ | refine zw_aaln rfl (by assumption) rfl (by omega) ?_ | refine zw_getR rfl (by assumption) (by assumption) ?_ | refine zw_alen rfl (by assumption) rfl ?_ | refine zw_iald rfl (by assumption) (by omega) (by omega) ?_ | refine zw_iast rfl (by omega) (by assumption) (by omega) (by omega) ?_ | refine zw_putI rfl (by assumption) ?_ | refine zw_lald rfl (by assumption) (by omega) (by omega) ?_ | refine zw_last rfl (by assumption) (by omega) (by omega) ?_ | refine zw_iadd rfl (by omega) (by omega) ?_ | refine zw_isub rfl (by omega) (by omega) ?_ | refine zw_iinc rfl rfl rfl (by omega) (by omega) ?_ | refine zw_imul rfl (by omega) (by omega) ?_)
        refine zw_if_ne_t rfl (by omega) ?_
        repeat (refine zw_ne 98 rfl ?_; first | refine zw_t rfl rfl ?_ | refine zw_jump rfl rfl ?_ | refine zw_getI rfl rfl (by assumption) ?_ | refine zw_ialn rfl (by assumption) (by omega) ?_ | refine zw_laln rfl (by assumption) (by omega) ?_ | refine zw_iastn rfl (by omega) (by assumption) (by omega) ?_ | refine zw_lastn rfl (by assumption) (by omega) ?_ | refine zw_iald0 rfl (by assumption) (by omega) ?_ | refine zw_lald0 rfl (by assumption) (by omega) ?_ | refine zw_aaln rfl (by assumption) rfl (by omega) ?_ | refine zw_getR rfl (by assumption) (by assumption) ?_ | refine zw_alen rfl (by assumption) rfl ?_ | refine zw_iald rfl (by assumption) (by omega) (by omega) ?_ | refine zw_iast rfl (by omega) (by assumption) (by omega) (by omega) ?_ | refine zw_putI rfl (by assumption) ?_ | refine zw_lald rfl (by assumption) (by omega) (by omega) ?_ | refine zw_last rfl (by assumption) (by omega) (by omega) ?_ | refine zw_iadd rfl (by omega) (by omega) ?_ | refine zw_isub rfl (by omega) (by omega) ?_ | refine zw_iinc rfl rfl rfl (by omega) (by omega) ?_ | refine zw_imul rfl (by omega) (by omega) ?_)
        rw [h29]
        refine loop (n - l.getD (l.length - 1) 0) (l.getD (l.length - 1) 0 + 1) _ _ none none I (fun _ _ _ => rfl) h93 hI (by omega) (by omega) (fun i hi => ?_) ego
        by_cases hi2 : i = mark - 1
        · rw [hi2, show a + (mark - 1) = l.length - 1 by omega]; omega
        · have := hr i (mark - 1) (by omega) (by omega)
          rw [show a + (mark - 1) = l.length - 1 by omega] at this
          omega
    · have hmm : mark = m := by omega
      subst hmm
      rw [z_ggw_own] at K1 K0
      rw [show l.length - mark = a by omega] at K1 K0
      have no : ∀ b : Bool, b = false → (z_gow l a mark mark 0 && (bif Nat.beq l.length mark then true else z_gbh l (l.length - 2 * mark) a mark 0)) = b → ZW (d + (s + 1) + 1) 212 56 [some (.inr (.inr (some 79))), some (.inl (kk : Int)), some (.inl (mark : Int)), some (.inl (a : Int)), none, none, none, none, none] [] (k, F, I, L, R) Q := by
        intro b hb1 hb2
        rw [hb2, hb1, cond_false] at K0
        repeat (first | refine zw_t rfl rfl ?_ | refine zw_jump rfl rfl ?_ | refine zw_getI rfl rfl (by assumption) ?_ | refine zw_ialn rfl (by assumption) (by omega) ?_ | refine zw_laln rfl (by assumption) (by omega) ?_ | refine zw_iastn rfl (by omega) (by assumption) (by omega) ?_ | refine zw_lastn rfl (by assumption) (by omega) ?_ | refine zw_iald0 rfl (by assumption) (by omega) ?_ | refine zw_lald0 rfl (by assumption) (by omega) ?_ | refine zw_aaln rfl (by assumption) rfl (by omega) ?_ | refine zw_getR rfl (by assumption) (by assumption) ?_ | refine zw_alen rfl (by assumption) rfl ?_ | refine zw_iald rfl (by assumption) (by omega) (by omega) ?_ | refine zw_iast rfl (by omega) (by assumption) (by omega) (by omega) ?_ | refine zw_putI rfl (by assumption) ?_ | refine zw_lald rfl (by assumption) (by omega) (by omega) ?_ | refine zw_last rfl (by assumption) (by omega) (by omega) ?_ | refine zw_iadd rfl (by omega) (by omega) ?_ | refine zw_isub rfl (by omega) (by omega) ?_ | refine zw_iinc rfl rfl rfl (by omega) (by omega) ?_ | refine zw_imul rfl (by omega) (by omega) ?_)
        exact zw_zret rfl (Or.inl rfl) (K0 I (fun _ _ _ => rfl) rfl h93 hI)
      repeat (first | refine zw_t rfl rfl ?_ | refine zw_jump rfl rfl ?_ | refine zw_getI rfl rfl (by assumption) ?_ | refine zw_ialn rfl (by assumption) (by omega) ?_ | refine zw_laln rfl (by assumption) (by omega) ?_ | refine zw_iastn rfl (by omega) (by assumption) (by omega) ?_ | refine zw_lastn rfl (by assumption) (by omega) ?_ | refine zw_iald0 rfl (by assumption) (by omega) ?_ | refine zw_lald0 rfl (by assumption) (by omega) ?_ | refine zw_aaln rfl (by assumption) rfl (by omega) ?_ | refine zw_getR rfl (by assumption) (by assumption) ?_ | refine zw_alen rfl (by assumption) rfl ?_ | refine zw_iald rfl (by assumption) (by omega) (by omega) ?_ | refine zw_iast rfl (by omega) (by assumption) (by omega) (by omega) ?_ | refine zw_putI rfl (by assumption) ?_ | refine zw_lald rfl (by assumption) (by omega) (by omega) ?_ | refine zw_last rfl (by assumption) (by omega) (by omega) ?_ | refine zw_iadd rfl (by omega) (by omega) ?_ | refine zw_isub rfl (by omega) (by omega) ?_ | refine zw_iinc rfl rfl rfl (by omega) (by omega) ?_ | refine zw_imul rfl (by omega) (by omega) ?_)
      refine zw_callv rfl rfl rfl rfl rfl rfl (by assumption) ?_
      refine ZC.le (show 0 + 1 ≤ _ by omega) ?_
      refine c_gisOwn hk0 hm h27 (by omega) (by omega) hI (fun j hj => by have := hb j hj; omega) (fun i hi => ?_) ?_
      · by_cases hi2 : i = mark - 1
        · rw [hi2, show a + (mark - 1) = a + mark - 1 by omega]; exact Nat.le_refl _
        · have := hr i (mark - 1) (by omega) (by omega)
          rw [show a + (mark - 1) = a + mark - 1 by omega] at this
          omega
      cases ho : z_gow l a mark mark 0 with
      | false =>
        refine zw_if_eq_t rfl rfl ?_
        exact no _ rfl (by rw [ho, Bool.false_and])
      | true =>
        refine zw_if_eq_f rfl (by decide) ?_
        repeat (first | refine zw_t rfl rfl ?_ | refine zw_jump rfl rfl ?_ | refine zw_getI rfl rfl (by assumption) ?_ | refine zw_ialn rfl (by assumption) (by omega) ?_ | refine zw_laln rfl (by assumption) (by omega) ?_ | refine zw_iastn rfl (by omega) (by assumption) (by omega) ?_ | refine zw_lastn rfl (by assumption) (by omega) ?_ | refine zw_iald0 rfl (by assumption) (by omega) ?_ | refine zw_lald0 rfl (by assumption) (by omega) ?_ | refine zw_aaln rfl (by assumption) rfl (by omega) ?_ | refine zw_getR rfl (by assumption) (by assumption) ?_ | refine zw_alen rfl (by assumption) rfl ?_ | refine zw_iald rfl (by assumption) (by omega) (by omega) ?_ | refine zw_iast rfl (by omega) (by assumption) (by omega) (by omega) ?_ | refine zw_putI rfl (by assumption) ?_ | refine zw_lald rfl (by assumption) (by omega) (by omega) ?_ | refine zw_last rfl (by assumption) (by omega) (by omega) ?_ | refine zw_iadd rfl (by omega) (by omega) ?_ | refine zw_isub rfl (by omega) (by omega) ?_ | refine zw_iinc rfl rfl rfl (by omega) (by omega) ?_ | refine zw_imul rfl (by omega) (by omega) ?_)
        refine zw_callv rfl rfl rfl rfl rfl rfl (by assumption) ?_
        refine ZC.le (show 0 + 1 ≤ _ by omega) ?_
        refine c_isBehind (a := mark * (kk - 1)) (b := a) hk0 hm h27 (by omega) rfl ha (by omega) (by omega) hI ?_
        have eb : (if kk = 0 then true else z_gbh l (mark * (kk - 1)) a mark 0) = (bif Nat.beq l.length mark then true else z_gbh l (l.length - 2 * mark) a mark 0) := by
          by_cases h0 : kk = 0
          · rw [if_pos h0, z_beq_iff.2 (show l.length = mark by rw [h0, Nat.mul_zero] at ha; omega), cond_true]
          · have q : mark * 1 ≤ mark * kk := Nat.mul_le_mul_left _ (by omega)
            rw [if_neg h0, show Nat.beq l.length mark = false from by rw [Bool.eq_false_iff]; exact fun r => by have := z_beq_iff.1 r; omega, cond_false, show mark * (kk - 1) = l.length - 2 * mark by rw [Nat.mul_sub]; omega]
        rw [eb]
        cases hbh : (bif Nat.beq l.length mark then true else z_gbh l (l.length - 2 * mark) a mark 0) with
        | false =>
          refine zw_if_eq_t rfl rfl ?_
          exact no _ rfl (by rw [hbh, Bool.and_false])
        | true =>
          rw [ho, hbh, Bool.true_and, cond_true] at K1 K0
          refine zw_if_eq_f rfl (by decide) ?_
          repeat (first | refine zw_t rfl rfl ?_ | refine zw_jump rfl rfl ?_ | refine zw_getI rfl rfl (by assumption) ?_ | refine zw_ialn rfl (by assumption) (by omega) ?_ | refine zw_laln rfl (by assumption) (by omega) ?_ | refine zw_iastn rfl (by omega) (by assumption) (by omega) ?_ | refine zw_lastn rfl (by assumption) (by omega) ?_ | refine zw_iald0 rfl (by assumption) (by omega) ?_ | refine zw_lald0 rfl (by assumption) (by omega) ?_ | refine zw_aaln rfl (by assumption) rfl (by omega) ?_ | refine zw_getR rfl (by assumption) (by assumption) ?_ | refine zw_alen rfl (by assumption) rfl ?_ | refine zw_iald rfl (by assumption) (by omega) (by omega) ?_ | refine zw_iast rfl (by omega) (by assumption) (by omega) (by omega) ?_ | refine zw_putI rfl (by assumption) ?_ | refine zw_lald rfl (by assumption) (by omega) (by omega) ?_ | refine zw_last rfl (by assumption) (by omega) (by omega) ?_ | refine zw_iadd rfl (by omega) (by omega) ?_ | refine zw_isub rfl (by omega) (by omega) ?_ | refine zw_iinc rfl rfl rfl (by omega) (by omega) ?_ | refine zw_imul rfl (by omega) (by omega) ?_)
          refine zw_callv rfl rfl rfl rfl rfl rfl (by assumption) ?_
          rw [show (kk : Int) + 1 = ((kk + 1 : Nat) : Int) by omega]
          refine ZC.le (show d + s + 2 ≤ _ by omega) ?_
          refine ih d (kk + 1) 0 r' seen l f I _ (by omega) (by omega) (by omega) (by rw [Nat.mul_add, ← ha]; omega) hI hb (fun i j _ hj => by omega) h93 hf hse (fun I4 l' s4 q1 q2 => ?_) (fun I4 s4 q1 q2 q3 => ?_)
          · refine zw_if_eq_f rfl (by decide) ?_
            repeat (first | refine zw_t rfl rfl ?_ | refine zw_jump rfl rfl ?_ | refine zw_getI rfl rfl (by assumption) ?_ | refine zw_ialn rfl (by assumption) (by omega) ?_ | refine zw_laln rfl (by assumption) (by omega) ?_ | refine zw_iastn rfl (by omega) (by assumption) (by omega) ?_ | refine zw_lastn rfl (by assumption) (by omega) ?_ | refine zw_iald0 rfl (by assumption) (by omega) ?_ | refine zw_lald0 rfl (by assumption) (by omega) ?_ | refine zw_aaln rfl (by assumption) rfl (by omega) ?_ | refine zw_getR rfl (by assumption) (by assumption) ?_ | refine zw_alen rfl (by assumption) rfl ?_ | refine zw_iald rfl (by assumption) (by omega) (by omega) ?_ | refine zw_iast rfl (by omega) (by assumption) (by omega) (by omega) ?_ | refine zw_putI rfl (by assumption) ?_ | refine zw_lald rfl (by assumption) (by omega) (by omega) ?_ | refine zw_last rfl (by assumption) (by omega) (by omega) ?_ | refine zw_iadd rfl (by omega) (by omega) ?_ | refine zw_isub rfl (by omega) (by omega) ?_ | refine zw_iinc rfl rfl rfl (by omega) (by omega) ?_ | refine zw_imul rfl (by omega) (by omega) ?_)
            exact zw_zret rfl (Or.inr rfl) (K1 I4 l' s4 q1 q2)
          · refine zw_if_eq_t rfl rfl ?_
            repeat (first | refine zw_t rfl rfl ?_ | refine zw_jump rfl rfl ?_ | refine zw_getI rfl rfl (by assumption) ?_ | refine zw_ialn rfl (by assumption) (by omega) ?_ | refine zw_laln rfl (by assumption) (by omega) ?_ | refine zw_iastn rfl (by omega) (by assumption) (by omega) ?_ | refine zw_lastn rfl (by assumption) (by omega) ?_ | refine zw_iald0 rfl (by assumption) (by omega) ?_ | refine zw_lald0 rfl (by assumption) (by omega) ?_ | refine zw_aaln rfl (by assumption) rfl (by omega) ?_ | refine zw_getR rfl (by assumption) (by assumption) ?_ | refine zw_alen rfl (by assumption) rfl ?_ | refine zw_iald rfl (by assumption) (by omega) (by omega) ?_ | refine zw_iast rfl (by omega) (by assumption) (by omega) (by omega) ?_ | refine zw_putI rfl (by assumption) ?_ | refine zw_lald rfl (by assumption) (by omega) (by omega) ?_ | refine zw_last rfl (by assumption) (by omega) (by omega) ?_ | refine zw_iadd rfl (by omega) (by omega) ?_ | refine zw_isub rfl (by omega) (by omega) ?_ | refine zw_iinc rfl rfl rfl (by omega) (by omega) ?_ | refine zw_imul rfl (by omega) (by omega) ?_)
            exact zw_zret rfl (Or.inl rfl) (K0 I4 s4 q1 q2 q3)
end ZRef23
