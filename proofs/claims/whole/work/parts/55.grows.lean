/-! HEAPS THAT GROW: what a search leaves of the bench -/
/-- cells that were there are as they were; a cells and b slots more at most -/
def ZG (k k' : ZK) (a b : Nat) : Prop := (∀ x, x < k.2.2.1 → k'.1 x = k.1 x ∧ k'.2.1 x = k.2.1 x) ∧ k.2.2.1 ≤ k'.2.2.1 ∧ k'.2.2.1 ≤ k.2.2.1 + a ∧ k'.2.2.2 ≤ k.2.2.2 + b
theorem ZG.refl (k : ZK) (a b : Nat) : ZG k k a b := ⟨fun _ _ => ⟨rfl, rfl⟩, Nat.le_refl _, by omega, by omega⟩
theorem ZG.trans {k k' k2 : ZK} {a b a' b' a2 b2 : Nat} (h : ZG k k' a b) (h' : ZG k' k2 a' b') (h1 : a + a' ≤ a2) (h2 : b + b' ≤ b2) : ZG k k2 a2 b2 := by
  obtain ⟨p1, p2, p3, p4⟩ := h
  obtain ⟨q1, q2, q3, q4⟩ := h'
  exact ⟨fun x hx => ⟨(q1 x (by omega)).1.trans (p1 x hx).1, (q1 x (by omega)).2.trans (p1 x hx).2⟩, by omega, by omega, by omega⟩
theorem ZG.up {k k' : ZK} {a b a' b' : Nat} (h : ZG k k' a b) (h1 : a ≤ a') (h2 : b ≤ b') : ZG k k' a' b' := ⟨h.1, h.2.1, by have := h.2.2.1; omega, by have := h.2.2.2; omega⟩
theorem ZG.bk (k : ZK) (n : Nat) : ZG k (z_bk k n) 1 n := ⟨fun x hx => ⟨z_up_ne _ _ (by omega), z_up_ne _ _ (by omega)⟩, Nat.le_succ _, Nat.le_refl _, Nat.le_refl _⟩
section ZGrow
variable {A : ZA} {k k' : ZK} {F I F' I' : Nat → Nat → Int} {L L' : Nat → Nat → Int64} {R R' : Nat → Nat → Option Nat} {a b : Nat}
theorem ZRu.grow {r : Nat} (h : ZRu k r) (e1 : ∀ x, x < 95 → k'.1 x = k.1 x) (e2 : ∀ x, x < 95 → k'.2.1 x = k.2.1 x) (hr : r < 94) : ZRu k' r := by
  obtain ⟨h1, h2, h3, h4⟩ := h
  exact ⟨h1, by rw [e1 _ (by omega)]; exact h2, by rw [e2 _ (by omega)]; exact h3, by rw [e1 _ (by omega)]; exact h4⟩
theorem ZBk.grow (h : ZBk k) (e1 : ∀ x, x < 95 → k'.1 x = k.1 x) (e2 : ∀ x, x < 95 → k'.2.1 x = k.2.1 x) : ZBk k' := by
  have r : ∀ r, ZRu k r → r < 94 → ZRu k' r := fun r h1 h2 => h1.grow e1 e2 h2
  have c1 : ∀ x y, x < 95 → k.1 x = y → k'.1 x = y := fun x y h1 h2 => (e1 x h1).trans h2
  have c2 : ∀ x j y, x < 95 → k.2.1 x j = y → k'.2.1 x j = y := fun x j y h1 h2 => (congrFun (e2 x h1) j).trans h2
  obtain ⟨⟨a1, a2, a3, a4, a5, a6, a7, a8, a9, a10, a11, a12, a13, a14⟩, ⟨b1, b2, b3⟩, ⟨d1, d2, d3, d4, d5⟩, ⟨f1, f2, f3, f4, f5, f6, f7⟩, g1, g2, ⟨i1, i2, i3⟩, ⟨j1, j2, j3, j4⟩, ⟨l1, l2, l3, l4⟩, ⟨m1, m2, m3, m4, m5, m6, m7⟩, ⟨n1, n2, n3, n4, n5, n6⟩, o1⟩ := h
  obtain ⟨p1, p2, p3, p4, p5, p6, p7, p8⟩ := b3
  obtain ⟨q1, q2, q3, q4⟩ := b2
  refine ⟨⟨?_, ?_, ?_, ?_, ?_, ?_, ?_, ?_, ?_, ?_, ?_, ?_, ?_, ?_⟩, ⟨r _ b1 (by omega), ⟨q1, ?_, ?_, ?_⟩, ⟨?_, ?_, ?_, ?_, ?_, r _ p6 (by omega), r _ p7 (by omega), p8⟩⟩, ⟨?_, ?_, ?_, ?_, ?_⟩, ⟨?_, ?_, ?_, ?_, ?_, ?_, ?_⟩, fun i hi => ?_, fun i hi => r _ (g2 i hi) (by omega), ⟨?_, ?_, ?_⟩, ⟨?_, ?_, ?_, ?_⟩, ⟨?_, ?_, ?_, ?_⟩, ⟨?_, ?_, ?_, ?_, ?_, r _ m6 (by omega), ?_⟩, ⟨?_, ?_, ?_, ?_, ?_, ?_⟩, ?_⟩
  case refine_35 =>
    obtain ⟨s1, s2, s3, s4⟩ := g1 i hi
    exact ⟨s1, c1 _ _ (by omega) s2, c2 _ _ _ (by omega) s3, c1 _ _ (by omega) s4⟩
  all_goals first | (refine c1 _ _ (by omega) ?_; assumption) | (refine c2 _ _ _ (by omega) ?_; assumption)
theorem ZLst.grow {q : Nat} {l : List Int64} (h : ZLst k L q l) (hg : ZG k k' a b) (hL : ∀ x, 95 ≤ x → x < k.2.2.1 → L' x = L x) : ZLst k' L' q l := by
  obtain ⟨h1, h2, h3, h4⟩ := h
  have := hg.2.1
  exact ⟨h1, by omega, by rw [(hg.1 q h2).1]; exact h3, fun j hj => by rw [hL q h1 h2]; exact h4 j hj⟩
theorem ZCa.grow (h : ZCa k I L R) (hg : ZG k k' a b) (hL : ∀ x, 95 ≤ x → x < k.2.2.1 → L' x = L x) (hI : ∀ x, (x = 16 ∨ x = 17 ∨ x = 21) → I' x = I x) (hR : ∀ x, (x = 69 ∨ x = 71 ∨ x = 75 ∨ x = 77) → R' x = R x) : ZCa k' I' L' R' := by
  obtain ⟨c1, c2, c3, c4, c5, c6⟩ := h
  unfold ZCa
  rw [hI 16 (by omega), hI 17 (by omega), hI 21 (by omega), hR 69 (by omega), hR 71 (by omega), hR 75 (by omega), hR 77 (by omega)]
  exact ⟨c1, c2, fun j q hj e => (c3 j q hj e).grow hg hL, fun j q hj e => (c4 j q hj e).grow hg hL, fun j q hj e => (c5 j q hj e).grow hg hL, fun j q hj e => (c6 j q hj e).grow hg hL⟩
theorem ZB.grow (h : ZB A k F I L R) (hx : 95 ≤ k.2.2.1) (hg : ZG k k' a b) (hF : ∀ x, (x = 2 ∨ (22 ≤ x ∧ x < 66)) → F' x = F x) (hI : ∀ x, (x = 1 ∨ x = 8 ∨ (35 ≤ x ∧ x < 66)) → I' x = I x) (hL : ∀ x, 22 ≤ x → x < 35 → L' x = L x) (hR : ∀ x, (x = 3 ∨ x = 4) → R' x = R x) (hf : ZFoI F' I' 9) (hc : ZCa k' I' L' R') : ZB A k' F' I' L' R' := by
  obtain ⟨⟨h1, h2, h3⟩, b1, b2, b3, b4, b5, b6⟩ := h
  refine ⟨⟨fun i hi => ?_, fun s hs => ?_, ?_⟩, b1.grow (fun x hx' => (hg.1 x (by omega)).1) (fun x hx' => (hg.1 x (by omega)).2), ?_, ?_, hf, hc, ?_⟩
  · have q := h1 i hi
    unfold ZSk at q ⊢
    rw [hF _ (by omega), hL _ (by omega) (by omega)]
    exact q
  · have q := h2 s hs
    unfold ZSh at q ⊢
    rw [hF _ (by omega), hI _ (by omega)]
    exact q
  · rw [hF _ (by omega)]; exact h3
  · unfold ZBr
    rw [hR 3 (by omega), hR 4 (by omega)]; exact b2
  · rw [hI 8 (by omega)]; exact b3
  · rw [hI 1 (by omega)]; exact b6
end ZGrow
theorem z_map_getD (l : List Nat) (j : Nat) (hj : j < l.length) : (l.map Int64.ofNat).getD j 0 = Int64.ofNat (l.getD j 0) := by
  rw [List.getD_eq_getElem?_getD, List.getElem?_map, List.getD_eq_getElem?_getD, List.getElem?_eq_getElem hj]
  rfl
section ZSpar2
variable {A : ZA} {d : Nat} {k : ZK} {F I : Nat → Nat → Int} {L : Nat → Nat → Int64} {R : Nat → Nat → Option Nat} {Q : Option ZV → ZH → Prop}
/-- what was found comes as a row of its own -/
theorem z_found {F1 : Nat → Nat → Int} {L1 : Nat → Nat → Int64} {l : Nat → Int64} {fl : List Nat} (h : ZB A k F I L R) (hx : 95 ≤ k.2.2.1) (hF : ∀ x, (x < 66 ∨ (79 ≤ x ∧ x < 95)) → F1 x = F x) (hL : ∀ x, x ≠ 67 → L1 x = L x) (hl : ∀ j, j < fl.length → l j = Int64.ofNat (fl.getD j 0)) :
    ZKp F I L (z_up F1 k.2.2.1 (fun _ => 0)) (z_up I k.2.2.1 (fun _ => 0)) (z_up L1 k.2.2.1 l) ∧ ZB A (z_bk k fl.length) (z_up F1 k.2.2.1 (fun _ => 0)) (z_up I k.2.2.1 (fun _ => 0)) (z_up L1 k.2.2.1 l) (z_up R k.2.2.1 (fun _ => none)) ∧ ZLst (z_bk k fl.length) (z_up L1 k.2.2.1 l) k.2.2.1 (fl.map Int64.ofNat) := by
  refine ⟨fun x h1 h2 => ⟨?_, ?_, ?_⟩, ?_, hx, Nat.lt_succ_self _, ?_, fun j hj => ?_⟩
  · rw [z_up_ne _ _ (by omega)]; exact hF x (by omega)
  · rw [z_up_ne _ _ (by omega)]
  · rw [z_up_ne _ _ (by omega)]; exact hL x (by omega)
  · refine h.grow hx (ZG.bk k fl.length) (fun x q => ?_) (fun x q => ?_) (fun x q1 q2 => ?_) (fun x q => ?_) ?_ ?_
    · rw [z_up_ne _ _ (by omega)]; exact hF x (by omega)
    · rw [z_up_ne _ _ (by omega)]
    · rw [z_up_ne _ _ (by omega)]; exact hL x (by omega)
    · rw [z_up_ne _ _ (by omega)]
    · obtain ⟨n, q1, q2, q3⟩ := h.2.2.2.2.1
      unfold ZFoI
      rw [z_up_ne _ _ (by omega), z_up_ne _ _ (by omega), hF 9 (by omega)]
      exact ⟨n, q1, q2, q3⟩
    · refine h.2.2.2.2.2.1.grow (ZG.bk k fl.length) (fun x q1 q2 => ?_) (fun x q => ?_) (fun x q => ?_)
      · rw [z_up_ne _ _ (by omega)]; exact hL x (by omega)
      · rw [z_up_ne _ _ (by omega)]
      · rw [z_up_ne _ _ (by omega)]
  · rw [List.length_map]; exact z_up_same _ _ _
  · rw [List.length_map] at hj
    rw [z_up_same, z_map_getD _ _ hj]
    exact hl j hj
theorem c_upTo {m n : Nat} (h : ZB A k F I L R) (hx : 95 ≤ k.2.2.1) (hm : 1 ≤ m ∧ m ≤ 7) (hn : n ≤ 60) (hcap : (z_spb m n).length ≤ 512)
    (K : ∀ F' I' L' R', ZKp F I L F' I' L' → ZB A (z_bk k (z_spb m n).length) F' I' L' R' → ZLst (z_bk k (z_spb m n).length) L' k.2.2.1 ((z_spb m n).map Int64.ofNat) → (∀ x, x < k.2.2.1 → R' x = R x) → Q (some (.inr (.inr (some k.2.2.1)))) (z_bk k (z_spb m n).length, F', I', L', R')) : ZC (d + m + 4) 78 [.inr (.inr (some 68)), .inl (m : Int), .inl (n : Int)] (k, F, I, L, R) Q := by
  obtain ⟨_, _, _, _, _, _, ⟨t1, t2, t3⟩, ⟨s1, s2, s3, s4⟩, _⟩ := h.2.1
  refine ze_SparseSearch_upTo ?_
  repeat (first | refine zw_t rfl rfl ?_ | refine zw_jump rfl rfl ?_ | refine zw_getI rfl rfl (by assumption) ?_ | refine zw_ialn rfl (by assumption) (by omega) ?_ | refine zw_laln rfl (by assumption) (by omega) ?_ | refine zw_iastn rfl (by omega) (by assumption) (by omega) ?_ | refine zw_lastn rfl (by assumption) (by omega) ?_ | refine zw_iald0 rfl (by assumption) (by omega) ?_ | refine zw_lald0 rfl (by assumption) (by omega) ?_ | refine zw_aaln rfl (by assumption) rfl (by omega) ?_ | refine zw_getR rfl (by assumption) (by assumption) ?_ | refine zw_alen rfl (by assumption) rfl ?_ | refine zw_iald rfl (by assumption) (by omega) (by omega) ?_ | refine zw_iast rfl (by omega) (by assumption) (by omega) (by omega) ?_ | refine zw_putI rfl (by assumption) ?_ | refine zw_lald rfl (by assumption) (by omega) (by omega) ?_ | refine zw_last rfl (by assumption) (by omega) (by omega) ?_ | refine zw_iadd rfl (by omega) (by omega) ?_ | refine zw_isub rfl (by omega) (by omega) ?_ | refine zw_iinc rfl rfl rfl (by omega) (by omega) ?_)
  refine zw_callv rfl rfl rfl rfl rfl rfl (by assumption) ?_
  refine c_fclear t1 ?_
  repeat (first | refine zw_t rfl rfl ?_ | refine zw_jump rfl rfl ?_ | refine zw_getI rfl rfl (by assumption) ?_ | refine zw_ialn rfl (by assumption) (by omega) ?_ | refine zw_laln rfl (by assumption) (by omega) ?_ | refine zw_iastn rfl (by omega) (by assumption) (by omega) ?_ | refine zw_lastn rfl (by assumption) (by omega) ?_ | refine zw_iald0 rfl (by assumption) (by omega) ?_ | refine zw_lald0 rfl (by assumption) (by omega) ?_ | refine zw_aaln rfl (by assumption) rfl (by omega) ?_ | refine zw_getR rfl (by assumption) (by assumption) ?_ | refine zw_alen rfl (by assumption) rfl ?_ | refine zw_iald rfl (by assumption) (by omega) (by omega) ?_ | refine zw_iast rfl (by omega) (by assumption) (by omega) (by omega) ?_ | refine zw_putI rfl (by assumption) ?_ | refine zw_lald rfl (by assumption) (by omega) (by omega) ?_ | refine zw_last rfl (by assumption) (by omega) (by omega) ?_ | refine zw_iadd rfl (by omega) (by omega) ?_ | refine zw_isub rfl (by omega) (by omega) ?_ | refine zw_iinc rfl rfl rfl (by omega) (by omega) ?_)
  refine zw_calls rfl rfl rfl rfl rfl rfl ?_
  refine c_min ?_
  rw [show min (n : Int) 60 = (n : Int) by omega]
  repeat (first | refine zw_t rfl rfl ?_ | refine zw_jump rfl rfl ?_ | refine zw_getI rfl rfl (by assumption) ?_ | refine zw_ialn rfl (by assumption) (by omega) ?_ | refine zw_laln rfl (by assumption) (by omega) ?_ | refine zw_iastn rfl (by omega) (by assumption) (by omega) ?_ | refine zw_lastn rfl (by assumption) (by omega) ?_ | refine zw_iald0 rfl (by assumption) (by omega) ?_ | refine zw_lald0 rfl (by assumption) (by omega) ?_ | refine zw_aaln rfl (by assumption) rfl (by omega) ?_ | refine zw_getR rfl (by assumption) (by assumption) ?_ | refine zw_alen rfl (by assumption) rfl ?_ | refine zw_iald rfl (by assumption) (by omega) (by omega) ?_ | refine zw_iast rfl (by omega) (by assumption) (by omega) (by omega) ?_ | refine zw_putI rfl (by assumption) ?_ | refine zw_lald rfl (by assumption) (by omega) (by omega) ?_ | refine zw_last rfl (by assumption) (by omega) (by omega) ?_ | refine zw_iadd rfl (by omega) (by omega) ?_ | refine zw_isub rfl (by omega) (by omega) ?_ | refine zw_iinc rfl rfl rfl (by omega) (by omega) ?_)
  refine zw_calls rfl rfl rfl rfl rfl rfl ?_
  refine c_min ?_
  rw [show min (m : Int) 7 = (m : Int) by omega]
  repeat (first | refine zw_t rfl rfl ?_ | refine zw_jump rfl rfl ?_ | refine zw_getI rfl rfl (by assumption) ?_ | refine zw_ialn rfl (by assumption) (by omega) ?_ | refine zw_laln rfl (by assumption) (by omega) ?_ | refine zw_iastn rfl (by omega) (by assumption) (by omega) ?_ | refine zw_lastn rfl (by assumption) (by omega) ?_ | refine zw_iald0 rfl (by assumption) (by omega) ?_ | refine zw_lald0 rfl (by assumption) (by omega) ?_ | refine zw_aaln rfl (by assumption) rfl (by omega) ?_ | refine zw_getR rfl (by assumption) (by assumption) ?_ | refine zw_alen rfl (by assumption) rfl ?_ | refine zw_iald rfl (by assumption) (by omega) (by omega) ?_ | refine zw_iast rfl (by omega) (by assumption) (by omega) (by omega) ?_ | refine zw_putI rfl (by assumption) ?_ | refine zw_lald rfl (by assumption) (by omega) (by omega) ?_ | refine zw_last rfl (by assumption) (by omega) (by omega) ?_ | refine zw_iadd rfl (by omega) (by omega) ?_ | refine zw_isub rfl (by omega) (by omega) ?_ | refine zw_iinc rfl rfl rfl (by omega) (by omega) ?_)
  refine zw_callv rfl rfl rfl rfl rfl rfl (by assumption) ?_
  obtain ⟨F1, hF1⟩ : ∃ F1, F1 = z_u2 (z_u2 F 66 1 0) 68 2 (n : Int) := ⟨_, rfl⟩
  have f1 : F1 68 2 = (n : Int) := by rw [hF1, z_u2_same]
  have f2 : F1 66 1 = 0 := by rw [hF1, z_u2_na _ _ _ _ (by omega), z_u2_same]
  have f3 : ∀ x, (x < 66 ∨ (79 ≤ x ∧ x < 95)) → F1 x = F x := fun x q => by rw [hF1, z_u2_ad _ _ _ (by omega), z_u2_ad _ _ _ (by omega)]
  refine zc_eqv (args' := [.inr (.inr (some 68)), .inr (.inl (Int64.ofNat 1)), .inl ((0 : Nat) : Int), .inl ((m - 1 : Nat) : Int), .inr (.inl (Int64.ofNat 1)), .inr (.inl (Int64.ofNat 0))]) ?_ ?_
  · rw [show ((m - 1 : Nat) : Int) = (m : Int) - 1 by omega]
    rfl
  refine ZC.le (show d + (m - 1) + 2 ≤ _ by omega) ?_
  rw [← hF1]
  refine c_spx (lim := n) s1 s2 t1 t2 t3 hn (m - 1) d 1 0 1 0 F1 L [] _ f1 (by omega) (by omega) (by decide) (by decide) (by decide) ⟨f2, fun j hj => by simp at hj⟩ (by show ([] : List Nat).length + (z_spb m n).length ≤ 512; simp; omega) (fun F' L' hr hfd => ?_)
  rw [List.nil_append] at hfd
  have hfd : ZFd F' L' (z_spb m n) := hfd
  repeat (first | refine zw_t rfl rfl ?_ | refine zw_jump rfl rfl ?_ | refine zw_getI rfl rfl (by assumption) ?_ | refine zw_ialn rfl (by assumption) (by omega) ?_ | refine zw_laln rfl (by assumption) (by omega) ?_ | refine zw_iastn rfl (by omega) (by assumption) (by omega) ?_ | refine zw_lastn rfl (by assumption) (by omega) ?_ | refine zw_iald0 rfl (by assumption) (by omega) ?_ | refine zw_lald0 rfl (by assumption) (by omega) ?_ | refine zw_aaln rfl (by assumption) rfl (by omega) ?_ | refine zw_getR rfl (by assumption) (by assumption) ?_ | refine zw_alen rfl (by assumption) rfl ?_ | refine zw_iald rfl (by assumption) (by omega) (by omega) ?_ | refine zw_iast rfl (by omega) (by assumption) (by omega) (by omega) ?_ | refine zw_putI rfl (by assumption) ?_ | refine zw_lald rfl (by assumption) (by omega) (by omega) ?_ | refine zw_last rfl (by assumption) (by omega) (by omega) ?_ | refine zw_iadd rfl (by omega) (by omega) ?_ | refine zw_isub rfl (by omega) (by omega) ?_ | refine zw_iinc rfl rfl rfl (by omega) (by omega) ?_)
  refine zw_callv rfl rfl rfl rfl rfl rfl (by assumption) ?_
  refine c_frow t1 t2 t3 hx hfd.1 hcap (fun l hl => ?_)
  have z := z_found (l := l) (F1 := F') (L1 := L') h hx (fun x q => by rw [← f3 x q]; funext j; exact hr.1 x j (by omega)) (fun x q => hr.2 x q) (fun j hj => (hl j hj).trans (hfd.2 j hj))
  exact zw_aret rfl (K _ _ _ _ z.1 z.2.1 z.2.2 (fun x q => z_up_ne _ _ (by omega)))
end ZSpar2
