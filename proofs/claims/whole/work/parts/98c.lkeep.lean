/-! THE LAW: what both sides keep -/
section ZLawA
variable {A : ZA} {k k' : ZK} {F I F' I' F1 I1 F2 I2 : Nat → Nat → Int} {L L' L1 L2 : Nat → Nat → Int64} {R R1 : Nat → Nat → Option Nat}
theorem ZB.mf (h : ZB A k F I L R) (hf : ZMf F I L F' I' L') : ZB A k F' I' L' R := by
  obtain ⟨⟨h1, h2, h3⟩, hS⟩ := h
  refine ⟨⟨fun i hi => ?_, fun s hs => ?_, ?_⟩, hS.upd (fun j => ?_) ?_ (fun a ha => (hf a (by omega)).2.1) (fun a ha => (hf a (by omega)).2.2)⟩
  · have q := h1 i hi
    unfold ZSk at q ⊢
    rw [(hf (22 + 2 * i) (by omega)).1, (hf (22 + 2 * i + 1) (by omega)).2.2]
    exact q
  · have q := h2 s hs
    unfold ZSh at q ⊢
    rw [(hf (34 + 2 * s) (by omega)).1, (hf (34 + 2 * s + 1) (by omega)).2.1]
    exact q
  · rw [(hf 2 (by omega)).1]; exact h3
  · rw [(hf 8 (by omega)).2.1]; exact hS.2.2.1 j
  · obtain ⟨u, a1, a2, a3⟩ := hS.2.2.2.1
    unfold ZFoI
    rw [(hf 9 (by omega)).1, (hf (9 + 5) (by omega)).2.1]
    exact ⟨u, a1, a2, a3⟩
theorem ZMA.kp (h : ZMA A F I L) (hk : ZKp F I L F' I' L') : ZMA A F' I' L' := h.scr (congrFun (hk 79 (by omega) (by omega)).1 0) (fun a ha => (hk a (by omega) (by omega)).2.1) (hk 82 (by omega) (by omega)).2.2
theorem ZMA.agr {t c : Nat} {rd : Int} {g g' : Nat → Int} {a1 : Nat → ZSkV} {a2 : Nat → ZShV} {a3 : Int} (h : ZMA (a1, z_up a2 t (c, rd, g'), a3) F I L) (ag : ZAgr g g' c) (hr : ZRow g c rd) : ZMA (a1, z_up a2 t (c, rd, g), a3) F I L := by
  refine ⟨h.1, fun s hs => ?_, h.2.2⟩
  have q : ZMh I s (z_up a2 t (c, rd, g') s) := h.2.1 s hs
  show ZMh I s (z_up a2 t (c, rd, g) s)
  by_cases e : s = t
  · subst e
    rw [z_up_same] at q ⊢
    exact ⟨q.1, q.2.1, hr, fun j hj => (q.2.2.2 j hj).trans (ag j hj).symm⟩
  · rw [z_up_ne _ _ e] at q ⊢
    exact q
theorem ZMk.grow {a b : Nat} (h : ZMk k) (hx : 95 ≤ k.2.2.1) (hg : ZG k k' a b) : ZMk k' := by
  have c1 : ∀ x y, x < 95 → k.1 x = y → k'.1 x = y := fun x y h1 h2 => (hg.1 x (by omega)).1.trans h2
  have c2 : ∀ x j y, x < 95 → k.2.1 x j = y → k'.2.1 x j = y := fun x j y h1 h2 => (congrFun (hg.1 x (by omega)).2 j).trans h2
  obtain ⟨⟨h1, h2, h3, h4, h5, h6, h7, h8⟩, ⟨i1, i2, i3, i4, i5, i6, i7, i8⟩, ⟨j1, j2, j3, j4, j5, j6, j7⟩, ⟨l1, l2, l3, l4, l5, l6, l7, l8⟩⟩ := h
  refine ⟨⟨?_, ?_, ?_, ?_, ?_, ?_, ?_, ?_⟩, ⟨?_, ?_, ?_, ?_, ?_, ?_, ?_, ?_⟩, ⟨?_, ?_, ?_, ?_, ?_, ?_, ?_⟩, ⟨?_, ?_, ?_, ?_, ?_, ?_, ?_, ?_⟩⟩
  all_goals first | (refine c1 _ _ (by omega) ?_; assumption) | (refine c2 _ _ _ (by omega) ?_; assumption)
/-- what holds between two calls: both sides hold A, the script lies where it lay -/
def ZJ (A : ZA) (n : Nat) (f : Nat → Int) (k : ZK) (F I : Nat → Nat → Int) (L : Nat → Nat → Int64) (R : Nat → Nat → Option Nat) : Prop := ZB A k F I L R ∧ ZMk k ∧ ZMA A F I L ∧ k.1 0 = (2, n) ∧ I 0 = f ∧ 95 ≤ k.2.2.1
theorem ZJ.same {A' : ZA} {n : Nat} {f : Nat → Int} (hk : ZMk k) (hT : k.1 0 = (2, n)) (hI : I 0 = f) (hx : 95 ≤ k.2.2.1) (q1 : ZKp F I L F1 I1 L1) (q2 : ZMf F1 I1 L1 F2 I2 L2) (hB : ZB A' k F1 I1 L1 R1) (hM : ZMA A' F2 I2 L2) : ZJ A' n f k F2 I2 L2 R1 := ⟨hB.mf q2, hk, hM, hT, ((q2 0 (by omega)).2.1.trans (q1 0 (Or.inl rfl) (by omega)).2.1).trans hI, hx⟩
/-- the law goes on behind a call -/
def ZNx (d n i : Nat) (f : Nat → Int) (k : ZK) (Q : Option ZV → ZH → Prop) : Prop := ∀ A' k' F' I' L' R', ZJ A' n f k' F' I' L' R' → ZG k k' 6 3072 → ZW d 229 1310 [some (.inr (.inr (some 0))), some (.inr (.inr (some 2))), some (.inr (.inr (some 79))), some (.inl (i : Int))] [] (k', F', I', L', R') Q
theorem z_lcmp_self (x : Int64) : z_lcmpv x x = 0 := by
  unfold z_lcmpv
  rw [if_neg (Int64.lt_irrefl), if_pos rfl]
theorem z_form_ans {x x' : Int} {g g' v : Nat → Int} {c : Nat} (h : (x = 1 ∧ ZAgr g v c) ∨ (x = 0 ∧ ¬ ZAgr g v c)) (h' : (x' = 1 ∧ ZAgr g' v c) ∨ (x' = 0 ∧ ¬ ZAgr g' v c)) (ag : ZAgr g g' c) : x = x' := by
  rcases h with ⟨rfl, p⟩ | ⟨rfl, p⟩ <;> rcases h' with ⟨rfl, q⟩ | ⟨rfl, q⟩
  · rfl
  · exact absurd (fun j hj => (ag j hj).symm.trans (p j hj)) q
  · exact absurd (fun j hj => (ag j hj).trans (q j hj)) p
  · rfl
theorem z_alike_ans {x x' : Int} {g1 g2 g3 g4 : Nat → Int} {c : Nat} (h : (x = 1 ∧ ZAgr g1 g2 c) ∨ (x = 0 ∧ ¬ ZAgr g1 g2 c)) (h' : (x' = 1 ∧ ZAgr g3 g4 c) ∨ (x' = 0 ∧ ¬ ZAgr g3 g4 c)) (a1 : ZAgr g1 g3 c) (a2 : ZAgr g2 g4 c) : x = x' := by
  rcases h with ⟨rfl, p⟩ | ⟨rfl, p⟩ <;> rcases h' with ⟨rfl, q⟩ | ⟨rfl, q⟩
  · rfl
  · exact absurd (fun j hj => ((a1 j hj).symm.trans (p j hj)).trans (a2 j hj)) q
  · exact absurd (fun j hj => ((a1 j hj).trans (q j hj)).trans (a2 j hj).symm) p
  · rfl
end ZLawA
