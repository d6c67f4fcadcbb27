/-! THE LAW: its beginning, and the pure law -/
section ZLawE
variable {d n : Nat} {f : Nat → Int} {k k' : ZK} {T : Nat → Nat × Nat} {G : Nat → Nat → Option Nat} {F I : Nat → Nat → Int} {L : Nat → Nat → Int64} {R : Nat → Nat → Option Nat}
theorem ZRu.early {r : Nat} (h : ZRu k r) (e1 : ∀ x, x < 79 → k'.1 x = k.1 x) (e2 : ∀ x, x < 79 → k'.2.1 x = k.2.1 x) (hr : r < 78) : ZRu k' r := by
  obtain ⟨h1, h2, h3, h4⟩ := h
  exact ⟨h1, by rw [e1 _ (by omega)]; exact h2, by rw [e2 _ (by omega)]; exact h3, by rw [e1 _ (by omega)]; exact h4⟩
theorem ZBk.early (h : ZBk k) (e1 : ∀ x, x < 79 → k'.1 x = k.1 x) (e2 : ∀ x, x < 79 → k'.2.1 x = k.2.1 x) : ZBk k' := by
  have r : ∀ r, ZRu k r → r < 78 → ZRu k' r := fun r h1 h2 => h1.early e1 e2 h2
  have c1 : ∀ x y, x < 79 → k.1 x = y → k'.1 x = y := fun x y h1 h2 => (e1 x h1).trans h2
  have c2 : ∀ x j y, x < 79 → k.2.1 x j = y → k'.2.1 x j = y := fun x j y h1 h2 => (congrFun (e2 x h1) j).trans h2
  obtain ⟨⟨a1, a2, a3, a4, a5, a6, a7, a8, a9, a10, a11, a12, a13, a14⟩, ⟨b1, b2, b3⟩, ⟨d1, d2, d3, d4, d5⟩, ⟨f1, f2, f3, f4, f5, f6, f7⟩, g1, g2, ⟨i1, i2, i3⟩, ⟨j1, j2, j3, j4⟩, ⟨l1, l2, l3, l4⟩, ⟨m1, m2, m3, m4, m5, m6, m7⟩, ⟨n1, n2, n3, n4, n5, n6⟩, o1⟩ := h
  obtain ⟨p1, p2, p3, p4, p5, p6, p7, p8⟩ := b3
  obtain ⟨q1, q2, q3, q4⟩ := b2
  refine ⟨⟨?_, ?_, ?_, ?_, ?_, ?_, ?_, ?_, ?_, ?_, ?_, ?_, ?_, ?_⟩, ⟨r _ b1 (by omega), ⟨q1, ?_, ?_, ?_⟩, ⟨?_, ?_, ?_, ?_, ?_, r _ p6 (by omega), r _ p7 (by omega), p8⟩⟩, ⟨?_, ?_, ?_, ?_, ?_⟩, ⟨?_, ?_, ?_, ?_, ?_, ?_, ?_⟩, fun i hi => ?_, fun i hi => r _ (g2 i hi) (by omega), ⟨?_, ?_, ?_⟩, ⟨?_, ?_, ?_, ?_⟩, ⟨?_, ?_, ?_, ?_⟩, ⟨?_, ?_, ?_, ?_, ?_, r _ m6 (by omega), ?_⟩, ⟨?_, ?_, ?_, ?_, ?_, ?_⟩, ?_⟩
  case refine_35 =>
    obtain ⟨s1, s2, s3, s4⟩ := g1 i hi
    exact ⟨s1, c1 _ _ (by omega) s2, c2 _ _ _ (by omega) s3, c1 _ _ (by omega) s4⟩
  all_goals first | (refine c1 _ _ (by omega) ?_; assumption) | (refine c2 _ _ _ (by omega) ?_; assumption)
def z_a0 : ZA := (fun _ => none, fun _ => (0, 0, fun _ => 0), 0)
theorem z_row0 : ZRow (fun _ => 0) 0 0 := ⟨by decide, fun i j h1 h2 => by omega, fun j hj => by omega, ⟨by decide, by decide⟩, fun h => absurd h (by decide), fun h => absurd h (by decide)⟩
theorem l_start (hn : n ≤ 2560) (hT0 : T 0 = (2, n)) (hT1 : T 1 = (2, 8)) (hN : ZNo 2 G F I L R) (hF : ∀ a j, F a j = 0) (hI0 : I 0 = f) (hp : I 1 0 = 2 ∧ I 1 1 = 3 ∧ I 1 2 = 5 ∧ I 1 3 = 7 ∧ I 1 4 = 11 ∧ I 1 5 = 13 ∧ I 1 6 = 17 ∧ I 1 7 = 19) : ZW (d + 40) 229 0 [some (.inr (.inr (some 0))), none, none, none] [] ((T, G, 2, 0), F, I, L, R) ZEnd := by
  refine zi_new rfl (fun j => hN _ j (by decide)) ?_
  refine zw_t rfl rfl ?_
  refine zw_calli rfl rfl rfl rfl rfl rfl ?_
  refine c_Binit (z_up_same _ _ _) ((z_up_ne _ _ (by decide)).trans hT1) hF (fun a j ha => hN a j (by omega)) (fun T1 G1 s1 F1 R1 b1 t0 r1 f1 rr ss gg => ?_)
  refine zw_t rfl rfl ?_
  have no : ∀ a j, 79 ≤ a → G1 a j = none ∧ F1 a j = 0 ∧ I a j = 0 ∧ L a j = 0 ∧ R1 a j = none := fun a j ha => ⟨gg a j ha, f1 a j, (hN a j (by omega)).2.2.1, (hN a j (by omega)).2.2.2.1, (rr a j (by omega) (by omega)).trans (hN a j (by omega)).2.2.2.2⟩
  refine zi_new rfl (fun j => no 79 j (by omega)) ?_
  refine zw_t rfl rfl ?_
  refine zw_calli rfl rfl rfl rfl rfl rfl ?_
  refine c_Minit (z_up_same _ _ _) (fun a j ha => no a j (by omega)) (fun T2 G2 s2 I2 t2 g2 i2 i81 mk ss2 no2 => ?_)
  refine zw_t rfl rfl ?_
  refine zw_t rfl rfl ?_
  refine zw_t rfl rfl ?_
  have tt : ∀ a, a < 79 → T2 a = T1 a := fun a ha => (t2 a (by omega)).trans (z_up_ne _ _ (by omega))
  have z8 : ∀ a j, 2 ≤ a → a ≠ 81 → I2 a j = 0 := fun a j h1 h2 => by rw [i2 a h2]; exact (hN a j h1).2.2.1
  have hb : ZBk (T2, G2, 95, s2) := b1.early (fun x hx => tt x hx) (fun x hx => g2 x hx)
  have hR : ∀ a j, 5 ≤ a → R1 a j = none := fun a j ha => (rr a j (by omega) (by omega)).trans (hN a j (by omega)).2.2.2.2
  have hJ : ZJ z_a0 n f (T2, G2, 95, s2) F1 I2 L R1 := by
    refine ⟨⟨⟨fun i hi => f1 _ _, fun s hs => ⟨f1 _ _, f1 _ _, z_row0, fun j hj => absurd hj (Nat.not_lt_zero j)⟩, f1 _ _⟩, hb, r1, fun j => ?_, ⟨0, f1 _ _, by decide, fun e he h2 => ?_⟩, ⟨fun j hj => Or.inl (z8 16 j (by decide) (by decide)), fun j hj => Or.inl (z8 21 j (by decide) (by decide)), fun j q hj e => ?_, fun j q hj e => ?_, fun j q hj e => ?_, fun j q hj e => ?_⟩, ?_⟩, mk, ⟨fun i hi => i81 i hi, fun s hs => ⟨z8 83 s (by decide) (by decide), z8 84 s (by decide) (by decide), z_row0, fun j hj => absurd hj (Nat.not_lt_zero j)⟩, f1 _ _⟩, ?_, ?_, Nat.le_refl _⟩
    · rw [z8 8 j (by decide) (by decide)]; exact ⟨by decide, by decide⟩
    · rw [f1] at he; omega
    · rw [hR 69 j (by decide)] at e; cases e
    · rw [hR 71 j (by decide)] at e; cases e
    · rw [hR 75 j (by decide)] at e; cases e
    · rw [hR 77 j (by decide)] at e; cases e
    · rw [i2 1 (by decide)]; exact hp
    · exact ((tt 0 (by decide)).trans t0).trans ((z_up_ne _ _ (by decide)).trans hT0)
    · rw [i2 0 (by decide)]; exact hI0
  exact l_loop hn 513 0 z_a0 _ F1 I2 L R1 (by decide) hJ (by show 95 ≤ _; omega) (by show s2 ≤ _; omega)
theorem z_law : ZLaw := by
  intro n f hn hf
  refine l_start (d := 960) (f := f) hn rfl rfl (fun a j ha => ⟨rfl, rfl, ?_, rfl, rfl⟩) (fun _ _ => rfl) rfl ⟨rfl, rfl, rfl, rfl, rfl, rfl, rfl, rfl⟩
  show (if a = 0 then f else if a = 1 then z_pr else fun _ => 0) j = 0
  rw [if_neg (by omega), if_neg (by omega)]
end ZLawE
