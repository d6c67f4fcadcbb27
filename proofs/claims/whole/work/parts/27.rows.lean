/-! ROWS: rising rows and their members -/
def ZRise (f : Nat → Int) (c : Nat) : Prop := ∀ i j, i < j → j < c → f i < f j
def ZMem (f : Nat → Int) (c : Nat) (x : Int) : Prop := ∃ j, j < c ∧ f j = x
def ZAgr (f g : Nat → Int) (c : Nat) : Prop := ∀ j, j < c → f j = g j
theorem ZRise.le {f : Nat → Int} {c i j : Nat} (h : ZRise f c) (h1 : i ≤ j) (h2 : j < c) : f i ≤ f j := by
  rcases Nat.lt_or_eq_of_le h1 with h3 | h3
  · exact Int.le_of_lt (h i j h3 h2)
  · rw [h3]; exact Int.le_refl _
theorem ZRise.inj {f : Nat → Int} {c i j : Nat} (h : ZRise f c) (h1 : i < c) (h2 : j < c) (e : f i = f j) : i = j := by
  rcases Nat.lt_trichotomy i j with h3 | h3 | h3
  · have := h i j h3 h2; omega
  · exact h3
  · have := h j i h3 h1; omega
theorem ZRise.less {f : Nat → Int} {c e : Nat} (h : ZRise f c) (h1 : e ≤ c) : ZRise f e := fun i j hi hj => h i j hi (by omega)
theorem ZAgr.rise {f g : Nat → Int} {c : Nat} (h : ZAgr f g c) (hf : ZRise f c) : ZRise g c := fun i j hi hj => by rw [← h i (by omega), ← h j hj]; exact hf i j hi hj
theorem ZAgr.symm {f g : Nat → Int} {c : Nat} (h : ZAgr f g c) : ZAgr g f c := fun j hj => (h j hj).symm
theorem ZAgr.trans {f g e : Nat → Int} {c : Nat} (h : ZAgr f g c) (h' : ZAgr g e c) : ZAgr f e c := fun j hj => (h j hj).trans (h' j hj)
theorem ZAgr.mem {f g : Nat → Int} {c : Nat} (h : ZAgr f g c) (x : Int) : ZMem f c x ↔ ZMem g c x := by
  constructor
  · rintro ⟨j, hj, e⟩; exact ⟨j, hj, by rw [← h j hj]; exact e⟩
  · rintro ⟨j, hj, e⟩; exact ⟨j, hj, by rw [h j hj]; exact e⟩
/-- a rising row is known by its members -/
theorem z_rise_uniq {f g : Nat → Int} {c : Nat} (hf : ZRise f c) (hg : ZRise g c) (h : ∀ x, ZMem f c x ↔ ZMem g c x) : ZAgr f g c := by
  intro j
  induction j using Nat.strongRecOn with
  | ind j ih =>
    intro hj
    have a1 : g j ≤ f j := by
      obtain ⟨i, hi, e⟩ := (h (f j)).1 ⟨j, hj, rfl⟩
      by_cases hij : i < j
      · have := ih i hij hi
        have := hf i j hij hj
        omega
      · have := hg.le (show j ≤ i by omega) hi
        omega
    have a2 : f j ≤ g j := by
      obtain ⟨i, hi, e⟩ := (h (g j)).2 ⟨j, hj, rfl⟩
      by_cases hij : i < j
      · have := ih i hij hi
        have := hg i j hij hj
        omega
      · have := hf.le (show j ≤ i by omega) hi
        omega
    omega
theorem z_up_val {α : Type} (f : Nat → α) (a x : Nat) (v : α) : z_up f a v x = if x = a then v else f x := rfl
theorem z_ins_spec (x : Int) : ∀ (m : Nat) (f : Nat → Int), ZRise f m → ¬ ZMem f m x → ZRise (z_ins x f m) (m + 1) ∧ (∀ y, ZMem (z_ins x f m) (m + 1) y ↔ (y = x ∨ ZMem f m y)) ∧ (∀ j, m < j → z_ins x f m j = f j)
  | 0, f, hf, hx => by
    unfold z_ins
    refine ⟨fun i j hi hj => by omega, fun y => ?_, fun j hj => ?_⟩
    · constructor
      · rintro ⟨j, hj, e⟩
        left
        rw [show j = 0 by omega, z_up_same] at e
        exact e.symm
      · rintro (h | ⟨j, hj, e⟩)
        · exact ⟨0, by omega, by rw [z_up_same, h]⟩
        · omega
    · exact z_up_ne _ _ (by omega)
  | p + 1, f, hf, hx => by
    have hfp : ZRise f p := hf.less (by omega)
    unfold z_ins
    by_cases h : x < f p
    · rw [if_pos h]
      have e1 : ∀ j, j < p → z_up f (p + 1) (f p) j = f j := fun j hj => z_up_ne _ _ (by omega)
      have a1 : ZRise (z_up f (p + 1) (f p)) p := fun i j hi hj => by rw [e1 i (by omega), e1 j hj]; exact hf i j hi (by omega)
      have a2 : ∀ y, ZMem (z_up f (p + 1) (f p)) p y ↔ ZMem f p y := fun y => ZAgr.mem e1 y
      have a3 : ¬ ZMem (z_up f (p + 1) (f p)) p x := fun hm => by
        obtain ⟨j, hj, e⟩ := (a2 x).1 hm
        exact hx ⟨j, by omega, e⟩
      obtain ⟨b1, b2, b3⟩ := z_ins_spec x p _ a1 a3
      have b4 : z_ins x (z_up f (p + 1) (f p)) p (p + 1) = f p := by rw [b3 (p + 1) (by omega), z_up_same]
      refine ⟨fun i j hi hj => ?_, fun y => ?_, fun j hj => ?_⟩
      · by_cases hj2 : j < p + 1
        · exact b1 i j hi hj2
        · rw [show j = p + 1 by omega, b4]
          rcases (b2 _).1 ⟨i, by omega, rfl⟩ with h1 | h1
          · rw [h1]; exact h
          · obtain ⟨a, ha, e⟩ := (a2 _).1 h1
            rw [← e]
            exact hf a p ha (by omega)
      · constructor
        · rintro ⟨j, hj, e⟩
          by_cases hj2 : j < p + 1
          · rcases (b2 y).1 ⟨j, hj2, e⟩ with h1 | h1
            · exact Or.inl h1
            · obtain ⟨a, ha, e⟩ := (a2 y).1 h1
              exact Or.inr ⟨a, by omega, e⟩
          · rw [show j = p + 1 by omega, b4] at e
            exact Or.inr ⟨p, by omega, e⟩
        · rintro (h1 | ⟨j, hj, e⟩)
          · obtain ⟨a, ha, e⟩ := (b2 y).2 (Or.inl h1)
            exact ⟨a, by omega, e⟩
          · by_cases hj2 : j < p
            · obtain ⟨a, ha, e⟩ := (b2 y).2 (Or.inr ((a2 y).2 ⟨j, hj2, e⟩))
              exact ⟨a, by omega, e⟩
            · exact ⟨p + 1, by omega, by rw [b4, ← e, show j = p by omega]⟩
      · rw [b3 j (by omega), z_up_ne _ _ (by omega)]
    · rw [if_neg h]
      have e1 : ∀ j, j < p + 1 → z_up f (p + 1) x j = f j := fun j hj => z_up_ne _ _ (by omega)
      have hpx : f p < x := by
        have : f p ≠ x := fun e => hx ⟨p, by omega, e⟩
        omega
      refine ⟨fun i j hi hj => ?_, fun y => ?_, fun j hj => z_up_ne _ _ (by omega)⟩
      · by_cases hj2 : j < p + 1
        · rw [e1 i (by omega), e1 j hj2]; exact hf i j hi hj2
        · rw [show j = p + 1 by omega, z_up_same, e1 i (by omega)]
          have := hf.le (show i ≤ p by omega) (by omega)
          omega
      · constructor
        · rintro ⟨j, hj, e⟩
          by_cases hj2 : j < p + 1
          · exact Or.inr ⟨j, hj2, by rw [← e1 j hj2]; exact e⟩
          · rw [show j = p + 1 by omega, z_up_same] at e
            exact Or.inl e.symm
        · rintro (h1 | ⟨j, hj, e⟩)
          · exact ⟨p + 1, by omega, by rw [z_up_same, h1]⟩
          · exact ⟨j, by omega, by rw [e1 j hj]; exact e⟩
theorem z_bld_spec (v : Nat → Int) : ∀ (n i : Nat) (f : Nat → Int), ZRise f i → (∀ a b, i ≤ a → a < b → b < i + n → v a ≠ v b) → (∀ a, i ≤ a → a < i + n → ¬ ZMem f i (v a)) → ZRise (z_bld v f i n) (i + n) ∧ (∀ y, ZMem (z_bld v f i n) (i + n) y ↔ (ZMem f i y ∨ ∃ a, i ≤ a ∧ a < i + n ∧ v a = y))
  | 0, i, f, hf, _, _ => by
    unfold z_bld
    refine ⟨hf, fun y => ⟨fun h => Or.inl h, ?_⟩⟩
    rintro (h | ⟨a, h1, h2, _⟩)
    · exact h
    · omega
  | n + 1, i, f, hf, hd, hn => by
    obtain ⟨a1, a2, a3⟩ := z_ins_spec (v i) i f hf (hn i (by omega) (by omega))
    obtain ⟨b1, b2⟩ := z_bld_spec v n (i + 1) (z_ins (v i) f i) a1 (fun a b h1 h2 h3 => hd a b (by omega) h2 (by omega)) (fun a h1 h2 hm => by
      rcases (a2 _).1 hm with h3 | h3
      · exact hd i a (by omega) (by omega) (by omega) h3.symm
      · exact hn a (by omega) (by omega) h3)
    unfold z_bld
    rw [show i + 1 + n = i + (n + 1) by omega] at b1 b2
    refine ⟨b1, fun y => ?_⟩
    rw [b2 y, a2 y]
    constructor
    · rintro ((h | h) | ⟨a, h1, h2, h3⟩)
      · exact Or.inr ⟨i, by omega, by omega, h.symm⟩
      · exact Or.inl h
      · exact Or.inr ⟨a, by omega, by omega, h3⟩
    · rintro (h | ⟨a, h1, h2, h3⟩)
      · exact Or.inl (Or.inr h)
      · by_cases hai : a = i
        · subst hai; exact Or.inl (Or.inl h3.symm)
        · exact Or.inr ⟨a, by omega, by omega, h3⟩
/-- all of a row come in, into an empty one -/
theorem z_bld_all {v f : Nat → Int} {c : Nat} (hd : ∀ a b, a < b → b < c → v a ≠ v b) : ZRise (z_bld v f 0 c) c ∧ (∀ y, ZMem (z_bld v f 0 c) c y ↔ ZMem v c y) := by
  obtain ⟨h1, h2⟩ := z_bld_spec v c 0 f (fun i j hi hj => by omega) (fun a b _ h3 h4 => hd a b h3 (by omega)) (fun a _ _ ⟨j, hj, _⟩ => by omega)
  rw [Nat.zero_add] at h1 h2
  refine ⟨h1, fun y => ?_⟩
  rw [h2 y]
  constructor
  · rintro (⟨j, hj, _⟩ | ⟨a, h3, h4, h5⟩)
    · omega
    · exact ⟨a, h4, h5⟩
  · rintro ⟨a, h4, h5⟩
    exact Or.inr ⟨a, by omega, h4, h5⟩
/-- a row that rises comes in as it is -/
theorem z_bld_rise {v f : Nat → Int} {c : Nat} (hv : ZRise v c) : ZAgr (z_bld v f 0 c) v c := by
  obtain ⟨h1, h2⟩ := z_bld_all (f := f) (fun a b h3 h4 e => by have := hv a b h3 h4; omega : ∀ a b, a < b → b < c → v a ≠ v b)
  exact z_rise_uniq h1 hv h2
theorem z_opn_spec (v : Nat → Int) (p : Int) : ∀ (n m i : Nat) (f : Nat → Int), ZRise f m → (∀ a b, i ≤ a → a < b → b < i + n → v a ≠ v b) → (∀ a, i ≤ a → a < i + n → ¬ ZMem f m (v a)) → ZRise (z_opn v p f m i n).1 (z_opn v p f m i n).2 ∧ (∀ y, ZMem (z_opn v p f m i n).1 (z_opn v p f m i n).2 y ↔ (ZMem f m y ∨ ∃ a, i ≤ a ∧ a < i + n ∧ v a ≤ p ∧ v a = y))
  | 0, m, i, f, hf, _, _ => by
    unfold z_opn
    refine ⟨hf, fun y => ⟨fun h => Or.inl h, ?_⟩⟩
    rintro (h | ⟨a, h1, h2, _⟩)
    · exact h
    · omega
  | n + 1, m, i, f, hf, hd, hn => by
    unfold z_opn
    by_cases hp : v i ≤ p
    · rw [if_pos hp]
      obtain ⟨a1, a2, a3⟩ := z_ins_spec (v i) m f hf (hn i (by omega) (by omega))
      obtain ⟨b1, b2⟩ := z_opn_spec v p n (m + 1) (i + 1) (z_ins (v i) f m) a1 (fun a b h1 h2 h3 => hd a b (by omega) h2 (by omega)) (fun a h1 h2 hm => by
        rcases (a2 _).1 hm with h3 | h3
        · exact hd i a (by omega) (by omega) (by omega) h3.symm
        · exact hn a (by omega) (by omega) h3)
      refine ⟨b1, fun y => ?_⟩
      rw [b2 y, a2 y]
      constructor
      · rintro ((h | h) | ⟨a, h1, h2, h3⟩)
        · exact Or.inr ⟨i, by omega, by omega, hp, h.symm⟩
        · exact Or.inl h
        · exact Or.inr ⟨a, by omega, by omega, h3⟩
      · rintro (h | ⟨a, h1, h2, h3, h4⟩)
        · exact Or.inl (Or.inr h)
        · by_cases hai : a = i
          · subst hai; exact Or.inl (Or.inl h4.symm)
          · exact Or.inr ⟨a, by omega, by omega, h3, h4⟩
    · rw [if_neg hp]
      obtain ⟨b1, b2⟩ := z_opn_spec v p n m (i + 1) f hf (fun a b h1 h2 h3 => hd a b (by omega) h2 (by omega)) (fun a h1 h2 => hn a (by omega) (by omega))
      refine ⟨b1, fun y => ?_⟩
      rw [b2 y]
      constructor
      · rintro (h | ⟨a, h1, h2, h3⟩)
        · exact Or.inl h
        · exact Or.inr ⟨a, by omega, by omega, h3⟩
      · rintro (h | ⟨a, h1, h2, h3, h4⟩)
        · exact Or.inl h
        · by_cases hai : a = i
          · subst hai; exact absurd h3 hp
          · exact Or.inr ⟨a, by omega, by omega, h3, h4⟩
/-! which row is first -/
theorem z_bef_cong {f g f' g' : Nat → Int} : ∀ (n i : Nat), (∀ j, i ≤ j → j < i + n → f j = f' j) → (∀ j, i ≤ j → j < i + n → g j = g' j) → z_bef f g n i = z_bef f' g' n i
  | 0, i, _, _ => rfl
  | n + 1, i, h1, h2 => by
    unfold z_bef
    rw [h1 i (by omega) (by omega), h2 i (by omega) (by omega), z_bef_cong n (i + 1) (fun j a b => h1 j (by omega) (by omega)) (fun j a b => h2 j (by omega) (by omega))]
theorem z_bef_irr {f g : Nat → Int} : ∀ (n i : Nat), (∀ j, i ≤ j → j < i + n → f j = g j) → z_bef f g n i = false
  | 0, i, _ => rfl
  | n + 1, i, h => by
    unfold z_bef
    rw [if_pos (h i (by omega) (by omega))]
    exact z_bef_irr n (i + 1) (fun j a b => h j (by omega) (by omega))
theorem z_bef_tri {f g : Nat → Int} : ∀ (n i : Nat), z_bef f g n i = false → z_bef g f n i = false → ∀ j, i ≤ j → j < i + n → f j = g j
  | 0, i, _, _ => fun j a b => by omega
  | n + 1, i, h1, h2 => by
    unfold z_bef at h1 h2
    by_cases h : f i = g i
    · rw [if_pos h] at h1
      rw [if_pos h.symm] at h2
      intro j a b
      by_cases hj : j = i
      · rw [hj]; exact h
      · exact z_bef_tri n (i + 1) h1 h2 j (by omega) (by omega)
    · rw [if_neg h] at h1
      rw [if_neg (fun e => h e.symm)] at h2
      have h3 := of_decide_eq_false h1
      have h4 := of_decide_eq_false h2
      omega
theorem z_bef_asym {f g : Nat → Int} : ∀ (n i : Nat), z_bef f g n i = true → z_bef g f n i = false
  | 0, i, h => rfl
  | n + 1, i, h1 => by
    unfold z_bef at h1 ⊢
    by_cases h : f i = g i
    · rw [if_pos h] at h1
      rw [if_pos h.symm]
      exact z_bef_asym n (i + 1) h1
    · rw [if_neg h] at h1
      rw [if_neg (fun e => h e.symm)]
      have h3 := of_decide_eq_true h1
      exact decide_eq_false (by omega)
theorem z_bef_trans {f g e : Nat → Int} : ∀ (n i : Nat), z_bef f g n i = true → z_bef g e n i = true → z_bef f e n i = true
  | 0, i, h, _ => h
  | n + 1, i, h1, h2 => by
    unfold z_bef at h1 h2 ⊢
    by_cases h : f i = g i
    · rw [if_pos h] at h1
      rw [h]
      by_cases h3 : g i = e i
      · rw [if_pos h3] at h2 ⊢
        exact z_bef_trans n (i + 1) h1 h2
      · rw [if_neg h3] at h2 ⊢
        exact h2
    · rw [if_neg h] at h1
      have a1 := of_decide_eq_true h1
      by_cases h3 : g i = e i
      · rw [← h3, if_neg h]
        exact h1
      · rw [if_neg h3] at h2
        have a2 := of_decide_eq_true h2
        rw [if_neg (by omega)]
        exact decide_eq_true (by omega)
