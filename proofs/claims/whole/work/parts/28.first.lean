/-! FORMS of rings: the first of all moved multiples -/
def ZWin (v : Nat → Int) (c : Nat) (rd : Int) : Prop := ∀ j, j < c → 0 ≤ v j ∧ v j < rd
theorem z_far_mod {v : Nat → Int} {rd : Int} {s j : Nat} (h1 : 0 ≤ v j ∧ v j < rd) (h2 : 0 ≤ v s ∧ v s < rd) : z_far v s rd j = (v j - v s) % rd := by
  unfold z_far
  split
  · rw [← Int.emod_eq_of_lt (show 0 ≤ v j - v s + rd by omega) (show v j - v s + rd < rd by omega), Int.add_emod_right]
  · rw [Int.emod_eq_of_lt (by omega) (by omega)]
theorem z_mov_rise {v : Nat → Int} {c s : Nat} {rd : Int} (hv : ZRise v c) (hw : ZWin v c rd) (hs : s < c) : ZRise (z_mov v c rd s) c := by
  intro i j hij hj
  have b0 := hw s hs
  unfold z_mov z_far
  by_cases h1 : s + j < c
  · rw [if_pos h1, if_pos (show s + i < c by omega)]
    have a1 := hv.le (show s ≤ s + i by omega) (by omega)
    have a2 := hv (s + i) (s + j) (by omega) h1
    rw [if_neg (by omega), if_neg (by omega)]
    omega
  · rw [if_neg h1]
    have b1 := hw (s + j - c) (by omega)
    have a1 := hv (s + j - c) s (by omega) hs
    rw [if_pos (show v (s + j - c) - v s < 0 by omega)]
    by_cases h2 : s + i < c
    · rw [if_pos h2]
      have a2 := hv.le (show s ≤ s + i by omega) (by omega)
      have b2 := hw (s + i) h2
      rw [if_neg (by omega)]
      omega
    · rw [if_neg h2]
      have a2 := hv (s + i - c) s (by omega) hs
      have a3 := hv (s + i - c) (s + j - c) (by omega) (by omega)
      rw [if_pos (by omega)]
      omega
theorem z_mov_mem {v : Nat → Int} {c s : Nat} {rd : Int} (hw : ZWin v c rd) (hs : s < c) (y : Int) : ZMem (z_mov v c rd s) c y ↔ ∃ j, j < c ∧ (v j - v s) % rd = y := by
  constructor
  · rintro ⟨i, hi, e⟩
    unfold z_mov at e
    by_cases h : s + i < c
    · rw [if_pos h, z_far_mod (hw _ h) (hw s hs)] at e
      exact ⟨s + i, h, e⟩
    · rw [if_neg h, z_far_mod (hw _ (by omega)) (hw s hs)] at e
      exact ⟨s + i - c, by omega, e⟩
  · rintro ⟨j, hj, e⟩
    by_cases h : s ≤ j
    · refine ⟨j - s, by omega, ?_⟩
      unfold z_mov
      rw [if_pos (by omega), show s + (j - s) = j by omega, z_far_mod (hw j hj) (hw s hs)]
      exact e
    · refine ⟨j + c - s, by omega, ?_⟩
      unfold z_mov
      rw [if_neg (by omega), show s + (j + c - s) - c = j by omega, z_far_mod (hw j hj) (hw s hs)]
      exact e
/-- a row that is the ring w times a, with its mark i moved to 0 -/
def ZCan (w : Nat → Int) (c : Nat) (rd : Int) (a : Int) (h : Nat → Int) : Prop := ∃ i, i < c ∧ ZRise h c ∧ ∀ y, ZMem h c y ↔ ∃ j, j < c ∧ (a * (w j - w i)) % rd = y
theorem ZCan.agr {w : Nat → Int} {c : Nat} {rd a : Int} {h h' : Nat → Int} (hc : ZCan w c rd a h) (e : ZAgr h h' c) : ZCan w c rd a h' := by
  obtain ⟨i, hi, h1, h2⟩ := hc
  refine ⟨i, hi, e.rise h1, fun y => ?_⟩
  rw [← e.mem y]
  exact h2 y
theorem ZCan.win {w : Nat → Int} {c : Nat} {rd a : Int} {h : Nat → Int} (hc : ZCan w c rd a h) (hrd : 0 < rd) : ZWin h c rd := by
  obtain ⟨i, hi, h1, h2⟩ := hc
  intro j hj
  obtain ⟨j', hj', e⟩ := (h2 (h j)).1 ⟨j, hj, rfl⟩
  rw [← e]
  exact ⟨Int.emod_nonneg _ (by omega), Int.emod_lt_of_pos _ hrd⟩
/-- times a unit, unlike rests stay unlike -/
theorem z_unit_inj {a rd : Nat} {x y : Int} (hg : Nat.gcd a rd = 1) (hx : 0 ≤ x ∧ x < rd) (hy : 0 ≤ y ∧ y < rd) (e : x * a % rd = y * a % rd) : x = y := by
  have h1 : ((rd : Int)) ∣ (x * a - y * a) := Int.dvd_of_emod_eq_zero (Int.emod_eq_emod_iff_emod_sub_eq_zero.1 e)
  rw [← Int.sub_mul] at h1
  have h2 : (rd : Int) ∣ (x - y) := by
    have hcop : Nat.Coprime rd a := by rw [Nat.coprime_iff_gcd_eq_one, Nat.gcd_comm]; exact hg
    have h3 := Int.natAbs_dvd_natAbs.2 h1
    rw [Int.natAbs_mul, Int.natAbs_natCast, Int.natAbs_natCast] at h3
    have h4 := hcop.dvd_of_dvd_mul_right h3
    exact Int.natAbs_dvd_natAbs.1 (by rw [Int.natAbs_natCast]; exact h4)
  obtain ⟨q, hq⟩ := h2
  have h3 : q = 0 := by
    by_cases hq1 : 1 ≤ q
    · have : (rd : Int) * 1 ≤ rd * q := Int.mul_le_mul_of_nonneg_left hq1 (by omega)
      omega
    · by_cases hq2 : q ≤ -1
      · have : (rd : Int) * q ≤ rd * (-1) := Int.mul_le_mul_of_nonneg_left hq2 (by omega)
        omega
      · omega
  rw [h3] at hq
  omega
theorem z_low_spec {v : Nat → Int} {c : Nat} {rd : Int} (hc : 0 < c) (hv : ZRise v c) (hw : ZWin v c rd) : ∀ (n s : Nat) (g : Nat → Int) (b : Int), s + n ≤ c → (∀ t, s ≤ t → t < s + n → z_bef (z_mov v c rd t) (z_low v c rd g b s n).1 (c - 1) 1 = false) ∧ (((z_low v c rd g b s n).1 = g ∧ (z_low v c rd g b s n).2 = b) ∨ ((z_low v c rd g b s n).2 = 1 ∧ z_bef (z_low v c rd g b s n).1 g (c - 1) 1 = true ∧ ∃ t, s ≤ t ∧ t < s + n ∧ ZAgr (z_low v c rd g b s n).1 (z_mov v c rd t) c))
  | 0, s, g, b, _ => ⟨fun t h1 h2 => by omega, Or.inl ⟨rfl, rfl⟩⟩
  | n + 1, s, g, b, hsn => by
    unfold z_low
    by_cases h : z_bef (z_mov v c rd s) g (c - 1) 1 = true
    · rw [if_pos h]
      have ea : ZAgr (z_bld (z_mov v c rd s) g 0 c) (z_mov v c rd s) c := z_bld_rise (z_mov_rise hv hw (by omega))
      have e1 : z_bef (z_bld (z_mov v c rd s) g 0 c) g (c - 1) 1 = true := by
        rw [← h]
        exact z_bef_cong _ _ (fun j h1 h2 => ea j (by omega)) (fun j h1 h2 => rfl)
      obtain ⟨a1, a2⟩ := z_low_spec hc hv hw n (s + 1) (z_bld (z_mov v c rd s) g 0 c) 1 (by omega)
      refine ⟨fun t h1 h2 => ?_, Or.inr ?_⟩
      · by_cases ht : t = s
        · subst ht
          rcases a2 with ⟨e2, e3⟩ | ⟨e2, e3, e4⟩
          · rw [e2]
            exact z_bef_irr _ _ (fun j h1 h2 => (ea j (by omega)).symm)
          · have e5 : z_bef (z_low v c rd (z_bld (z_mov v c rd t) g 0 c) 1 (t + 1) n).1 (z_mov v c rd t) (c - 1) 1 = true := by
              rw [← e3]
              exact z_bef_cong _ _ (fun j h1 h2 => rfl) (fun j h1 h2 => (ea j (by omega)).symm)
            exact z_bef_asym _ _ e5
        · exact a1 t (by omega) (by omega)
      · rcases a2 with ⟨e2, e3⟩ | ⟨e2, e3, t, e4, e5, e6⟩
        · refine ⟨e3, by rw [e2]; exact e1, s, by omega, by omega, by rw [e2]; exact ea⟩
        · exact ⟨e2, z_bef_trans _ _ e3 e1, t, by omega, by omega, e6⟩
    · rw [if_neg h]
      have h0 : z_bef (z_mov v c rd s) g (c - 1) 1 = false := by simpa using h
      obtain ⟨a1, a2⟩ := z_low_spec hc hv hw n (s + 1) g b (by omega)
      refine ⟨fun t h1 h2 => ?_, ?_⟩
      · by_cases ht : t = s
        · subst ht
          rcases a2 with ⟨e2, e3⟩ | ⟨e2, e3, e4⟩
          · rw [e2]; exact h0
          · cases e5 : z_bef (z_mov v c rd t) (z_low v c rd g b (t + 1) n).1 (c - 1) 1 with
            | false => rfl
            | true => rw [z_bef_trans _ _ e5 e3] at h0; exact h0
        · exact a1 t (by omega) (by omega)
      · rcases a2 with e2 | ⟨e2, e3, t, e4, e5, e6⟩
        · exact Or.inl e2
        · exact Or.inr ⟨e2, e3, t, by omega, by omega, e6⟩
/-- the moved ones of the sorted multiple are the candidates -/
theorem z_can_mov {w v : Nat → Int} {c : Nat} {rd : Int} {a : Int} (hv : ZRise v c) (hw : ZWin v c rd) (hm : ∀ y, ZMem v c y ↔ ∃ j, j < c ∧ w j * a % rd = y) : (∀ t, t < c → ZCan w c rd a (z_mov v c rd t)) ∧ (∀ h, ZCan w c rd a h → ∃ t, t < c ∧ ZAgr h (z_mov v c rd t) c) := by
  have key : ∀ t i, t < c → i < c → w i * a % rd = v t → ∀ y, ZMem (z_mov v c rd t) c y ↔ ∃ j, j < c ∧ (a * (w j - w i)) % rd = y := by
    intro t i ht hi e y
    have e2 : ∀ j x, w j * a % rd = x → (a * (w j - w i)) % rd = (x - v t) % rd := by
      intro j x h
      rw [← h, ← e, ← Int.sub_emod, Int.mul_comm a, Int.sub_mul]
    rw [z_mov_mem hw ht y]
    constructor
    · rintro ⟨j, hj, e3⟩
      obtain ⟨j', hj', e4⟩ := (hm (v j)).1 ⟨j, hj, rfl⟩
      exact ⟨j', hj', by rw [e2 j' _ e4]; exact e3⟩
    · rintro ⟨j, hj, e3⟩
      obtain ⟨j', hj', e4⟩ := (hm (w j * a % rd)).2 ⟨j, hj, rfl⟩
      exact ⟨j', hj', by rw [e4, ← e2 j _ rfl]; exact e3⟩
  refine ⟨fun t ht => ?_, fun h hc => ?_⟩
  · obtain ⟨i, hi, e⟩ := (hm (v t)).1 ⟨t, ht, rfl⟩
    exact ⟨i, hi, z_mov_rise hv hw ht, key t i ht hi e⟩
  · obtain ⟨i, hi, h1, h2⟩ := hc
    obtain ⟨t, ht, e⟩ := (hm (w i * a % rd)).2 ⟨i, hi, rfl⟩
    refine ⟨t, ht, z_rise_uniq h1 (z_mov_rise hv hw ht) (fun y => ?_)⟩
    rw [h2 y, key t i ht hi e.symm y]
/-- what a unit's turn leaves of the first row -/
def ZLow (w : Nat → Int) (c : Nat) (rd : Int) (a : Int) (g g' : Nat → Int) (b : Int) : Prop :=
  (∀ h, ZCan w c rd a h → z_bef h g' (c - 1) 1 = false) ∧ ((b = 0 ∧ g' = g) ∨ (b = 1 ∧ z_bef g' g (c - 1) 1 = true ∧ ZCan w c rd a g'))
theorem z_low_can {w im g : Nat → Int} {c a rd : Nat} (hc : 0 < c) (hrd : 0 < rd) (hw : ZRise w c) (hww : ZWin w c rd) (hg : Nat.gcd a rd = 1) :
    ZLow w c rd a g (z_low (z_bld (fun j => w j * (a : Int) % (rd : Int)) im 0 c) c rd g 0 0 c).1 (z_low (z_bld (fun j => w j * (a : Int) % (rd : Int)) im 0 c) c rd g 0 0 c).2 := by
  obtain ⟨h1, h2⟩ := z_bld_all (v := fun j => w j * (a : Int) % (rd : Int)) (f := im) (c := c) (fun i j hi hj e => by
    have := z_unit_inj hg (hww i (by omega)) (hww j hj) e
    have := hw i j hi hj
    omega)
  have h3 : ∀ y, ZMem (z_bld (fun j => w j * (a : Int) % (rd : Int)) im 0 c) c y ↔ ∃ j, j < c ∧ w j * (a : Int) % (rd : Int) = y := h2
  have h4 : ZWin (z_bld (fun j => w j * (a : Int) % (rd : Int)) im 0 c) c rd := fun j hj => by
    obtain ⟨j', hj', e⟩ := (h3 _).1 ⟨j, hj, rfl⟩
    rw [← e]
    exact ⟨Int.emod_nonneg _ (by omega), Int.emod_lt_of_pos _ (by omega)⟩
  obtain ⟨m1, m2⟩ := z_can_mov h1 h4 h3
  obtain ⟨l1, l2⟩ := z_low_spec hc h1 h4 c 0 g 0 (by omega)
  refine ⟨fun h hh => ?_, ?_⟩
  · obtain ⟨t, ht, e⟩ := m2 h hh
    rw [← l1 t (by omega) (by omega)]
    exact z_bef_cong _ _ (fun j a b => e j (by omega)) (fun j a b => rfl)
  · rcases l2 with ⟨e1, e2⟩ | ⟨e1, e2, t, e3, e4, e5⟩
    · exact Or.inl ⟨e2, e1⟩
    · exact Or.inr ⟨e1, e2, (m1 t (by omega)).agr e5.symm⟩
