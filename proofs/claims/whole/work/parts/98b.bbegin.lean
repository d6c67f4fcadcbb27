/-! BEGINNINGS: the class's constructor -/
section ZBegin2
variable {d sl nx q n m pc a b t : Nat} {T : Nat → Nat × Nat} {G : Nat → Nat → Option Nat} {F I : Nat → Nat → Int} {L : Nat → Nat → Int64} {R : Nat → Nat → Option Nat} {Q : Option ZV → ZH → Prop} {x : Int} {ls : ZL} {st : List ZV} {r : Option Nat}
theorem zi_new {i : Nat} (ht : z_tb m pc = some (.new i, a, b, t, n)) (hN : ∀ j, G nx j = none ∧ F nx j = 0 ∧ I nx j = 0 ∧ L nx j = 0 ∧ R nx j = none) (K : ZW d m n ls (.inr (.inr (some nx)) :: st) ((z_up T nx (1, a), G, nx + 1, sl + b), F, I, L, R) Q) : ZW d m pc ls st ((T, G, nx, sl), F, I, L, R) Q := by
  refine zw_go ht rfl rfl ?_
  rw [z_born1 (fun j => (hN j).1) (fun j => (hN j).2.1) (fun j => (hN j).2.2.1) (fun j => (hN j).2.2.2.1) (fun j => (hN j).2.2.2.2)]
  exact K
theorem zi_anewa {i : Nat} (ht : z_tb m pc = some (.anewarray i, a, b, t, n)) (h0 : 0 ≤ x) (h1 : x ≤ 65536) (hN : ∀ j, G nx j = none ∧ F nx j = 0 ∧ I nx j = 0 ∧ L nx j = 0 ∧ R nx j = none) (K : ZW d m n ls (.inr (.inr (some nx)) :: st) ((z_up T nx (a, x.toNat), G, nx + 1, sl + x.toNat), F, I, L, R) Q) : ZW d m pc ls (.inl x :: st) ((T, G, nx, sl), F, I, L, R) Q := by
  refine zw_anewa ht h0 h1 ?_
  rw [z_born1 (fun j => (hN j).1) (fun j => (hN j).2.1) (fun j => (hN j).2.2.1) (fun j => (hN j).2.2.2.1) (fun j => (hN j).2.2.2.2)]
  exact K
set_option maxHeartbeats 4000000 in
set_option maxRecDepth 10000 in
theorem c_Binit (hT : T 2 = (1, 11)) (hT1 : T 1 = (2, 8)) (hF0 : ∀ a j, F a j = 0) (hN : ZNo 3 G F I L R) (K : ∀ T' G' sl' F' R', ZBk (T', G', 79, sl') → T' 0 = T 0 → ZBr R' → (∀ a j, F' a j = 0) → (∀ a j, a ≠ 3 → a ≠ 4 → R' a j = R a j) → sl' ≤ sl + 10000 → (∀ a j, 79 ≤ a → G' a j = none) → Q none ((T', G', 79, sl'), F', I, L, R')) : ZC (d + 5) 87 [.inr (.inr (some 2))] ((T, G, 3, sl), F, I, L, R) Q := by
  refine ze_B_init ?_
  repeat (first | refine zi_new rfl (fun j => hN _ j (by decide)) ?_ | refine zw_t rfl rfl ?_ | refine zi_newa rfl (by decide) (by decide) (fun j => hN _ j (by decide)) ?_ | refine zi_anewa rfl (by decide) (by decide) (fun j => hN _ j (by decide)) ?_ | refine zi_putR rfl rfl ?_ | refine zi_putR rfl hT ?_ | refine zw_putI rfl hT ?_ | refine zw_getR rfl hT rfl ?_ | refine zw_aast rfl rfl rfl rfl rfl (by decide) (by decide) ?_ | refine zw_iinc rfl rfl rfl (by decide) (by decide) ?_ | refine zw_icmp_ge_f rfl (by decide) ?_ | refine zw_icmp_ge_t rfl (by decide) ?_ | refine zw_goto rfl ?_ | (refine zw_calli rfl rfl rfl rfl rfl rfl ?_; first | refine ze_Ruler_init ?_ | refine ze_Stick_init ?_ | refine ze_Lengths_init ?_ | refine ze_Forms_init ?_ | refine ze_CaseCount_init ?_ | refine ze_Field_init ?_ | refine ze_Found_init ?_ | refine ze_SparseSearch_init ?_ | refine ze_LeanSearch_init ?_ | refine ze_RingSearch_init ?_ | refine ze_GangSearch_init ?_) | refine zw_vret rfl ?_)
  refine K _ _ _ _ _ ⟨⟨hT, rfl, rfl, rfl, rfl, rfl, rfl, rfl, rfl, rfl, rfl, rfl, rfl, rfl⟩, ⟨⟨by decide, rfl, rfl, rfl⟩, ⟨by decide, rfl, rfl, rfl⟩, ⟨rfl, rfl, rfl, rfl, rfl, ⟨by decide, rfl, rfl, rfl⟩, ⟨by decide, rfl, rfl, rfl⟩, by decide⟩⟩, ⟨rfl, rfl, rfl, rfl, rfl⟩, ⟨rfl, rfl, rfl, rfl, rfl, rfl, rfl⟩, fun i hi => ?_, fun i hi => ?_, ⟨rfl, rfl, rfl⟩, ⟨rfl, rfl, rfl, rfl⟩, ⟨rfl, rfl, rfl, rfl⟩, ⟨rfl, rfl, rfl, rfl, rfl, ⟨by decide, rfl, rfl, rfl⟩, rfl⟩, ⟨rfl, rfl, rfl, rfl, rfl, rfl⟩, hT1⟩ rfl ⟨fun i hi => ?_, fun i hi => ?_⟩ (fun a j => ?_) (fun a j h3 h4 => ?_) ?_ (fun a j ha => ?_)
  · have c : i = 0 ∨ i = 1 ∨ i = 2 ∨ i = 3 ∨ i = 4 ∨ i = 5 := by omega
    rcases c with rfl | rfl | rfl | rfl | rfl | rfl <;> exact ⟨by decide, rfl, rfl, rfl⟩
  · have c : i = 0 ∨ i = 1 ∨ i = 2 ∨ i = 3 ∨ i = 4 ∨ i = 5 ∨ i = 6 ∨ i = 7 ∨ i = 8 ∨ i = 9 ∨ i = 10 ∨ i = 11 ∨ i = 12 ∨ i = 13 ∨ i = 14 ∨ i = 15 := by omega
    rcases c with rfl | rfl | rfl | rfl | rfl | rfl | rfl | rfl | rfl | rfl | rfl | rfl | rfl | rfl | rfl | rfl <;> exact ⟨by decide, rfl, rfl, rfl⟩
  · have c : i = 0 ∨ i = 1 ∨ i = 2 ∨ i = 3 ∨ i = 4 ∨ i = 5 := by omega
    rcases c with rfl | rfl | rfl | rfl | rfl | rfl <;> rfl
  · have c : i = 0 ∨ i = 1 ∨ i = 2 ∨ i = 3 ∨ i = 4 ∨ i = 5 ∨ i = 6 ∨ i = 7 ∨ i = 8 ∨ i = 9 ∨ i = 10 ∨ i = 11 ∨ i = 12 ∨ i = 13 ∨ i = 14 ∨ i = 15 := by omega
    rcases c with rfl | rfl | rfl | rfl | rfl | rfl | rfl | rfl | rfl | rfl | rfl | rfl | rfl | rfl | rfl | rfl <;> rfl
  · unfold z_u2
    split
    · rfl
    · exact hF0 _ _
  · repeat rw [z_u2_na _ _ _ _ (by omega)]
  · omega
  · repeat rw [z_u2_na _ _ _ _ (by omega)]
    exact (hN a j (by omega)).1
end ZBegin2
