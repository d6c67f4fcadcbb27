/-! BEGINNINGS: new cells in a heap where nothing lies behind the next one -/
theorem z_up_nil {α : Type} {F : Nat → Nat → α} {n : Nat} {v : α} (h : ∀ j, F n j = v) : z_up F n (fun _ => v) = F := by
  funext a j
  unfold z_up
  split
  · rename_i e
    rw [e, h j]
  · rfl
theorem z_born1 {T : Nat → Nat × Nat} {G : Nat → Nat → Option Nat} {nx sl w : Nat} {F I : Nat → Nat → Int} {L : Nat → Nat → Int64} {R : Nat → Nat → Option Nat} {kd : Nat × Nat} (hG : ∀ j, G nx j = none) (hF : ∀ j, F nx j = 0) (hI : ∀ j, I nx j = 0) (hL : ∀ j, L nx j = 0) (hR : ∀ j, R nx j = none) : z_born ((T, G, nx, sl), F, I, L, R) kd w = ((z_up T nx kd, G, nx + 1, sl + w), F, I, L, R) := by
  unfold z_born
  dsimp only
  rw [z_up_nil hG, z_up_nil hF, z_up_nil hI, z_up_nil hL, z_up_nil hR]
/-- nothing lies from n on -/
def ZNo (n : Nat) (G : Nat → Nat → Option Nat) (F I : Nat → Nat → Int) (L : Nat → Nat → Int64) (R : Nat → Nat → Option Nat) : Prop := ∀ a j, n ≤ a → G a j = none ∧ F a j = 0 ∧ I a j = 0 ∧ L a j = 0 ∧ R a j = none
section ZBegin1
variable {d sl nx q n m pc a b t : Nat} {T : Nat → Nat × Nat} {G : Nat → Nat → Option Nat} {F I : Nat → Nat → Int} {L : Nat → Nat → Int64} {R : Nat → Nat → Option Nat} {Q : Option ZV → ZH → Prop} {x : Int} {ls : ZL} {st : List ZV} {r : Option Nat}
theorem zi_newa {at' : ArrayType} (ht : z_tb m pc = some (.newarray at', a, b, t, n)) (h0 : 0 ≤ x) (h1 : x ≤ 65536) (hN : ∀ j, G nx j = none ∧ F nx j = 0 ∧ I nx j = 0 ∧ L nx j = 0 ∧ R nx j = none) (K : ZW d m n ls (.inr (.inr (some nx)) :: st) ((z_up T nx (a, x.toNat), G, nx + 1, sl + x.toNat), F, I, L, R) Q) : ZW d m pc ls (.inl x :: st) ((T, G, nx, sl), F, I, L, R) Q := by
  refine zw_newa ht h0 h1 ?_
  rw [z_born1 (fun j => (hN j).1) (fun j => (hN j).2.1) (fun j => (hN j).2.2.1) (fun j => (hN j).2.2.2.1) (fun j => (hN j).2.2.2.2)]
  exact K
theorem zi_putR {i : Nat} (ht : z_tb m pc = some (.putfield i, a, b, 2, n)) (hT : T q = (1, a)) (K : ZW d m n ls st ((T, z_u2 G q b r, nx, sl), F, I, L, R) Q) : ZW d m pc ls (.inr (.inr r) :: .inr (.inr (some q)) :: st) ((T, G, nx, sl), F, I, L, R) Q := zw_putR ht hT K
theorem c_Minit (hT : T 79 = (1, 12)) (hN : ZNo 80 G F I L R) (K : ∀ T' G' sl' I', (∀ a, a < 80 → T' a = T a) → (∀ a, a < 79 → G' a = G a) → (∀ a, a ≠ 81 → I' a = I a) → (∀ j, j < 6 → I' 81 j = -1) → ZMk (T', G', 95, sl') → sl' ≤ sl + 3000 → ZNo 95 G' F I' L R → Q none ((T', G', 95, sl'), F, I', L, R)) : ZC (d + 1) 143 [.inr (.inr (some 79))] ((T, G, 80, sl), F, I, L, R) Q := by
  refine ze_M_init ?_
  repeat (first | refine zw_t rfl rfl ?_ | refine zi_newa rfl (by decide) (by decide) (fun j => hN _ j (by decide)) ?_ | refine zi_putR rfl hT ?_ | refine zw_iast rfl (by decide) rfl (by decide) (by decide) ?_)
  refine zw_vret rfl (K _ _ _ _ (fun a ha => ?_) (fun a ha => ?_) (fun a ha => ?_) (fun j hj => ?_) ⟨⟨hT, rfl, rfl, rfl, rfl, rfl, rfl, rfl⟩, ⟨rfl, rfl, rfl, rfl, rfl, rfl, rfl, rfl⟩, ⟨rfl, rfl, rfl, rfl, rfl, rfl, rfl⟩, ⟨rfl, rfl, rfl, rfl, rfl, rfl, rfl, rfl⟩⟩ ?_ (fun a j ha => ?_))
  · repeat rw [z_up_ne _ _ (by omega)]
  · repeat rw [z_u2_ad _ _ _ (by omega)]
  · repeat rw [z_u2_ad _ _ _ (by omega)]
  · have : j = 0 ∨ j = 1 ∨ j = 2 ∨ j = 3 ∨ j = 4 ∨ j = 5 := by omega
    rcases this with rfl | rfl | rfl | rfl | rfl | rfl <;> rfl
  · omega
  · have q := hN a j (by omega)
    refine ⟨?_, q.2.1, ?_, q.2.2.2.1, q.2.2.2.2⟩
    · repeat rw [z_u2_ad _ _ _ (by omega)]
      exact q.1
    · repeat rw [z_u2_ad _ _ _ (by omega)]
      exact q.2.2.1
end ZBegin1
