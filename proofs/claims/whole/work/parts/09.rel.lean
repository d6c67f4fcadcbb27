/-! THE PURE MACHINE AND THE MACHINE: what stands for what -/
theorem z_bif {α : Type} {c : Bool} {x y : α} (h : (bif c then some x else none) = some y) : c = true ∧ x = y := by cases c <;> simp_all
def z_wf (h : ZH) : Prop := (∀ a j, z_in (h.2.1 a j)) ∧ (∀ a j, z_in (h.2.2.1 a j)) ∧ (∀ a, h.1.2.2.1 ≤ a → (h.1.1 a).1 = 0) ∧ (∀ a, (h.1.1 a).2 ≤ 65536) ∧ 2 ≤ h.1.2.2.1
def z_ok : ZV → Prop
  | .inl x => z_in x
  | _ => True
def z_oks (st : List ZV) : Prop := ∀ v ∈ st, z_ok v
def z_okl (ls : ZL) : Prop := ∀ v, some v ∈ ls → z_ok v
theorem z_oks_cons {v : ZV} {st : List ZV} : z_oks (v :: st) ↔ z_ok v ∧ z_oks st := by
  simp [z_oks]
theorem z_lg_mem : ∀ {ls : ZL} {k : Nat} {v : ZV}, z_lg ls k = some v → some v ∈ ls
  | [], k, v, h => by simp [z_lg] at h
  | o :: l, 0, v, h => by simp [z_lg] at h; simp [h]
  | o :: l, k + 1, v, h => List.mem_cons_of_mem _ (z_lg_mem (ls := l) h)
theorem z_ls_mem : ∀ {ls : ZL} {k : Nat} {w : Option ZV} {v : ZV}, some v ∈ z_ls ls k w → some v = w ∨ some v ∈ ls
  | [], k, w, v, h => by simp [z_ls] at h
  | o :: l, 0, w, v, h => by
    simp only [z_ls, List.mem_cons] at h
    rcases h with h | h
    · exact Or.inl h
    · exact Or.inr (List.mem_cons_of_mem _ h)
  | o :: l, k + 1, w, v, h => by
    simp only [z_ls, List.mem_cons] at h
    rcases h with h | h
    · exact Or.inr (by simp [h])
    · rcases z_ls_mem h with h | h
      · exact Or.inl h
      · exact Or.inr (List.mem_cons_of_mem _ h)
theorem z_ls_len : ∀ (ls : ZL) (k : Nat) (w : Option ZV), (z_ls ls k w).length = ls.length
  | [], k, w => rfl
  | o :: l, 0, w => rfl
  | o :: l, k + 1, w => by simp [z_ls, z_ls_len l k w]
theorem z_lg_ls : ∀ (ls : ZL) (k : Nat) (w : Option ZV) (j : Nat), z_lg (z_ls ls k w) j = if j = k ∧ k < ls.length then w else z_lg ls j
  | [], k, w, j => by simp [z_ls, z_lg]
  | o :: l, 0, w, 0 => by simp [z_ls, z_lg]
  | o :: l, 0, w, j + 1 => by simp [z_ls, z_lg]
  | o :: l, k + 1, w, 0 => by simp [z_ls, z_lg]
  | o :: l, k + 1, w, j + 1 => by simp [z_ls, z_lg, z_lg_ls l k w j]
theorem z_lg_lt : ∀ {ls : ZL} {k : Nat} {v : ZV}, z_lg ls k = some v → k < ls.length
  | [], k, v, h => by simp [z_lg] at h
  | o :: l, 0, v, h => by simp
  | o :: l, k + 1, v, h => by simp; exact z_lg_lt (ls := l) h
theorem z_okl_ls {ls : ZL} {k : Nat} {w : Option ZV} (h : z_okl ls) (hw : ∀ v, some v = w → z_ok v) : z_okl (z_ls ls k w) := fun v hv => by
  rcases z_ls_mem hv with h1 | h1
  · exact hw v h1
  · exact h v h1
/-- what a step leaves: good heaps and numbers, no cell lost -/
def ZPR (h : ZH) (r : ZR) : Prop := z_wf r.2.2.2 ∧ z_okl r.2.1 ∧ z_oks r.2.2.1 ∧ h.1.2.2.1 ≤ r.2.2.2.1.2.2.1 ∧ h.1.2.2.2 ≤ r.2.2.2.1.2.2.2
theorem zpr_st {h : ZH} {ls : ZL} {st' : List ZV} {n : Nat} (hw : z_wf h) (hl : z_okl ls) (hs : z_oks st') : ZPR h (n, ls, st', h) := ⟨hw, hl, hs, Nat.le_refl _, Nat.le_refl _⟩
/-- script, primes; the heap at the law's start; classes; array classes; what script and primes hold -/
abbrev ZS : Type := Nat × Nat × Heap × va_G × (Nat → ClassId) × (Nat → Nat × (Nat → Int))
abbrev z_H0 (σ : ZS) : Heap := σ.2.2.1
abbrev z_D (σ : ZS) : va_G := σ.2.2.2.1
abbrev z_cA (σ : ZS) : Nat → ClassId := σ.2.2.2.2.1
abbrev z_F0 (σ : ZS) : Nat → Nat × (Nat → Int) := σ.2.2.2.2.2
def z_ad (σ : ZS) (a : Nat) : Nat := if a = 0 then σ.1 else if a = 1 then σ.2.1 else (z_H0 σ).size + (a - 2)
def z_rv (σ : ZS) : ZV → Value
  | .inl x => .int (Int32.ofInt x)
  | .inr (.inl x) => .long x
  | .inr (.inr r) => va_rf (r.map (z_ad σ))
def z_et : Nat → FieldType
  | 2 => .int
  | 3 => .long
  | 4 => .object "RulerBench$Stick"
  | 5 => .object "RulerBench$Ruler"
  | _ => .array .long
def z_fv (σ : ZS) (h : ZH) (a c j : Nat) : Value := bif Nat.beq (z_ft (z_ty c j)) 2 then va_rf ((h.1.2.1 a j).map (z_ad σ)) else .int (Int32.ofInt (h.2.1 a j))
def z_cell (σ : ZS) (h : ZH) (a : Nat) (H : Heap) : Prop := match h.1.1 a with
  | (1, c) => c < 13 ∧ t_OB (z_ad σ a) ((z_D σ).1 c) (z_N c) ((z_D σ).2 c) H (z_fv σ h a c)
  | (2, n) => H[z_ad σ a]? = some (arrV (z_cA σ 2) n (fun j => .int (Int32.ofInt (h.2.2.1 a j))))
  | (3, n) => H[z_ad σ a]? = some (arrV (z_cA σ 3) n (fun j => .long (h.2.2.2.1 a j)))
  | (t, n) => 4 ≤ t ∧ t ≤ 6 ∧ H[z_ad σ a]? = some (arrV (z_cA σ t) n (fun j => va_rf ((h.2.2.2.2 a j).map (z_ad σ))))
def z_fz (σ : ZS) (h : ZH) : Prop := ∀ a, a < 2 → h.1.1 a = (2, (z_F0 σ a).1) ∧ h.2.2.1 a = (z_F0 σ a).2
def ZP (σ : ZS) (h : ZH) (H : Heap) : Prop := H.size + 2 = (z_H0 σ).size + h.1.2.2.1 ∧ (∀ q, q < (z_H0 σ).size → H[q]? = (z_H0 σ)[q]?) ∧ (∀ a, 2 ≤ a → a < h.1.2.2.1 → z_cell σ h a H) ∧ z_fz σ h
/-- an int array that nobody writes -/
def z_X (b N : Nat) (f : Nat → Int32) (U : State) (H : Heap) : Prop := ∃ scr : Cell, H[b]? = some scr ∧ U.isArrayOf scr .int ∧ scr.vm ≠ .unknown ∧ N ≤ scr.slots.size ∧ scr.slots.size.toInt32 = Int32.ofNat N ∧ ∀ j : Nat, j < N → scr.slots[j]? = some (.int (f j))
theorem z_X.moved {b N : Nat} {f : Nat → Int32} {u U : State} {H : Heap} (hvm : u.vm.Alike U.vm) (h : z_X b N f u H) : z_X b N f U H := by
  obtain ⟨scr, h1, h2, h3⟩ := h
  exact ⟨scr, h1, State.isArrayOf_alike hvm h2, h3⟩
def ZU (σ : ZS) (U : State) : Prop := (∀ c, c < 13 → u_Kn U (z_R c) (z_T c) (z_N c) ((z_D σ).1 c) ((z_D σ).2 c)) ∧ (∀ t, 2 ≤ t → t ≤ 6 → ArrOfT U (z_cA σ t) (z_et t) ∧ va_RA U (z_cA σ t) (z_et t)) ∧ (∀ q ∈ z_FN, va_Nw (z_wFN q.1 q.2.1 q.2.2.1 q.2.2.2.1) U) ∧ (∀ q ∈ z_MN, va_Nw (z_wMN q.1 q.2.1 q.2.2.1) U) ∧ va_AO "RulerBench$Stick" U ∧ va_AO "RulerBench$Ruler" U ∧ (Cond.arrayOver (.array .long)).before #[] U = true ∧ va_Nw (.castable "[J" "java/lang/Cloneable") U ∧ va_Z "RulerBench" "PRIMES" "[I" (.ref σ.2.1) (fun q => (z_H0 σ).size ≤ q) U (z_H0 σ) ∧ ∀ a, a < 2 → z_ad σ a < (z_H0 σ).size ∧ z_X (z_ad σ a) (z_F0 σ a).1 (fun j => Int32.ofInt ((z_F0 σ a).2 j)) U (z_H0 σ)
def ZX (σ : ZS) (M : Nat) (p : Program) (s : State) (m : MethodId) (args : Array Value) (meth : Method) (c : Code) : Prop := p.tables.exec = Jvm.exec ∧ c.code = z_b M ∧ meth.sig.returnType = z_rt M ∧ c.maxLocals = z_ml M ∧ s.vm.findClass (z_R (z_cl M)) = some m.cls ∧ (∀ w ∈ z_gw, w.before args s = true) ∧ meth.locks = false ∧ ((z_y M).name = "<init>" → meth.name = "<init>") ∧ ZU σ s
/-- the locals by number and value -/
def z_lvl (σ : ZS) (ls : ZL) : List (Nat × Value) := (List.range ls.length).filterMap (fun k => (z_lg ls k).map (fun v => (k, z_rv σ v)))
theorem z_lvl_mem {σ : ZS} {ls : ZL} {q : Nat × Value} : q ∈ z_lvl σ ls ↔ ∃ v, z_lg ls q.1 = some v ∧ q.2 = z_rv σ v := by
  unfold z_lvl
  simp only [List.mem_filterMap, List.mem_range, Option.map_eq_some_iff]
  constructor
  · rintro ⟨k, hk, v, h1, rfl⟩
    exact ⟨v, h1, rfl⟩
  · rintro ⟨v, h1, h2⟩
    exact ⟨q.1, z_lg_lt h1, v, h1, by rw [← h2]⟩
def z_lok (σ : ZS) (n : Nat) (ls : ZL) (rls : Array Slot) : Prop := ls.length = n ∧ lv_has rls n (z_lvl σ ls)
theorem z_lok.at {σ : ZS} {n : Nat} {ls : ZL} {rls : Array Slot} (h : z_lok σ n ls rls) {k : Nat} {v : ZV} (hv : z_lg ls k = some v) : rls[k]? = some (.val (z_rv σ v)) := h.2.2.2 (k, z_rv σ v) (z_lvl_mem.mpr ⟨v, hv, rfl⟩)
theorem z_cat_rv (σ : ZS) (v : ZV) : (z_rv σ v).category = z_cat v := by
  match v with
  | .inl x => rfl
  | .inr (.inl x) => rfl
  | .inr (.inr none) => rfl
  | .inr (.inr (some x)) => rfl
theorem z_prev_cat {σ : ZS} {ls : ZL} {k : Nat} (hp : z_prev ls k = false) {j : Nat} {v : ZV} (hj : z_lg ls j = some v) (e : j + 1 = k) : (z_rv σ v).category ≠ 2 := by
  subst e
  rw [z_cat_rv]
  have hp : z_wide (z_lg ls j) = false := hp
  rw [hj] at hp
  match v with
  | .inl x => simp [z_cat]
  | .inr (.inl x) => simp [z_wide] at hp
  | .inr (.inr x) => simp [z_cat]
theorem z_okst_spec {ls : ZL} {k w : Nat} (h : z_okst ls k w = true) : k + w ≤ ls.length ∧ z_prev ls k = false := by
  unfold z_okst at h
  simp only [Bool.and_eq_true, Bool.not_eq_true'] at h
  exact ⟨Nat.le_of_ble_eq_true h.1, h.2⟩
theorem z_lok.store1 {σ : ZS} {n : Nat} {ls : ZL} {rls rls' : Array Slot} {k : Nat} {v : ZV} (hn : ls.length = n) (ho : z_okst ls k 1 = true) (h' : lv_has rls' n ((k, z_rv σ v) :: (z_lvl σ ls).filter (fun q => !(q.1 == k) && !(q.1 + 1 == k && q.2.category == 2)))) : z_lok σ n (z_ls ls k (some v)) rls' := by
  obtain ⟨h1, h2⟩ := z_okst_spec ho
  refine ⟨by rw [z_ls_len]; exact hn, h'.1, h'.2.1, fun q hq => h'.2.2 q ?_⟩
  obtain ⟨w, hw, hq2⟩ := z_lvl_mem.mp hq
  rw [z_lg_ls] at hw
  by_cases hk : q.1 = k ∧ k < ls.length
  · rw [if_pos hk] at hw
    cases hw
    refine List.mem_cons.mpr (Or.inl ?_)
    rw [← hk.1, ← hq2]
  · rw [if_neg hk] at hw
    have hne : q.1 ≠ k := fun e => hk ⟨e, by omega⟩
    refine List.mem_cons_of_mem _ (List.mem_filter.mpr ⟨z_lvl_mem.mpr ⟨w, hw, hq2⟩, ?_⟩)
    simp only [Bool.and_eq_true, Bool.not_eq_true', beq_eq_false_iff_ne, Bool.and_eq_false_iff]
    refine ⟨hne, ?_⟩
    by_cases e : q.1 + 1 = k
    · exact Or.inr (by rw [hq2]; exact z_prev_cat h2 hw e)
    · exact Or.inl e
theorem z_lok.store2 {σ : ZS} {n : Nat} {ls : ZL} {rls rls' : Array Slot} {k : Nat} {v : ZV} (hn : ls.length = n) (ho : z_okst ls k 2 = true) (h' : lv_has rls' n ((k, z_rv σ v) :: (z_lvl σ ls).filter (fun q => !(q.1 == k) && (!(q.1 == k + 1) && !(q.1 + 1 == k && q.2.category == 2))))) : z_lok σ n (z_ls (z_ls ls k (some v)) (k + 1) none) rls' := by
  obtain ⟨h1, h2⟩ := z_okst_spec ho
  refine ⟨by rw [z_ls_len, z_ls_len]; exact hn, h'.1, h'.2.1, fun q hq => h'.2.2 q ?_⟩
  obtain ⟨w, hw, hq2⟩ := z_lvl_mem.mp hq
  rw [z_lg_ls, z_ls_len] at hw
  by_cases hk : q.1 = k + 1 ∧ k + 1 < ls.length
  · rw [if_pos hk] at hw
    cases hw
  · rw [if_neg hk, z_lg_ls] at hw
    have hne1 : q.1 ≠ k + 1 := fun e => hk ⟨e, by omega⟩
    by_cases hk2 : q.1 = k ∧ k < ls.length
    · rw [if_pos hk2] at hw
      cases hw
      refine List.mem_cons.mpr (Or.inl ?_)
      rw [← hk2.1, ← hq2]
    · rw [if_neg hk2] at hw
      have hne : q.1 ≠ k := fun e => hk2 ⟨e, by omega⟩
      refine List.mem_cons_of_mem _ (List.mem_filter.mpr ⟨z_lvl_mem.mpr ⟨w, hw, hq2⟩, ?_⟩)
      simp only [Bool.and_eq_true, Bool.not_eq_true', beq_eq_false_iff_ne, Bool.and_eq_false_iff]
      refine ⟨hne, hne1, ?_⟩
      by_cases e : q.1 + 1 = k
      · exact Or.inr (by rw [hq2]; exact z_prev_cat h2 hw e)
      · exact Or.inl e
/-- a step of the pure machine is one of the machine's -/
def ZSim (M pc : Nat) (ls : ZL) (st : List ZV) (h : ZH) (r : ZR) : Prop := ∀ (σ : ZS) (p : Program) (l : Launch) (e : Env) (R : Room) (s : State) (m : MethodId) (args : Array Value) (below : List Frame) (meth : Method) (c : Code) (Q : State → Prop) (H : Heap) (rls : Array Slot) (locs : List Loc) (cells slots : Nat),
  ZX σ M p s m args meth c → 1 ≤ R.frames → 64 ≤ R.locals → ZP σ h H → z_lok σ (z_ml M) ls rls → (∀ q ∈ locs, (z_H0 σ).size ≤ q.base) → cells + (r.2.2.2.1.2.2.1 - h.1.2.2.1) ≤ R.cells → slots + (r.2.2.2.1.2.2.2 - h.1.2.2.2) ≤ R.slots →
  (∀ (H' : Heap) (rls' : Array Slot) (locs' : List Loc), ZP σ r.2.2.2 H' → z_lok σ (z_ml M) r.2.1 rls' → (∀ q ∈ locs', (z_H0 σ).size ≤ q.base) → W p l e R s m args below meth c H' locs' (cells + (r.2.2.2.1.2.2.1 - h.1.2.2.1)) (slots + (r.2.2.2.1.2.2.2 - h.1.2.2.2)) Q (F0 m r.1 rls' (r.2.2.1.map (z_rv σ)))) →
  W p l e R s m args below meth c H locs cells slots Q (F0 m pc rls (st.map (z_rv σ)))
theorem zsim_same {M pc pc' : Nat} {ls ls' : ZL} {st st' : List ZV} {h : ZH} (hstep : ∀ (σ : ZS) (p : Program) (l : Launch) (e : Env) (R : Room) (s : State) (m : MethodId) (args : Array Value) (below : List Frame) (meth : Method) (c : Code) (Q : State → Prop) (H : Heap) (rls : Array Slot) (locs : List Loc) (cells slots : Nat),
    ZX σ M p s m args meth c → 1 ≤ R.frames → 64 ≤ R.locals → ZP σ h H → z_lok σ (z_ml M) ls rls → (∀ rls' : Array Slot, z_lok σ (z_ml M) ls' rls' → W p l e R s m args below meth c H locs cells slots Q (F0 m pc' rls' (st'.map (z_rv σ)))) → W p l e R s m args below meth c H locs cells slots Q (F0 m pc rls (st.map (z_rv σ)))) : ZSim M pc ls st h (pc', ls', st', h) := by
  intro σ p l e R s m args below meth c Q H rls locs cells slots hX hf hlo hP hL hlocs hc hs K
  refine hstep σ p l e R s m args below meth c Q H rls locs cells slots hX hf hlo hP hL (fun rls' hL' => ?_)
  have K' := K H rls' locs hP hL' hlocs
  simpa only [Nat.sub_self, Nat.add_zero] using K'
