/-! THE CALLS: a method's contract, by depth -/
def z_ws (M : Nat) : List Cond := Cond.code (z_y M) (z_b M) (z_ml M) (z_rt M) :: z_gw
def z_rm (d mc ms : Nat) : Room := { frames := d, cells := mc, slots := ms, locals := 64 * d }
def z_Pc (σ : ZS) (args : List ZV) (h : ZH) : Array Value → State → Prop := fun v U => v = (args.map (z_rv σ)).toArray ∧ ZP σ h U.heap ∧ ZU σ U
def z_Qc (σ : ZS) (r : Option ZV) (h' : ZH) : Array Value → State → Outcome → State → Prop := fun _ _ o t => o = .returned (r.map (z_rv σ)) ∧ ZP σ h' t.heap
abbrev z_free (σ : ZS) : Addr → Prop := fun q => (z_H0 σ).size ≤ q
theorem z_y_ok : (List.range 230).all (fun M => decide ((z_y M).cls ≠ "java/lang/invoke/MethodHandle") && decide ((z_y M).cls ≠ "java/lang/invoke/VarHandle") && plainFor (z_y M) && decide (z_R (z_cl M) = (z_y M).cls) && Nat.ble (z_ml M) 40) = true := by decide +kernel
theorem z_MW_lt : z_MW.all (fun q => Nat.ble (q.1 + 1) 229) = true := by decide +kernel
theorem z_MW_init : z_MW.all (fun q => bif Nat.beq q.2.1 1 then decide ((z_y q.1).name = "<init>") && decide (z_rt q.1 = none) else true) = true := by decide +kernel
theorem z_y_spec {M : Nat} (hM : M < 230) : ((z_y M).cls ≠ "java/lang/invoke/MethodHandle" ∧ (z_y M).cls ≠ "java/lang/invoke/VarHandle") ∧ plainFor (z_y M) = true ∧ z_R (z_cl M) = (z_y M).cls ∧ z_ml M ≤ 40 := by
  have h := List.all_eq_true.mp z_y_ok M (List.mem_range.mpr hM)
  simp only [Bool.and_eq_true, decide_eq_true_eq] at h
  exact ⟨⟨h.1.1.1.1, h.1.1.1.2⟩, h.1.1.2, h.1.2, Nat.le_of_ble_eq_true h.2⟩
set_option maxRecDepth 100000 in
theorem z_codes : ∀ q ∈ z_MW, lw_tbl[q.2.2.1]? = some (z_wCode q.1) := by
  unfold z_MW
  exact List.forall_mem_cons.mpr ⟨zm_0, List.forall_mem_cons.mpr ⟨zm_1, List.forall_mem_cons.mpr ⟨zm_2, List.forall_mem_cons.mpr ⟨zm_3, List.forall_mem_cons.mpr ⟨zm_4, List.forall_mem_cons.mpr ⟨zm_5, List.forall_mem_cons.mpr ⟨zm_6, List.forall_mem_cons.mpr ⟨zm_7, List.forall_mem_cons.mpr ⟨zm_8, List.forall_mem_cons.mpr ⟨zm_9, List.forall_mem_cons.mpr ⟨zm_10, List.forall_mem_cons.mpr ⟨zm_11, List.forall_mem_cons.mpr ⟨zm_12, List.forall_mem_cons.mpr ⟨zm_13, List.forall_mem_cons.mpr ⟨zm_14, List.forall_mem_cons.mpr ⟨zm_15, List.forall_mem_cons.mpr ⟨zm_16, List.forall_mem_cons.mpr ⟨zm_17, List.forall_mem_cons.mpr ⟨zm_18, List.forall_mem_cons.mpr ⟨zm_19, List.forall_mem_cons.mpr ⟨zm_20, List.forall_mem_cons.mpr ⟨zm_21, List.forall_mem_cons.mpr ⟨zm_22, List.forall_mem_cons.mpr ⟨zm_23, List.forall_mem_cons.mpr ⟨zm_24, List.forall_mem_cons.mpr ⟨zm_25, List.forall_mem_cons.mpr ⟨zm_26, List.forall_mem_cons.mpr ⟨zm_27, List.forall_mem_cons.mpr ⟨zm_28, List.forall_mem_cons.mpr ⟨zm_29, List.forall_mem_cons.mpr ⟨zm_30, List.forall_mem_cons.mpr ⟨zm_31, List.forall_mem_cons.mpr ⟨zm_32, List.forall_mem_cons.mpr ⟨zm_33, List.forall_mem_cons.mpr ⟨zm_34, List.forall_mem_cons.mpr ⟨zm_35, List.forall_mem_cons.mpr ⟨zm_36, List.forall_mem_cons.mpr ⟨zm_37, List.forall_mem_cons.mpr ⟨zm_38, List.forall_mem_cons.mpr ⟨zm_39, List.forall_mem_cons.mpr ⟨zm_40, List.forall_mem_cons.mpr ⟨zm_41, List.forall_mem_cons.mpr ⟨zm_42, List.forall_mem_cons.mpr ⟨zm_43, List.forall_mem_cons.mpr ⟨zm_44, List.forall_mem_cons.mpr ⟨zm_45, List.forall_mem_cons.mpr ⟨zm_46, List.forall_mem_cons.mpr ⟨zm_47, List.forall_mem_cons.mpr ⟨zm_48, List.forall_mem_cons.mpr ⟨zm_49, List.forall_mem_cons.mpr ⟨zm_50, List.forall_mem_cons.mpr ⟨zm_51, List.forall_mem_cons.mpr ⟨zm_52, List.forall_mem_cons.mpr ⟨zm_53, List.forall_mem_cons.mpr ⟨zm_54, List.forall_mem_cons.mpr ⟨zm_55, List.forall_mem_cons.mpr ⟨zm_56, List.forall_mem_cons.mpr ⟨zm_57, List.forall_mem_cons.mpr ⟨zm_58, List.forall_mem_cons.mpr ⟨zm_59, List.forall_mem_cons.mpr ⟨zm_60, List.forall_mem_cons.mpr ⟨zm_61, List.forall_mem_cons.mpr ⟨zm_62, List.forall_mem_cons.mpr ⟨zm_63, List.forall_mem_cons.mpr ⟨zm_64, List.forall_mem_cons.mpr ⟨zm_65, List.forall_mem_cons.mpr ⟨zm_66, List.forall_mem_cons.mpr ⟨zm_67, List.forall_mem_cons.mpr ⟨zm_68, List.forall_mem_cons.mpr ⟨zm_69, List.forall_mem_cons.mpr ⟨zm_70, List.forall_mem_cons.mpr ⟨zm_71, List.forall_mem_cons.mpr ⟨zm_72, List.forall_mem_cons.mpr ⟨zm_73, List.forall_mem_cons.mpr ⟨zm_74, List.forall_mem_cons.mpr ⟨zm_75, List.forall_mem_cons.mpr ⟨zm_76, List.forall_mem_cons.mpr ⟨zm_77, List.forall_mem_cons.mpr ⟨zm_78, List.forall_mem_cons.mpr ⟨zm_79, List.forall_mem_cons.mpr ⟨zm_80, List.forall_mem_cons.mpr ⟨zm_81, List.forall_mem_cons.mpr ⟨zm_82, List.forall_mem_cons.mpr ⟨zm_83, List.forall_mem_cons.mpr ⟨zm_84, List.forall_mem_cons.mpr ⟨zm_85, List.forall_mem_cons.mpr ⟨zm_86, List.forall_mem_cons.mpr ⟨zm_87, List.forall_mem_cons.mpr ⟨zm_88, List.forall_mem_cons.mpr ⟨zm_89, List.forall_mem_cons.mpr ⟨zm_90, List.forall_mem_cons.mpr ⟨zm_91, List.forall_mem_cons.mpr ⟨zm_92, List.forall_mem_cons.mpr ⟨zm_93, List.forall_mem_cons.mpr ⟨zm_94, List.forall_mem_cons.mpr ⟨zm_95, List.forall_mem_cons.mpr ⟨zm_96, List.forall_mem_cons.mpr ⟨zm_97, List.forall_mem_cons.mpr ⟨zm_98, List.forall_mem_cons.mpr ⟨zm_99, List.forall_mem_cons.mpr ⟨zm_100, List.forall_mem_cons.mpr ⟨zm_101, List.forall_mem_cons.mpr ⟨zm_102, List.forall_mem_cons.mpr ⟨zm_103, List.forall_mem_cons.mpr ⟨zm_104, List.forall_mem_cons.mpr ⟨zm_105, List.forall_mem_cons.mpr ⟨zm_106, List.forall_mem_cons.mpr ⟨zm_107, List.forall_mem_cons.mpr ⟨zm_108, List.forall_mem_cons.mpr ⟨zm_109, List.forall_mem_cons.mpr ⟨zm_110, List.forall_mem_cons.mpr ⟨zm_111, List.forall_mem_cons.mpr ⟨zm_112, List.forall_mem_cons.mpr ⟨zm_113, List.forall_mem_cons.mpr ⟨zm_114, List.forall_mem_cons.mpr ⟨zm_115, List.forall_mem_cons.mpr ⟨zm_116, List.forall_mem_cons.mpr ⟨zm_117, List.forall_mem_cons.mpr ⟨zm_118, List.forall_mem_cons.mpr ⟨zm_119, List.forall_mem_cons.mpr ⟨zm_120, List.forall_mem_cons.mpr ⟨zm_121, List.forall_mem_cons.mpr ⟨zm_122, List.forall_mem_cons.mpr ⟨zm_123, List.forall_mem_cons.mpr ⟨zm_124, List.forall_mem_cons.mpr ⟨zm_125, List.forall_mem_cons.mpr ⟨zm_126, List.forall_mem_cons.mpr ⟨zm_127, List.forall_mem_cons.mpr ⟨zm_128, List.forall_mem_cons.mpr ⟨zm_129, List.forall_mem_cons.mpr ⟨zm_130, List.forall_mem_cons.mpr ⟨zm_131, List.forall_mem_cons.mpr ⟨zm_132, List.forall_mem_cons.mpr ⟨zm_133, List.forall_mem_cons.mpr ⟨zm_134, List.forall_mem_cons.mpr ⟨zm_135, List.forall_mem_cons.mpr ⟨zm_136, List.forall_mem_cons.mpr ⟨zm_137, List.forall_mem_cons.mpr ⟨zm_138, List.forall_mem_cons.mpr ⟨zm_139, List.forall_mem_cons.mpr ⟨zm_140, List.forall_mem_cons.mpr ⟨zm_141, List.forall_mem_cons.mpr ⟨zm_142, List.forall_mem_cons.mpr ⟨zm_143, List.forall_mem_cons.mpr ⟨zm_144, List.forall_mem_cons.mpr ⟨zm_145, List.forall_mem_cons.mpr ⟨zm_146, List.forall_mem_cons.mpr ⟨zm_147, List.forall_mem_cons.mpr ⟨zm_148, List.forall_mem_cons.mpr ⟨zm_149, List.forall_mem_cons.mpr ⟨zm_150, List.forall_mem_cons.mpr ⟨zm_151, List.forall_mem_cons.mpr ⟨zm_152, List.forall_mem_cons.mpr ⟨zm_153, List.forall_mem_cons.mpr ⟨zm_154, List.forall_mem_cons.mpr ⟨zm_155, List.forall_mem_cons.mpr ⟨zm_156, List.forall_mem_cons.mpr ⟨zm_157, List.forall_mem_cons.mpr ⟨zm_158, List.forall_mem_cons.mpr ⟨zm_159, List.forall_mem_cons.mpr ⟨zm_160, List.forall_mem_cons.mpr ⟨zm_161, List.forall_mem_cons.mpr ⟨zm_162, List.forall_mem_cons.mpr ⟨zm_163, List.forall_mem_cons.mpr ⟨zm_164, List.forall_mem_cons.mpr ⟨zm_165, List.forall_mem_cons.mpr ⟨zm_166, List.forall_mem_cons.mpr ⟨zm_167, List.forall_mem_cons.mpr ⟨zm_168, List.forall_mem_cons.mpr ⟨zm_169, List.forall_mem_cons.mpr ⟨zm_170, List.forall_mem_cons.mpr ⟨zm_171, List.forall_mem_cons.mpr ⟨zm_172, List.forall_mem_cons.mpr ⟨zm_173, List.forall_mem_cons.mpr ⟨zm_174, List.forall_mem_cons.mpr ⟨zm_175, List.forall_mem_cons.mpr ⟨zm_176, List.forall_mem_cons.mpr ⟨zm_177, List.forall_mem_cons.mpr ⟨zm_178, List.forall_mem_cons.mpr ⟨zm_179, List.forall_mem_cons.mpr ⟨zm_180, List.forall_mem_cons.mpr ⟨zm_181, List.forall_mem_cons.mpr ⟨zm_182, List.forall_mem_cons.mpr ⟨zm_183, List.forall_mem_cons.mpr ⟨zm_184, List.forall_mem_cons.mpr ⟨zm_185, List.forall_mem_cons.mpr ⟨zm_186, List.forall_mem_cons.mpr ⟨zm_187, List.forall_mem_cons.mpr ⟨zm_188, List.forall_mem_cons.mpr ⟨zm_189, List.forall_mem_cons.mpr ⟨zm_190, List.forall_mem_cons.mpr ⟨zm_191, List.forall_mem_cons.mpr ⟨zm_192, List.forall_mem_cons.mpr ⟨zm_193, List.forall_mem_cons.mpr ⟨zm_194, List.forall_mem_cons.mpr ⟨zm_195, List.forall_mem_cons.mpr ⟨zm_196, List.forall_mem_cons.mpr ⟨zm_197, List.forall_mem_cons.mpr ⟨zm_198, List.forall_mem_cons.mpr ⟨zm_199, List.forall_mem_cons.mpr ⟨zm_200, List.forall_mem_cons.mpr ⟨zm_201, List.forall_mem_cons.mpr ⟨zm_202, List.forall_mem_cons.mpr ⟨zm_203, List.forall_mem_cons.mpr ⟨zm_204, List.forall_mem_cons.mpr ⟨zm_205, List.forall_mem_cons.mpr ⟨zm_206, List.forall_mem_cons.mpr ⟨zm_207, List.forall_mem_cons.mpr ⟨zm_208, List.forall_mem_cons.mpr ⟨zm_209, List.forall_mem_cons.mpr ⟨zm_210, List.forall_mem_cons.mpr ⟨zm_211, List.forall_mem_cons.mpr ⟨zm_212, List.forall_mem_cons.mpr ⟨zm_213, List.forall_mem_cons.mpr ⟨zm_214, List.forall_mem_cons.mpr ⟨zm_215, List.forall_mem_cons.mpr ⟨zm_216, List.forall_mem_cons.mpr ⟨zm_217, List.forall_mem_cons.mpr ⟨zm_218, List.forall_mem_cons.mpr ⟨zm_219, List.forall_mem_cons.mpr ⟨zm_220, List.forall_mem_cons.mpr ⟨zm_221, List.forall_mem_cons.mpr ⟨zm_222, List.forall_mem_cons.mpr ⟨zm_223, List.forall_mem_cons.mpr ⟨zm_224, List.forall_mem_cons.mpr ⟨zm_225, List.forall_mem_cons.mpr ⟨zm_226, List.forall_mem_cons.mpr ⟨zm_227, List.forall_mem_cons.mpr ⟨zm_228, fun _ h => absurd h List.not_mem_nil⟩⟩⟩⟩⟩⟩⟩⟩⟩⟩⟩⟩⟩⟩⟩⟩⟩⟩⟩⟩⟩⟩⟩⟩⟩⟩⟩⟩⟩⟩⟩⟩⟩⟩⟩⟩⟩⟩⟩⟩⟩⟩⟩⟩⟩⟩⟩⟩⟩⟩⟩⟩⟩⟩⟩⟩⟩⟩⟩⟩⟩⟩⟩⟩⟩⟩⟩⟩⟩⟩⟩⟩⟩⟩⟩⟩⟩⟩⟩⟩⟩⟩⟩⟩⟩⟩⟩⟩⟩⟩⟩⟩⟩⟩⟩⟩⟩⟩⟩⟩⟩⟩⟩⟩⟩⟩⟩⟩⟩⟩⟩⟩⟩⟩⟩⟩⟩⟩⟩⟩⟩⟩⟩⟩⟩⟩⟩⟩⟩⟩⟩⟩⟩⟩⟩⟩⟩⟩⟩⟩⟩⟩⟩⟩⟩⟩⟩⟩⟩⟩⟩⟩⟩⟩⟩⟩⟩⟩⟩⟩⟩⟩⟩⟩⟩⟩⟩⟩⟩⟩⟩⟩⟩⟩⟩⟩⟩⟩⟩⟩⟩⟩⟩⟩⟩⟩⟩⟩⟩⟩⟩⟩⟩⟩⟩⟩⟩⟩⟩⟩⟩⟩⟩⟩⟩⟩⟩⟩⟩⟩⟩⟩⟩⟩⟩⟩⟩⟩⟩⟩⟩⟩⟩⟩⟩⟩⟩⟩⟩
theorem z_code_in {q : Nat × Nat × Nat × Nat × Nat × Nat} (hq : q ∈ z_MW) : Cond.code (z_y q.1) (z_b q.1) (z_ml q.1) (z_rt q.1) ∈ z_gw := List.mem_filter.mpr ⟨List.mem_of_getElem? (z_codes q hq), rfl⟩
theorem ZU.warm {σ : ZS} {s U : State} (hW : s.WarmedH U.vm) (h : ZU σ s) : ZU σ U := by
  obtain ⟨h1, h2, h3, h4, h5, h6, h7, h8, h9, h10⟩ := h
  exact ⟨fun c hc => u_Kn_moved hW.alike (h1 c hc), fun t ht ht' => ⟨arrOfT_moved hW.alike (h2 t ht ht').1, (h2 t ht ht').2.moved hW.alike⟩, fun q hq => va_Nw.warmF hW (h3 q hq), fun q hq => va_Nw.warmM hW (h4 q hq), h5.moved hW.alike, h6.moved hW.alike, over_moved hW.alike h7, va_Nw.warmC hW h8, h9.moved hW.alike, fun a ha => ⟨(h10 a ha).1, (h10 a ha).2.moved hW.alike⟩⟩
theorem ZU.same {σ : ZS} {u U : State} (hvm : u.vm = U.vm) (h : ZU σ u) : ZU σ U := by
  have hal : u.vm.Alike U.vm := by rw [hvm]; exact Vm.Alike.refl _
  obtain ⟨h1, h2, h3, h4, h5, h6, h7, h8, h9, h10⟩ := h
  exact ⟨fun c hc => u_Kn_moved hal (h1 c hc), fun t ht ht' => ⟨arrOfT_moved hal (h2 t ht ht').1, (h2 t ht ht').2.moved hal⟩, fun q hq => va_Nw.same rfl hvm (h3 q hq), fun q hq => va_Nw.same rfl hvm (h4 q hq), h5.moved hal, h6.moved hal, over_moved hal h7, va_Nw.same rfl hvm h8, h9.moved hal, fun a ha => ⟨(h10 a ha).1, (h10 a ha).2.moved hal⟩⟩
theorem z_Pc_blind (σ : ZS) (args : List ZV) (h : ZH) : FrameBlind (z_Pc σ args h) := fun a U g mk q => ⟨q.1, q.2.1, ZU.same (u := U) (U := U.calling g mk a) rfl q.2.2⟩
/-- all calls of depth d keep their contracts -/
def ZMet (l : Launch) (σ : ZS) (d : Nat) : Prop := ∀ n M args h r h', M < 229 → z_ev d n M args h = some (r, h') → z_wf h → z_oks args → Met l (z_y M) (z_ws M) (z_rm d (h'.1.2.2.1 - h.1.2.2.1) (h'.1.2.2.2 - h.1.2.2.2)) (z_Pc σ args h) (z_Qc σ r h') (h'.1.2.2.1 - h.1.2.2.1) (h'.1.2.2.2 - h.1.2.2.2) (z_free σ)
theorem z_mok_spec {o j a b t kd : Nat} (h : z_mok o j a b t kd = true) : (z_wML o j a ∈ z_gw ∨ ∃ q ∈ z_MN, q.1 = o ∧ q.2.1 = j ∧ q.2.2.1 = a) ∧ (∃ q ∈ z_MW, q.1 = a ∧ q.2.1 = kd) ∧ z_cl a = t ∧ (parseMethodDescriptor (z_y a).desc).map (fun d => d.parameters.length) = some (bif Nat.beq kd 0 then b else b - 1) ∧ (kd ≠ 0 → 1 ≤ b) := by
  unfold z_mok at h
  simp only [Bool.and_eq_true, Bool.or_eq_true, decide_eq_true_eq] at h
  obtain ⟨⟨⟨⟨⟨h1, h2⟩, h3⟩, h4⟩, h5⟩, h6⟩ := h
  refine ⟨?_, ?_, Nat.eq_of_beq_eq_true h3, h5, fun hk => ?_⟩
  · rcases h1 with h1 | h1
    · obtain ⟨q, hq, g⟩ := List.any_eq_true.mp h1
      simp only [Bool.and_eq_true] at g
      have := z_gw_of _ (List.all_eq_true.mp z_ML_ok q hq)
      rw [Nat.eq_of_beq_eq_true g.1.1, Nat.eq_of_beq_eq_true g.1.2, Nat.eq_of_beq_eq_true g.2] at this
      exact Or.inl this
    · obtain ⟨q, hq, g⟩ := List.any_eq_true.mp h1
      simp only [Bool.and_eq_true] at g
      exact Or.inr ⟨q, hq, Nat.eq_of_beq_eq_true g.1.1, Nat.eq_of_beq_eq_true g.1.2, Nat.eq_of_beq_eq_true g.2⟩
  · obtain ⟨q, hq, g⟩ := List.any_eq_true.mp h2
    simp only [Bool.and_eq_true] at g
    exact ⟨q, hq, Nat.eq_of_beq_eq_true g.1, Nat.eq_of_beq_eq_true g.2⟩
  · have e : Nat.beq kd 0 = false := by
      cases hb : Nat.beq kd 0 with
      | false => rfl
      | true => exact absurd (Nat.eq_of_beq_eq_true hb) hk
    rw [e] at h6
    exact Nat.le_of_ble_eq_true h6
section ZCall
variable {M : Nat} {σ : ZS} {p : Program} {l : Launch} {e : Env} {R : Room} {s : State} {m : MethodId} {args : Array Value} {below : List Frame} {meth : Method} {c : Code} {Q : State → Prop} {H : Heap} {rls : Array Slot} {locs : List Loc} {cells slots : Nat}
theorem z_words {a : Nat} {q : Nat × Nat × Nat × Nat × Nat × Nat} (hq : q ∈ z_MW) (e1 : q.1 = a) (hts : ∀ w ∈ z_gw, w.before args s = true) : ∀ w ∈ z_ws a, ∀ (a' : Array Value) (U : State), s.WarmedH U.vm → w.before a' U = true := by
  intro w hw a' U hW
  have hin : w ∈ z_gw := by
    rcases List.mem_cons.mp hw with g | g
    · rw [g, ← e1]; exact z_code_in hq
    · exact g
  exact word_at hW (good_of_word (List.mem_filter.mp hin).2) (hts w hin)
/-- a call, whatever its kind -/
theorem z_call {i : Instr} {a b t n pc d n0 : Nat} {st : List ZV} {h h1 : ZH} {r1 : Option ZV} {ls : ZL} (hmet : ZMet l σ d) (hk : z_chk M pc i a b t n = true) (hkd : z_kind i a = 2) (hok : z_cok i b t st h = true) (hev : z_ev d n0 a (st.take b).reverse h = some (r1, h1)) (hw : z_wf h) (hs : z_oks st)
    (hX : ZX σ M p s m args meth c) (hRf : d + 1 ≤ R.frames) (hRl : 64 * (d + 1) ≤ R.locals) (hP : ZP σ h H) (hL : z_lok σ (z_ml M) ls rls) (hlocs : ∀ q ∈ locs, (z_H0 σ).size ≤ q.base) (hc : cells + (h1.1.2.2.1 - h.1.2.2.1) ≤ R.cells) (hsl : slots + (h1.1.2.2.2 - h.1.2.2.2) ≤ R.slots)
    (K : ∀ (H' : Heap) (locs' : List Loc), ZP σ h1 H' → (∀ q ∈ locs', (z_H0 σ).size ≤ q.base) → W p l e R s m args below meth c H' locs' (cells + (h1.1.2.2.1 - h.1.2.2.1)) (slots + (h1.1.2.2.2 - h.1.2.2.2)) Q (F0 m n rls ((r1.toList ++ st.drop b).map (z_rv σ)))) : W p l e R s m args below meth c H locs cells slots Q (F0 m pc rls (st.map (z_rv σ))) := by
  have hil : Nat.beq (z_il i) 0 = false ∧ z_il i = 3 := by
    unfold z_kind at hkd
    cases i <;> first | (cases hkd; done) | exact ⟨rfl, rfl⟩
  obtain ⟨hd, hn⟩ := z_chk_d hk hil.1
  rw [hil.2] at hd hn
  subst hn
  have h3 := z_chk_3 hk
  have hbig : ∀ {x : Nat}, (bif Nat.ble 9000 x then 0 else 2 : Nat) = 2 → Nat.ble 9000 x = false := by
    intro x hh
    cases hb : Nat.ble 9000 x with
    | true => rw [hb] at hh; cases hh
    | false => rfl
  obtain ⟨hx0, hbb, hrt, hml, hown, hts, hlk0, hini, hU⟩ := hX
  unfold z_cok at hok
  simp only [Bool.and_eq_true] at hok
  obtain ⟨⟨hb1, hb2⟩, hb3⟩ := hok
  have hblen := Nat.le_of_ble_eq_true hb1
  have hbcat := Nat.le_of_ble_eq_true hb2
  have hstk : st.map (z_rv σ) = (((st.take b).reverse).map (z_rv σ)).reverse ++ (st.drop b).map (z_rv σ) := by
    rw [List.map_reverse, List.reverse_reverse, ← List.map_append, List.take_append_drop]
  have hroom : 2 * (F0 m pc rls (st.map (z_rv σ))).monitorRoom + (((st.drop b).map (z_rv σ)).map fun v => v.category).sum ≤ 8 := by
    rw [z_catsum]
    show 2 * 0 + _ ≤ 8
    omega
  have hlenargs : ((st.take b).reverse).length = b := by simp; omega
  -- what every kind of call ends with
  have fin : ∀ (av : Array Value), va_Run p l e R s m args below meth c H locs cells slots (h1.1.2.2.1 - h.1.2.2.1) (h1.1.2.2.2 - h.1.2.2.2) (F0 m pc rls (st.map (z_rv σ))) ((st.drop b).map (z_rv σ)) (z_Qc σ r1 h1 av) (z_free σ) → W p l e R s m args below meth c H locs cells slots Q (F0 m pc rls (st.map (z_rv σ))) := by
    intro av hrun T hT X
    obtain ⟨v, st₀, t', T', L, h0, X', hL', e1, e2, hq, stp⟩ := hrun T hT X
    obtain ⟨hv, hP1⟩ := hq
    have hv := Outcome.returned.inj hv
    subst hv
    obtain ⟨t2, a1, b1⟩ := K T'.heap (locs ++ L) (by rw [e1]; exact hP1) (fun q hq => by
      rcases List.mem_append.mp hq with g | g
      · exact hlocs q g
      · exact hL' q g) T' rfl X'
    refine ⟨t2, stp t2 ?_, b1⟩
    have e3 : (r1.toList ++ st.drop b).map (z_rv σ) = (r1.map (z_rv σ)).toList ++ (st.drop b).map (z_rv σ) := by
      rw [List.map_append]
      cases r1 <;> rfl
    rw [e3] at a1
    exact a1
  have hfix : CallFix p m c (z_b M) (z_ml M) s args z_gw (z_R (z_cl M)) := ⟨hx0, hbb, hml, hown, hts⟩
  have hpre : ∀ U : State, U.heap = H → s.WarmedH U.vm → z_Pc σ (st.take b).reverse h (((st.take b).reverse).map (z_rv σ)).toArray U := fun U hUH hW => ⟨rfl, by rw [hUH]; exact hP, hU.warm hW⟩
  have hsz : (F0 m pc rls (st.map (z_rv σ))).locals.size = z_ml M := hL.2.1
  have base : ∀ {qw : Nat × Nat × Nat × Nat × Nat × Nat}, qw ∈ z_MW → qw.1 = a → a < 229 ∧ Met l (z_y a) (z_ws a) (z_rm d (h1.1.2.2.1 - h.1.2.2.1) (h1.1.2.2.2 - h.1.2.2.2)) (z_Pc σ (st.take b).reverse h) (z_Qc σ r1 h1) (h1.1.2.2.1 - h.1.2.2.1) (h1.1.2.2.2 - h.1.2.2.2) (z_free σ) ∧ ((z_rm d (h1.1.2.2.1 - h.1.2.2.1) (h1.1.2.2.2 - h.1.2.2.2)).frames + 1 ≤ R.frames ∧ 8 + (z_ml a + 11) + (z_rm d (h1.1.2.2.1 - h.1.2.2.1) (h1.1.2.2.2 - h.1.2.2.2)).locals ≤ R.locals) ∧ (Cond.code (z_y a) (z_b a) (z_ml a) (z_rt a)).before args s = true := by
    intro qw hqw e1
    have hlt : a < 229 := by
      have := List.all_eq_true.mp z_MW_lt qw hqw
      have := Nat.le_of_ble_eq_true this
      omega
    have hsp := z_y_spec (M := a) (by omega)
    refine ⟨hlt, hmet n0 a _ h r1 h1 hlt hev hw (z_oks_take hs), ⟨?_, ?_⟩, hts _ (by rw [← e1]; exact z_code_in hqw)⟩
    · exact hRf
    · show 8 + (z_ml a + 11) + 64 * d ≤ R.locals
      have := hsp.2.2.2
      omega
  cases i with
  | invokevirtual j =>
    have ha := hbig hkd
    simp only [z_chk3, ha, cond_false] at h3
    obtain ⟨hlk, ⟨qw, hqw, e1, e2⟩, hcl, hdesc, hb⟩ := z_mok_spec h3
    obtain ⟨hlt, hM, hR, hcode⟩ := base hqw e1
    have hsp := z_y_spec (M := a) (by omega)
    have hmw := List.all_eq_true.mp z_MW_ok qw hqw
    rw [e1, e2] at hmw
    simp only [Bool.and_eq_true] at hmw
    obtain ⟨⟨m1, m2⟩, m3⟩ := hmw
    have hinst : Cond.instanceMethod (z_y a) ∈ z_gw := z_gw_of _ m1
    have hsel : Cond.selects (z_R (z_cl a)) (z_y a) (z_y a) ∈ z_gw := z_gw_of _ m2
    have hinit : Cond.initialized (z_y a).cls ∈ z_gw := z_gw_of _ m3
    rcases hargs : (st.take b).reverse with _ | ⟨x | x | _ | q, as⟩
    · rw [hargs] at hb3; cases hb3
    · rw [hargs] at hb3; cases hb3
    · rw [hargs] at hb3; cases hb3
    · rw [hargs] at hb3; cases hb3
    · rw [hargs] at hb3
      simp only [Bool.and_eq_true] at hb3
      have hT := z_pair hb3.1 hb3.2
      have h2 : 2 ≤ q := hP.ge2 (by rw [hT]; exact (by decide : (1 : Nat) ≠ 2))
      have hcellq := hP.cell hw h2 (by rw [hT]; exact Nat.one_ne_zero)
      unfold z_cell at hcellq
      rw [hT] at hcellq
      obtain ⟨ht13, cellB, q1, q2, q3, -⟩ := hcellq
      have hrecv : ∃ cellB : Cell, H[z_ad σ q]? = some cellB ∧ cellB.vm.isStatics = false ∧ s.vm.findClass (z_R (z_cl a)) = some cellB.cls := ⟨cellB, q1, by rw [q3]; rfl, by rw [q2, hcl]; exact (hU.1 t ht13).2.1⟩
      rw [hargs] at hM hpre hstk hlenargs
      have hst2 : st.map (z_rv σ) = (as.map (z_rv σ)).reverse ++ .ref (z_ad σ q) :: (st.drop b).map (z_rv σ) := by
        rw [hstk]
        simp [z_rv_ref]
      have hn : (as.map (z_rv σ)).length = b - 1 := by
        rw [List.length_map]
        simp only [List.length_cons] at hlenargs
        omega
      have hparam : ∀ sig, parseMethodDescriptor (z_y a).desc = some sig → b - 1 = sig.parameters.length := fun sig hsig => by
        rw [hsig] at hdesc
        exact (Option.some.inj hdesc).symm
      rcases hlk with hlk | ⟨qn, hqn, g1, g2, g3⟩
      · exact fin _ (va_runV (C := z_R (z_cl a)) (As := as.map (z_rv σ)) (b := z_ad σ q) (rest := (st.drop b).map (z_rv σ)) hfix hM ⟨⟨rfl, rfl, hR.1, hR.2, z_words hqw e1 hts, List.mem_cons_self, hcode, hts _ hinit, hsp.1, hparam, hts _ hlk⟩, hts _ hinst, hts _ hsel⟩ ⟨z_Pc_blind σ _ h, hrecv, hpre⟩ rfl hn hsz hst2 hroom hd ⟨hc, hsl⟩)
      · have hN := hU.2.2.2.1 qn hqn
        rw [g1, g2, g3] at hN
        exact fin _ (va_runVN (C := z_R (z_cl a)) (As := as.map (z_rv σ)) (b := z_ad σ q) (rest := (st.drop b).map (z_rv σ)) hfix hM ⟨⟨⟨rfl, rfl, hR.1, hR.2, z_words hqw e1 hts, List.mem_cons_self⟩, hcode, hts _ hinit, hsp.1, hparam, va_Nw.use rfl hN⟩, hts _ hinst, hts _ hsel⟩ ⟨z_Pc_blind σ _ h, hrecv, hpre⟩ rfl hn hsz hst2 hroom hd ⟨hc, hsl⟩)
  | invokespecial j =>
    have ha := hbig hkd
    simp only [z_chk3, ha, cond_false] at h3
    obtain ⟨hlk, ⟨qw, hqw, e1, e2⟩, hcl, hdesc, hb⟩ := z_mok_spec h3
    obtain ⟨hlt, hM, hR, hcode⟩ := base hqw e1
    have hsp := z_y_spec (M := a) (by omega)
    have hmw := List.all_eq_true.mp z_MW_ok qw hqw
    rw [e1, e2] at hmw
    simp only [Bool.and_eq_true] at hmw
    obtain ⟨⟨m1, m2⟩, m3⟩ := hmw
    have hinst : Cond.instanceMethod (z_y a) ∈ z_gw := z_gw_of _ m1
    have hinit : Cond.initialized (z_y a).cls ∈ z_gw := z_gw_of _ m3
    have hini2 := List.all_eq_true.mp z_MW_init qw hqw
    rw [e1, e2] at hini2
    simp only [Nat.beq_refl, cond_true, Bool.and_eq_true, decide_eq_true_eq] at hini2
    rcases hargs : (st.take b).reverse with _ | ⟨x | x | _ | q, as⟩
    · rw [hargs] at hb3; cases hb3
    · rw [hargs] at hb3; cases hb3
    · rw [hargs] at hb3; cases hb3
    · rw [hargs] at hb3; cases hb3
    · rw [hargs] at hM hpre hstk hlenargs
      have hst2 : st.map (z_rv σ) = (as.map (z_rv σ)).reverse ++ .ref (z_ad σ q) :: (st.drop b).map (z_rv σ) := by
        rw [hstk]
        simp [z_rv_ref]
      have hn : (as.map (z_rv σ)).length = b - 1 := by
        rw [List.length_map]
        simp only [List.length_cons] at hlenargs
        omega
      have hparam : ∀ sig, parseMethodDescriptor (z_y a).desc = some sig → b - 1 = sig.parameters.length := fun sig hsig => by
        rw [hsig] at hdesc
        exact (Option.some.inj hdesc).symm
      have hM' := hM
      have hmem : Cond.code (z_y a) (z_b a) (z_ml a) none ∈ z_ws a := by
        have := List.mem_cons_self (a := Cond.code (z_y a) (z_b a) (z_ml a) (z_rt a)) (l := z_gw)
        rw [hini2.2] at this
        unfold z_ws
        rw [hini2.2]
        exact this
      have hcode' : (Cond.code (z_y a) (z_b a) (z_ml a) none).before args s = true := by
        rw [hini2.2] at hcode
        exact hcode
      rcases hlk with hlk | ⟨qn, hqn, g1, g2, g3⟩
      · exact fin _ (va_runI (As := as.map (z_rv σ)) (b := z_ad σ q) (rest := (st.drop b).map (z_rv σ)) hfix hM ⟨⟨rfl, rfl, hR.1, hR.2, z_words hqw e1 hts, hmem, hcode', hts _ hinit, hsp.1, hparam, hts _ hlk⟩, hini2.1, hts _ hinst⟩ ⟨z_Pc_blind σ _ h, hpre⟩ rfl hn hsz hst2 hroom hd ⟨hc, hsl⟩)
      · have hN := hU.2.2.2.1 qn hqn
        rw [g1, g2, g3] at hN
        exact fin _ (va_runIN (As := as.map (z_rv σ)) (b := z_ad σ q) (rest := (st.drop b).map (z_rv σ)) hfix hM ⟨⟨⟨rfl, rfl, hR.1, hR.2, z_words hqw e1 hts, hmem⟩, hcode', hts _ hinit, hsp.1, hparam, va_Nw.use rfl hN⟩, hini2.1, hts _ hinst⟩ ⟨z_Pc_blind σ _ h, hpre⟩ rfl hn hsz hst2 hroom hd ⟨hc, hsl⟩)
  | invokestatic j =>
    have ha := hbig hkd
    simp only [z_chk3, ha, cond_false] at h3
    obtain ⟨hlk, ⟨qw, hqw, e1, e2⟩, hcl, hdesc, hb⟩ := z_mok_spec h3
    obtain ⟨hlt, hM, hR, hcode⟩ := base hqw e1
    have hsp := z_y_spec (M := a) (by omega)
    have hmw := List.all_eq_true.mp z_MW_ok qw hqw
    rw [e1, e2] at hmw
    simp only [Bool.and_eq_true] at hmw
    obtain ⟨⟨m1, m2⟩, m3⟩ := hmw
    have hstat : Cond.static (z_y a) ∈ z_gw := z_gw_of _ m1
    have hinit : Cond.initialized (z_y a).cls ∈ z_gw := z_gw_of _ m3
    have hn : (((st.take b).reverse).map (z_rv σ)).length = b := by rw [List.length_map, hlenargs]
    have hparam : ∀ sig, parseMethodDescriptor (z_y a).desc = some sig → b = sig.parameters.length := fun sig hsig => by
      rw [hsig] at hdesc
      exact (Option.some.inj hdesc).symm
    rcases hlk with hlk | ⟨qn, hqn, g1, g2, g3⟩
    · exact fin _ (va_runS (As := ((st.take b).reverse).map (z_rv σ)) (rest := (st.drop b).map (z_rv σ)) hfix hM ⟨⟨rfl, rfl, hR.1, hR.2, z_words hqw e1 hts, List.mem_cons_self, hcode, hts _ hinit, hsp.1, hparam, hts _ hlk⟩, hts _ hstat⟩ ⟨z_Pc_blind σ _ h, hpre⟩ rfl hn hsz hstk hroom hd ⟨hc, hsl⟩)
    · have hN := hU.2.2.2.1 qn hqn
      rw [g1, g2, g3] at hN
      exact fin _ (va_runSN (As := ((st.take b).reverse).map (z_rv σ)) (rest := (st.drop b).map (z_rv σ)) hfix hM ⟨⟨⟨rfl, rfl, hR.1, hR.2, z_words hqw e1 hts, List.mem_cons_self⟩, hcode, hts _ hinit, hsp.1, hparam, va_Nw.use rfl hN⟩, hts _ hstat, trivial⟩ ⟨z_Pc_blind σ _ h, hpre⟩ rfl hn hsz hstk hroom hd ⟨hc, hsl⟩)
  | _ => cases hkd
end ZCall
