theorem zkl_0 : (List.range' 0 110).all (z_chk1 229) = true := by decide +kernel
theorem zkl_1 : (List.range' 110 110).all (z_chk1 229) = true := by decide +kernel
theorem zkl_2 : (List.range' 220 110).all (z_chk1 229) = true := by decide +kernel
theorem zkl_3 : (List.range' 330 110).all (z_chk1 229) = true := by decide +kernel
theorem zkl_4 : (List.range' 440 110).all (z_chk1 229) = true := by decide +kernel
theorem zkl_5 : (List.range' 550 110).all (z_chk1 229) = true := by decide +kernel
theorem zkl_6 : (List.range' 660 110).all (z_chk1 229) = true := by decide +kernel
theorem zkl_7 : (List.range' 770 110).all (z_chk1 229) = true := by decide +kernel
theorem zkl_8 : (List.range' 880 110).all (z_chk1 229) = true := by decide +kernel
theorem zkl_9 : (List.range' 990 110).all (z_chk1 229) = true := by decide +kernel
theorem zkl_10 : (List.range' 1100 110).all (z_chk1 229) = true := by decide +kernel
theorem zkl_11 : (List.range' 1210 108).all (z_chk1 229) = true := by decide +kernel
theorem z_len_law : z_len 229 = 1318 := rfl
theorem z_chk_law : z_chkm 229 = true := by
  have h : ∀ pc, pc < 1318 → z_chk1 229 pc = true := by
    intro pc hpc
    have key : ∀ (lo k : Nat), (List.range' lo k).all (z_chk1 229) = true → lo ≤ pc → pc < lo + k → z_chk1 229 pc = true := fun lo k hk h1 h2 => List.all_eq_true.mp hk pc (List.mem_range'_1.mpr ⟨h1, h2⟩)
    by_cases h0 : pc < 110
    · exact key 0 110 zkl_0 (by omega) (by omega)
    by_cases h1 : pc < 220
    · exact key 110 110 zkl_1 (by omega) (by omega)
    by_cases h2 : pc < 330
    · exact key 220 110 zkl_2 (by omega) (by omega)
    by_cases h3 : pc < 440
    · exact key 330 110 zkl_3 (by omega) (by omega)
    by_cases h4 : pc < 550
    · exact key 440 110 zkl_4 (by omega) (by omega)
    by_cases h5 : pc < 660
    · exact key 550 110 zkl_5 (by omega) (by omega)
    by_cases h6 : pc < 770
    · exact key 660 110 zkl_6 (by omega) (by omega)
    by_cases h7 : pc < 880
    · exact key 770 110 zkl_7 (by omega) (by omega)
    by_cases h8 : pc < 990
    · exact key 880 110 zkl_8 (by omega) (by omega)
    by_cases h9 : pc < 1100
    · exact key 990 110 zkl_9 (by omega) (by omega)
    by_cases h10 : pc < 1210
    · exact key 1100 110 zkl_10 (by omega) (by omega)
    by_cases h11 : pc < 1318
    · exact key 1210 108 zkl_11 (by omega) (by omega)
    omega
  unfold z_chkm
  rw [z_len_law]
  exact List.all_eq_true.mpr fun pc hp => h pc (List.mem_range.mp hp)
theorem z_chk_ok {M pc : Nat} {i : Instr} {a b t n : Nat} (h : z_tb M pc = some (i, a, b, t, n)) : z_chk M pc i a b t n = true := by
  have hM : M < 230 := by
    rcases Nat.lt_or_ge M 230 with q | q
    · exact q
    · unfold z_tb at h
      rw [Nat.ble_eq_true_of_le q] at h
      cases h
  have hp : pc < z_len M := by
    rcases Nat.lt_or_ge pc (z_len M) with q | q
    · exact q
    · unfold z_tb at h
      rw [Nat.ble_eq_true_of_le q] at h
      cases hb : Nat.ble 230 M <;> rw [hb] at h <;> cases h
  have key : ∀ (lo k : Nat), (List.range' lo k).all z_chkm = true → lo ≤ M → M < lo + k → z_chkm M = true := fun lo k hk h1 h2 => List.all_eq_true.mp hk M (List.mem_range'_1.mpr ⟨h1, h2⟩)
  have hm : z_chkm M = true := by
    by_cases h0 : M < 10
    · exact key 0 10 zk_0 (by omega) (by omega)
    by_cases h1 : M < 20
    · exact key 10 10 zk_1 (by omega) (by omega)
    by_cases h2 : M < 30
    · exact key 20 10 zk_2 (by omega) (by omega)
    by_cases h3 : M < 40
    · exact key 30 10 zk_3 (by omega) (by omega)
    by_cases h4 : M < 50
    · exact key 40 10 zk_4 (by omega) (by omega)
    by_cases h5 : M < 60
    · exact key 50 10 zk_5 (by omega) (by omega)
    by_cases h6 : M < 70
    · exact key 60 10 zk_6 (by omega) (by omega)
    by_cases h7 : M < 80
    · exact key 70 10 zk_7 (by omega) (by omega)
    by_cases h8 : M < 90
    · exact key 80 10 zk_8 (by omega) (by omega)
    by_cases h9 : M < 100
    · exact key 90 10 zk_9 (by omega) (by omega)
    by_cases h10 : M < 110
    · exact key 100 10 zk_10 (by omega) (by omega)
    by_cases h11 : M < 120
    · exact key 110 10 zk_11 (by omega) (by omega)
    by_cases h12 : M < 130
    · exact key 120 10 zk_12 (by omega) (by omega)
    by_cases h13 : M < 140
    · exact key 130 10 zk_13 (by omega) (by omega)
    by_cases h14 : M < 150
    · exact key 140 10 zk_14 (by omega) (by omega)
    by_cases h15 : M < 160
    · exact key 150 10 zk_15 (by omega) (by omega)
    by_cases h16 : M < 170
    · exact key 160 10 zk_16 (by omega) (by omega)
    by_cases h17 : M < 180
    · exact key 170 10 zk_17 (by omega) (by omega)
    by_cases h18 : M < 190
    · exact key 180 10 zk_18 (by omega) (by omega)
    by_cases h19 : M < 200
    · exact key 190 10 zk_19 (by omega) (by omega)
    by_cases h20 : M < 210
    · exact key 200 10 zk_20 (by omega) (by omega)
    by_cases h21 : M < 220
    · exact key 210 10 zk_21 (by omega) (by omega)
    by_cases h22 : M < 229
    · exact key 220 9 zk_22 (by omega) (by omega)
    have e : M = 229 := by omega
    rw [e]
    exact z_chk_law
  have h1 := List.all_eq_true.mp hm pc (List.mem_range.mpr hp)
  unfold z_chk1 at h1
  rw [h] at h1
  exact h1
