/-! THE TABLES' WORDS, by their places -/
def z_gw : List Cond := lw_tbl.filter goodWord
theorem z_gw_of {w : Cond} (i : Nat) (h : (decide (lw_tbl[i]? = some w) && goodWord w) = true) : w ∈ z_gw := by
  simp only [Bool.and_eq_true, decide_eq_true_eq] at h
  exact List.mem_filter.mpr ⟨List.mem_of_getElem? h.1, h.2⟩
theorem z_tbl_of {w : Cond} (i : Nat) (h : decide (lw_tbl[i]? = some w) = true) : w ∈ lw_tbl := List.mem_of_getElem? (of_decide_eq_true h)
def z_wc (w : Cond) (i : Nat) : Bool := decide (lw_tbl[i]? = some w) && goodWord w
def z_wFL (o i a b : Nat) : Cond := .fieldLink (z_R o) i (z_R a) (z_T a b).2.1 (z_T a b).2.2.1
def z_wFN (o i a b : Nat) : Cond := .fieldLinkNest (z_R o) i (z_R a) (z_T a b).2.1 (z_T a b).2.2.1 "RulerBench"
def z_wML (o i a : Nat) : Cond := .methodLink (z_R o) i (z_y a)
def z_wMN (o i a : Nat) : Cond := .methodLinkNest (z_R o) i (z_y a) "RulerBench"
def z_wCode (a : Nat) : Cond := .code (z_y a) (z_b a) (z_ml a) (z_rt a)
def z_en : Nat → String
  | 4 => "RulerBench$Stick"
  | 5 => "RulerBench$Ruler"
  | _ => "[J"
theorem z_FL_ok : z_FL.all (fun q => z_wc (z_wFL q.1 q.2.1 q.2.2.1 q.2.2.2.1) q.2.2.2.2) = true := by decide +kernel
theorem z_FN_ok : z_FN.all (fun q => decide (lw_tbl[q.2.2.2.2]? = some (z_wFN q.1 q.2.1 q.2.2.1 q.2.2.2.1))) = true := by decide +kernel
theorem z_ML_ok : z_ML.all (fun q => z_wc (z_wML q.1 q.2.1 q.2.2.1) q.2.2.2) = true := by decide +kernel
theorem z_MN_ok : z_MN.all (fun q => decide (lw_tbl[q.2.2.2]? = some (z_wMN q.1 q.2.1 q.2.2.1))) = true := by decide +kernel
theorem z_CL_ok : z_CL.all (fun q => z_wc (.classLink (z_R q.1) q.2.1 (z_R q.2.2.1)) q.2.2.2) = true := by decide +kernel
theorem z_CA_ok : z_CA.all (fun q => z_wc (.classLink (z_R q.1) q.2.1 (z_en q.2.2.1)) q.2.2.2) = true := by decide +kernel
theorem z_KI_ok : z_KI.all (fun q => z_wc (.constant (z_R q.1) q.2.1 (Int32.ofInt (q.2.2.1 : Int))) q.2.2.2) = true := by decide +kernel
theorem z_KL_ok : z_KL.all (fun q => z_wc (.constantLong (z_R q.1) q.2.1 (Int64.ofInt ((q.2.2.1 : Int) - q.2.2.2.1))) q.2.2.2.2) = true := by decide +kernel
theorem z_OI_ok : z_OI.all (fun q => z_wc (.methodLink (z_R q.1) q.2.1 Lib.objectInit) q.2.2) = true := by decide +kernel
theorem z_AC_ok : z_AC.all (fun q => z_wc (.methodLink (z_R q.1) q.2.1 arraycopyName) q.2.2) = true := by decide +kernel
theorem z_CO_ok : z_CO.all (fun q => z_wc (.methodLink (z_R q.1) q.2.1 ⟨"[J", "clone", "()Ljava/lang/Object;"⟩) q.2.2) = true := by decide +kernel
theorem z_CW_ok : z_CW.all (fun q => z_wc (.instantiable (z_R q.1) (z_N q.1)) q.2.1 && z_wc (.initialized (z_R q.1)) q.2.2) = true := by decide +kernel
theorem z_LW_ok : z_LW.all (fun q => z_wc (u_lay (z_R q.1) (z_T q.1) q.2.1) q.2.2) = true := by decide +kernel
theorem z_MW_ok : z_MW.all (fun q => z_wc (bif Nat.beq q.2.1 0 then .static (z_y q.1) else .instanceMethod (z_y q.1)) q.2.2.2.1 && (bif Nat.beq q.2.1 2 then z_wc (.selects (z_R (z_cl q.1)) (z_y q.1) (z_y q.1)) q.2.2.2.2.1 else true) && z_wc (.initialized (z_y q.1).cls) q.2.2.2.2.2) = true := by decide +kernel
theorem z_misc : ([(127, Cond.arrayClass .int), (226, .arrayClass .long), (902, .fieldLink "RulerBench" 304 "RulerBench" "PRIMES" "[I")] : List (Nat × Cond)).all (fun q => z_wc q.2 q.1) = true := by decide +kernel
