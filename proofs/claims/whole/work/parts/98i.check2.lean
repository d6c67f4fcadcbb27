/-! CHECKS, the rest -/
theorem zk_12 : (List.range' 120 10).all z_chkm = true := by decide +kernel
theorem zk_13 : (List.range' 130 10).all z_chkm = true := by decide +kernel
theorem zk_14 : (List.range' 140 10).all z_chkm = true := by decide +kernel
theorem zk_15 : (List.range' 150 10).all z_chkm = true := by decide +kernel
theorem zk_16 : (List.range' 160 10).all z_chkm = true := by decide +kernel
theorem zk_17 : (List.range' 170 10).all z_chkm = true := by decide +kernel
theorem zk_18 : (List.range' 180 10).all z_chkm = true := by decide +kernel
theorem zk_19 : (List.range' 190 10).all z_chkm = true := by decide +kernel
theorem zk_20 : (List.range' 200 10).all z_chkm = true := by decide +kernel
theorem zk_21 : (List.range' 210 10).all z_chkm = true := by decide +kernel
theorem zk_22 : (List.range' 220 9).all z_chkm = true := by decide +kernel
