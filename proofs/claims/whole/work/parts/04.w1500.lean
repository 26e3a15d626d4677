set_option maxRecDepth 100000 in
theorem mm_okL0 : (((mm_lv (mm_cd 350)).drop 0).take 40).all (fun x => decide (decode (mm_b 350) x.1 = .ok (x.2.2, x.2.1)) && (mm_sw x.2.2 || Nat.beq x.2.1 (mm_ln x.2.2)) && mm_ix2 x.2.2) = true := by decide +kernel
set_option maxRecDepth 100000 in
theorem mm_okL1 : (((mm_lv (mm_cd 350)).drop 40).take 40).all (fun x => decide (decode (mm_b 350) x.1 = .ok (x.2.2, x.2.1)) && (mm_sw x.2.2 || Nat.beq x.2.1 (mm_ln x.2.2)) && mm_ix2 x.2.2) = true := by decide +kernel
set_option maxRecDepth 100000 in
theorem mm_okL2 : (((mm_lv (mm_cd 350)).drop 80).take 40).all (fun x => decide (decode (mm_b 350) x.1 = .ok (x.2.2, x.2.1)) && (mm_sw x.2.2 || Nat.beq x.2.1 (mm_ln x.2.2)) && mm_ix2 x.2.2) = true := by decide +kernel
set_option maxRecDepth 100000 in
theorem mm_okL3 : (((mm_lv (mm_cd 350)).drop 120).take 40).all (fun x => decide (decode (mm_b 350) x.1 = .ok (x.2.2, x.2.1)) && (mm_sw x.2.2 || Nat.beq x.2.1 (mm_ln x.2.2)) && mm_ix2 x.2.2) = true := by decide +kernel
