set_option maxRecDepth 100000 in
theorem mm_okL8 : (((mm_lv (mm_cd 350)).drop 320).take 40).all (fun x => decide (decode (mm_b 350) x.1 = .ok (x.2.2, x.2.1)) && (mm_sw x.2.2 || Nat.beq x.2.1 (mm_ln x.2.2)) && mm_ix2 x.2.2) = true := by decide +kernel
set_option maxRecDepth 100000 in
theorem mm_okL9 : (((mm_lv (mm_cd 350)).drop 360).take 40).all (fun x => decide (decode (mm_b 350) x.1 = .ok (x.2.2, x.2.1)) && (mm_sw x.2.2 || Nat.beq x.2.1 (mm_ln x.2.2)) && mm_ix2 x.2.2) = true := by decide +kernel
set_option maxRecDepth 100000 in
theorem mm_okL10 : (((mm_lv (mm_cd 350)).drop 400).take 40).all (fun x => decide (decode (mm_b 350) x.1 = .ok (x.2.2, x.2.1)) && (mm_sw x.2.2 || Nat.beq x.2.1 (mm_ln x.2.2)) && mm_ix2 x.2.2) = true := by decide +kernel
set_option maxRecDepth 100000 in
theorem mm_okL11 : (((mm_lv (mm_cd 350)).drop 440).take 40).all (fun x => decide (decode (mm_b 350) x.1 = .ok (x.2.2, x.2.1)) && (mm_sw x.2.2 || Nat.beq x.2.1 (mm_ln x.2.2)) && mm_ix2 x.2.2) = true := by decide +kernel
