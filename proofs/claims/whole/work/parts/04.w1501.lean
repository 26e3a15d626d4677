set_option maxRecDepth 100000 in
theorem mm_okL4 : (((mm_lv (mm_cd 350)).drop 160).take 40).all (fun x => decide (decode (mm_b 350) x.1 = .ok (x.2.2, x.2.1)) && (mm_sw x.2.2 || Nat.beq x.2.1 (mm_ln x.2.2)) && mm_ix2 x.2.2) = true := by decide +kernel
set_option maxRecDepth 100000 in
theorem mm_okL5 : (((mm_lv (mm_cd 350)).drop 200).take 40).all (fun x => decide (decode (mm_b 350) x.1 = .ok (x.2.2, x.2.1)) && (mm_sw x.2.2 || Nat.beq x.2.1 (mm_ln x.2.2)) && mm_ix2 x.2.2) = true := by decide +kernel
set_option maxRecDepth 100000 in
theorem mm_okL6 : (((mm_lv (mm_cd 350)).drop 240).take 40).all (fun x => decide (decode (mm_b 350) x.1 = .ok (x.2.2, x.2.1)) && (mm_sw x.2.2 || Nat.beq x.2.1 (mm_ln x.2.2)) && mm_ix2 x.2.2) = true := by decide +kernel
set_option maxRecDepth 100000 in
theorem mm_okL7 : (((mm_lv (mm_cd 350)).drop 280).take 40).all (fun x => decide (decode (mm_b 350) x.1 = .ok (x.2.2, x.2.1)) && (mm_sw x.2.2 || Nat.beq x.2.1 (mm_ln x.2.2)) && mm_ix2 x.2.2) = true := by decide +kernel
