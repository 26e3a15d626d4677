set_option maxRecDepth 100000 in
theorem mm_okL20 : (((mm_lv (mm_cd 350)).drop 800).take 40).all (fun x => decide (decode (mm_b 350) x.1 = .ok (x.2.2, x.2.1)) && (mm_sw x.2.2 || Nat.beq x.2.1 (mm_ln x.2.2)) && mm_ix2 x.2.2) = true := by decide +kernel
set_option maxRecDepth 100000 in
theorem mm_okL21 : (((mm_lv (mm_cd 350)).drop 840).take 40).all (fun x => decide (decode (mm_b 350) x.1 = .ok (x.2.2, x.2.1)) && (mm_sw x.2.2 || Nat.beq x.2.1 (mm_ln x.2.2)) && mm_ix2 x.2.2) = true := by decide +kernel
set_option maxRecDepth 100000 in
theorem mm_okL22 : (((mm_lv (mm_cd 350)).drop 880).take 40).all (fun x => decide (decode (mm_b 350) x.1 = .ok (x.2.2, x.2.1)) && (mm_sw x.2.2 || Nat.beq x.2.1 (mm_ln x.2.2)) && mm_ix2 x.2.2) = true := by decide +kernel
set_option maxRecDepth 100000 in
theorem mm_okL23 : (((mm_lv (mm_cd 350)).drop 920).take 40).all (fun x => decide (decode (mm_b 350) x.1 = .ok (x.2.2, x.2.1)) && (mm_sw x.2.2 || Nat.beq x.2.1 (mm_ln x.2.2)) && mm_ix2 x.2.2) = true := by decide +kernel
