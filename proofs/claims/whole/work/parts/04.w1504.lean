set_option maxRecDepth 100000 in
theorem mm_okL16 : (((mm_lv (mm_cd 350)).drop 640).take 40).all (fun x => decide (decode (mm_b 350) x.1 = .ok (x.2.2, x.2.1)) && (mm_sw x.2.2 || Nat.beq x.2.1 (mm_ln x.2.2)) && mm_ix2 x.2.2) = true := by decide +kernel
set_option maxRecDepth 100000 in
theorem mm_okL17 : (((mm_lv (mm_cd 350)).drop 680).take 40).all (fun x => decide (decode (mm_b 350) x.1 = .ok (x.2.2, x.2.1)) && (mm_sw x.2.2 || Nat.beq x.2.1 (mm_ln x.2.2)) && mm_ix2 x.2.2) = true := by decide +kernel
set_option maxRecDepth 100000 in
theorem mm_okL18 : (((mm_lv (mm_cd 350)).drop 720).take 40).all (fun x => decide (decode (mm_b 350) x.1 = .ok (x.2.2, x.2.1)) && (mm_sw x.2.2 || Nat.beq x.2.1 (mm_ln x.2.2)) && mm_ix2 x.2.2) = true := by decide +kernel
set_option maxRecDepth 100000 in
theorem mm_okL19 : (((mm_lv (mm_cd 350)).drop 760).take 40).all (fun x => decide (decode (mm_b 350) x.1 = .ok (x.2.2, x.2.1)) && (mm_sw x.2.2 || Nat.beq x.2.1 (mm_ln x.2.2)) && mm_ix2 x.2.2) = true := by decide +kernel
