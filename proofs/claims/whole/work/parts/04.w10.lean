set_option maxRecDepth 100000 in
theorem mm_ok0 : mm_okm 0 = true := by decide +kernel
set_option maxRecDepth 100000 in
theorem mm_ok1 : mm_okm 1 = true := by decide +kernel
set_option maxRecDepth 100000 in
theorem mm_ok2 : mm_okm 2 = true := by decide +kernel
set_option maxRecDepth 100000 in
theorem mm_ok3 : mm_okm 3 = true := by decide +kernel
set_option maxRecDepth 100000 in
theorem mm_ok4 : mm_okm 4 = true := by decide +kernel
set_option maxRecDepth 100000 in
theorem mm_ok5 : mm_okm 5 = true := by decide +kernel
set_option maxRecDepth 100000 in
theorem mm_ok6 : mm_okm 6 = true := by decide +kernel
set_option maxRecDepth 100000 in
theorem mm_ok7 : mm_okm 7 = true := by decide +kernel
set_option maxRecDepth 100000 in
theorem mm_ok8 : mm_okm 8 = true := by decide +kernel
set_option maxRecDepth 100000 in
theorem mm_ok9 : mm_okm 9 = true := by decide +kernel
set_option maxRecDepth 100000 in
theorem mm_ok10 : mm_okm 10 = true := by decide +kernel
set_option maxRecDepth 100000 in
theorem mm_ok11 : mm_okm 11 = true := by decide +kernel
set_option maxRecDepth 100000 in
theorem mm_ok12 : mm_okm 12 = true := by decide +kernel
set_option maxRecDepth 100000 in
theorem mm_ok13 : mm_okm 13 = true := by decide +kernel
set_option maxRecDepth 100000 in
theorem mm_ok14 : mm_okm 14 = true := by decide +kernel
set_option maxRecDepth 100000 in
theorem mm_ok15 : mm_okm 15 = true := by decide +kernel
set_option maxRecDepth 100000 in
theorem mm_ok16 : mm_okm 16 = true := by decide +kernel
set_option maxRecDepth 100000 in
theorem mm_ok17 : mm_okm 17 = true := by decide +kernel
set_option maxRecDepth 100000 in
theorem mm_ok18 : mm_okm 18 = true := by decide +kernel
set_option maxRecDepth 100000 in
theorem mm_ok19 : mm_okm 19 = true := by decide +kernel
set_option maxRecDepth 100000 in
theorem mm_ok20 : mm_okm 20 = true := by decide +kernel
set_option maxRecDepth 100000 in
theorem mm_ok21 : mm_okm 21 = true := by decide +kernel
set_option maxRecDepth 100000 in
theorem mm_ok22 : mm_okm 22 = true := by decide +kernel
set_option maxRecDepth 100000 in
theorem mm_ok23 : mm_okm 23 = true := by decide +kernel
set_option maxRecDepth 100000 in
theorem mm_ok24 : mm_okm 24 = true := by decide +kernel
set_option maxRecDepth 100000 in
theorem mm_ok25 : mm_okm 25 = true := by decide +kernel
set_option maxRecDepth 100000 in
theorem mm_ok26 : mm_okm 26 = true := by decide +kernel
set_option maxRecDepth 100000 in
theorem mm_ok27 : mm_okm 27 = true := by decide +kernel
set_option maxRecDepth 100000 in
theorem mm_ok28 : mm_okm 28 = true := by decide +kernel
set_option maxRecDepth 100000 in
theorem mm_ok29 : mm_okm 29 = true := by decide +kernel
set_option maxRecDepth 100000 in
theorem mm_ok30 : mm_okm 30 = true := by decide +kernel
set_option maxRecDepth 100000 in
theorem mm_ok31 : mm_okm 31 = true := by decide +kernel
set_option maxRecDepth 100000 in
theorem mm_ok32 : mm_okm 32 = true := by decide +kernel
set_option maxRecDepth 100000 in
theorem mm_ok33 : mm_okm 33 = true := by decide +kernel
set_option maxRecDepth 100000 in
theorem mm_ok34 : mm_okm 34 = true := by decide +kernel
set_option maxRecDepth 100000 in
theorem mm_ok35 : mm_okm 35 = true := by decide +kernel
set_option maxRecDepth 100000 in
theorem mm_ok36 : mm_okm 36 = true := by decide +kernel
set_option maxRecDepth 100000 in
theorem mm_ok37 : mm_okm 37 = true := by decide +kernel
set_option maxRecDepth 100000 in
theorem mm_ok38 : mm_okm 38 = true := by decide +kernel
set_option maxRecDepth 100000 in
theorem mm_ok39 : mm_okm 39 = true := by decide +kernel
set_option maxRecDepth 100000 in
theorem mm_ok40 : mm_okm 40 = true := by decide +kernel
set_option maxRecDepth 100000 in
theorem mm_ok41 : mm_okm 41 = true := by decide +kernel
set_option maxRecDepth 100000 in
theorem mm_ok42 : mm_okm 42 = true := by decide +kernel
set_option maxRecDepth 100000 in
theorem mm_ok43 : mm_okm 43 = true := by decide +kernel
set_option maxRecDepth 100000 in
theorem mm_ok44 : mm_okm 44 = true := by decide +kernel
set_option maxRecDepth 100000 in
theorem mm_ok45 : mm_okm 45 = true := by decide +kernel
set_option maxRecDepth 100000 in
theorem mm_ok46 : mm_okm 46 = true := by decide +kernel
set_option maxRecDepth 100000 in
theorem mm_ok47 : mm_okm 47 = true := by decide +kernel
set_option maxRecDepth 100000 in
theorem mm_ok48 : mm_okm 48 = true := by decide +kernel
set_option maxRecDepth 100000 in
theorem mm_ok49 : mm_okm 49 = true := by decide +kernel
set_option maxRecDepth 100000 in
theorem mm_ok50 : mm_okm 50 = true := by decide +kernel
set_option maxRecDepth 100000 in
theorem mm_ok51 : mm_okm 51 = true := by decide +kernel
set_option maxRecDepth 100000 in
theorem mm_ok52 : mm_okm 52 = true := by decide +kernel
set_option maxRecDepth 100000 in
theorem mm_ok53 : mm_okm 53 = true := by decide +kernel
set_option maxRecDepth 100000 in
theorem mm_ok54 : mm_okm 54 = true := by decide +kernel
set_option maxRecDepth 100000 in
theorem mm_ok55 : mm_okm 55 = true := by decide +kernel
set_option maxRecDepth 100000 in
theorem mm_ok56 : mm_okm 56 = true := by decide +kernel
set_option maxRecDepth 100000 in
theorem mm_ok57 : mm_okm 57 = true := by decide +kernel
set_option maxRecDepth 100000 in
theorem mm_ok58 : mm_okm 58 = true := by decide +kernel
set_option maxRecDepth 100000 in
theorem mm_ok59 : mm_okm 59 = true := by decide +kernel
set_option maxRecDepth 100000 in
theorem mm_ok60 : mm_okm 60 = true := by decide +kernel
set_option maxRecDepth 100000 in
theorem mm_ok61 : mm_okm 61 = true := by decide +kernel
set_option maxRecDepth 100000 in
theorem mm_ok62 : mm_okm 62 = true := by decide +kernel
set_option maxRecDepth 100000 in
theorem mm_ok63 : mm_okm 63 = true := by decide +kernel
set_option maxRecDepth 100000 in
theorem mm_ok64 : mm_okm 64 = true := by decide +kernel
set_option maxRecDepth 100000 in
theorem mm_ok65 : mm_okm 65 = true := by decide +kernel
set_option maxRecDepth 100000 in
theorem mm_ok66 : mm_okm 66 = true := by decide +kernel
set_option maxRecDepth 100000 in
theorem mm_ok67 : mm_okm 67 = true := by decide +kernel
set_option maxRecDepth 100000 in
theorem mm_ok68 : mm_okm 68 = true := by decide +kernel
set_option maxRecDepth 100000 in
theorem mm_ok69 : mm_okm 69 = true := by decide +kernel
set_option maxRecDepth 100000 in
theorem mm_ok70 : mm_okm 70 = true := by decide +kernel
set_option maxRecDepth 100000 in
theorem mm_ok71 : mm_okm 71 = true := by decide +kernel
set_option maxRecDepth 100000 in
theorem mm_ok72 : mm_okm 72 = true := by decide +kernel
set_option maxRecDepth 100000 in
theorem mm_ok73 : mm_okm 73 = true := by decide +kernel
set_option maxRecDepth 100000 in
theorem mm_ok74 : mm_okm 74 = true := by decide +kernel
set_option maxRecDepth 100000 in
theorem mm_ok75 : mm_okm 75 = true := by decide +kernel
set_option maxRecDepth 100000 in
theorem mm_ok76 : mm_okm 76 = true := by decide +kernel
set_option maxRecDepth 100000 in
theorem mm_ok77 : mm_okm 77 = true := by decide +kernel
set_option maxRecDepth 100000 in
theorem mm_ok78 : mm_okm 78 = true := by decide +kernel
set_option maxRecDepth 100000 in
theorem mm_ok79 : mm_okm 79 = true := by decide +kernel
set_option maxRecDepth 100000 in
theorem mm_ok80 : mm_okm 80 = true := by decide +kernel
set_option maxRecDepth 100000 in
theorem mm_ok81 : mm_okm 81 = true := by decide +kernel
set_option maxRecDepth 100000 in
theorem mm_ok82 : mm_okm 82 = true := by decide +kernel
set_option maxRecDepth 100000 in
theorem mm_ok83 : mm_okm 83 = true := by decide +kernel
set_option maxRecDepth 100000 in
theorem mm_ok84 : mm_okm 84 = true := by decide +kernel
set_option maxRecDepth 100000 in
theorem mm_ok85 : mm_okm 85 = true := by decide +kernel
set_option maxRecDepth 100000 in
theorem mm_ok86 : mm_okm 86 = true := by decide +kernel
set_option maxRecDepth 100000 in
theorem mm_ok87 : mm_okm 87 = true := by decide +kernel
set_option maxRecDepth 100000 in
theorem mm_ok88 : mm_okm 88 = true := by decide +kernel
set_option maxRecDepth 100000 in
theorem mm_ok89 : mm_okm 89 = true := by decide +kernel
set_option maxRecDepth 100000 in
theorem mm_ok90 : mm_okm 90 = true := by decide +kernel
set_option maxRecDepth 100000 in
theorem mm_ok91 : mm_okm 91 = true := by decide +kernel
set_option maxRecDepth 100000 in
theorem mm_ok92 : mm_okm 92 = true := by decide +kernel
set_option maxRecDepth 100000 in
theorem mm_ok93 : mm_okm 93 = true := by decide +kernel
set_option maxRecDepth 100000 in
theorem mm_ok94 : mm_okm 94 = true := by decide +kernel
set_option maxRecDepth 100000 in
theorem mm_ok95 : mm_okm 95 = true := by decide +kernel
set_option maxRecDepth 100000 in
theorem mm_ok96 : mm_okm 96 = true := by decide +kernel
