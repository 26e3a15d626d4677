set_option maxRecDepth 100000 in
theorem mm_cw0 : (mm_tab 1)[41]? = some (Cond.code (mm_y 0) (mm_b 0) (mm_maxL 0) (mm_rt (mm_rk 0))) := rfl
set_option maxRecDepth 100000 in
theorem mm_cw1 : (mm_tab 1)[70]? = some (Cond.code (mm_y 1) (mm_b 1) (mm_maxL 1) (mm_rt (mm_rk 1))) := rfl
set_option maxRecDepth 100000 in
theorem mm_cw2 : (mm_tab 4)[70]? = some (Cond.code (mm_y 2) (mm_b 2) (mm_maxL 2) (mm_rt (mm_rk 2))) := rfl
set_option maxRecDepth 100000 in
theorem mm_cw3 : (mm_tab 4)[217]? = some (Cond.code (mm_y 3) (mm_b 3) (mm_maxL 3) (mm_rt (mm_rk 3))) := rfl
set_option maxRecDepth 100000 in
theorem mm_cw4 : (mm_tab 4)[222]? = some (Cond.code (mm_y 4) (mm_b 4) (mm_maxL 4) (mm_rt (mm_rk 4))) := rfl
set_option maxRecDepth 100000 in
theorem mm_cw5 : (mm_tab 4)[227]? = some (Cond.code (mm_y 5) (mm_b 5) (mm_maxL 5) (mm_rt (mm_rk 5))) := rfl
set_option maxRecDepth 100000 in
theorem mm_cw6 : (mm_tab 2)[199]? = some (Cond.code (mm_y 6) (mm_b 6) (mm_maxL 6) (mm_rt (mm_rk 6))) := rfl
set_option maxRecDepth 100000 in
theorem mm_cw7 : (mm_tab 6)[24]? = some (Cond.code (mm_y 7) (mm_b 7) (mm_maxL 7) (mm_rt (mm_rk 7))) := rfl
set_option maxRecDepth 100000 in
theorem mm_cw8 : (mm_tab 6)[31]? = some (Cond.code (mm_y 8) (mm_b 8) (mm_maxL 8) (mm_rt (mm_rk 8))) := rfl
set_option maxRecDepth 100000 in
theorem mm_cw9 : (mm_tab 6)[43]? = some (Cond.code (mm_y 9) (mm_b 9) (mm_maxL 9) (mm_rt (mm_rk 9))) := rfl
set_option maxRecDepth 100000 in
theorem mm_cw10 : (mm_tab 6)[46]? = some (Cond.code (mm_y 10) (mm_b 10) (mm_maxL 10) (mm_rt (mm_rk 10))) := rfl
set_option maxRecDepth 100000 in
theorem mm_cw11 : (mm_tab 6)[49]? = some (Cond.code (mm_y 11) (mm_b 11) (mm_maxL 11) (mm_rt (mm_rk 11))) := rfl
set_option maxRecDepth 100000 in
theorem mm_cw12 : (mm_tab 2)[65]? = some (Cond.code (mm_y 12) (mm_b 12) (mm_maxL 12) (mm_rt (mm_rk 12))) := rfl
set_option maxRecDepth 100000 in
theorem mm_cw13 : (mm_tab 5)[7]? = some (Cond.code (mm_y 13) (mm_b 13) (mm_maxL 13) (mm_rt (mm_rk 13))) := rfl
set_option maxRecDepth 100000 in
theorem mm_cw14 : (mm_tab 5)[72]? = some (Cond.code (mm_y 14) (mm_b 14) (mm_maxL 14) (mm_rt (mm_rk 14))) := rfl
set_option maxRecDepth 100000 in
theorem mm_cw15 : (mm_tab 4)[102]? = some (Cond.code (mm_y 15) (mm_b 15) (mm_maxL 15) (mm_rt (mm_rk 15))) := rfl
set_option maxRecDepth 100000 in
theorem mm_cw16 : (mm_tab 5)[3]? = some (Cond.code (mm_y 16) (mm_b 16) (mm_maxL 16) (mm_rt (mm_rk 16))) := rfl
set_option maxRecDepth 100000 in
theorem mm_cw17 : (mm_tab 5)[68]? = some (Cond.code (mm_y 17) (mm_b 17) (mm_maxL 17) (mm_rt (mm_rk 17))) := rfl
set_option maxRecDepth 100000 in
theorem mm_cw18 : (mm_tab 5)[80]? = some (Cond.code (mm_y 18) (mm_b 18) (mm_maxL 18) (mm_rt (mm_rk 18))) := rfl
set_option maxRecDepth 100000 in
theorem mm_cw19 : (mm_tab 4)[106]? = some (Cond.code (mm_y 19) (mm_b 19) (mm_maxL 19) (mm_rt (mm_rk 19))) := rfl
set_option maxRecDepth 100000 in
theorem mm_cw20 : (mm_tab 6)[225]? = some (Cond.code (mm_y 20) (mm_b 20) (mm_maxL 20) (mm_rt (mm_rk 20))) := rfl
set_option maxRecDepth 100000 in
theorem mm_cw21 : (mm_tab 7)[4]? = some (Cond.code (mm_y 21) (mm_b 21) (mm_maxL 21) (mm_rt (mm_rk 21))) := rfl
set_option maxRecDepth 100000 in
theorem mm_cw22 : (mm_tab 2)[92]? = some (Cond.code (mm_y 22) (mm_b 22) (mm_maxL 22) (mm_rt (mm_rk 22))) := rfl
set_option maxRecDepth 100000 in
theorem mm_cw23 : (mm_tab 4)[110]? = some (Cond.code (mm_y 23) (mm_b 23) (mm_maxL 23) (mm_rt (mm_rk 23))) := rfl
set_option maxRecDepth 100000 in
theorem mm_cw24 : (mm_tab 5)[162]? = some (Cond.code (mm_y 24) (mm_b 24) (mm_maxL 24) (mm_rt (mm_rk 24))) := rfl
set_option maxRecDepth 100000 in
theorem mm_cw25 : (mm_tab 5)[158]? = some (Cond.code (mm_y 25) (mm_b 25) (mm_maxL 25) (mm_rt (mm_rk 25))) := rfl
set_option maxRecDepth 100000 in
theorem mm_cw26 : (mm_tab 6)[109]? = some (Cond.code (mm_y 26) (mm_b 26) (mm_maxL 26) (mm_rt (mm_rk 26))) := rfl
set_option maxRecDepth 100000 in
theorem mm_cw27 : (mm_tab 1)[161]? = some (Cond.code (mm_y 27) (mm_b 27) (mm_maxL 27) (mm_rt (mm_rk 27))) := rfl
set_option maxRecDepth 100000 in
theorem mm_cw28 : (mm_tab 1)[214]? = some (Cond.code (mm_y 28) (mm_b 28) (mm_maxL 28) (mm_rt (mm_rk 28))) := rfl
set_option maxRecDepth 100000 in
theorem mm_cw29 : (mm_tab 3)[98]? = some (Cond.code (mm_y 29) (mm_b 29) (mm_maxL 29) (mm_rt (mm_rk 29))) := rfl
set_option maxRecDepth 100000 in
theorem mm_cw30 : (mm_tab 3)[199]? = some (Cond.code (mm_y 30) (mm_b 30) (mm_maxL 30) (mm_rt (mm_rk 30))) := rfl
set_option maxRecDepth 100000 in
theorem mm_cw31 : (mm_tab 3)[113]? = some (Cond.code (mm_y 31) (mm_b 31) (mm_maxL 31) (mm_rt (mm_rk 31))) := rfl
set_option maxRecDepth 100000 in
theorem mm_cw32 : (mm_tab 3)[116]? = some (Cond.code (mm_y 32) (mm_b 32) (mm_maxL 32) (mm_rt (mm_rk 32))) := rfl
set_option maxRecDepth 100000 in
theorem mm_cw33 : (mm_tab 3)[127]? = some (Cond.code (mm_y 33) (mm_b 33) (mm_maxL 33) (mm_rt (mm_rk 33))) := rfl
set_option maxRecDepth 100000 in
theorem mm_cw34 : (mm_tab 3)[109]? = some (Cond.code (mm_y 34) (mm_b 34) (mm_maxL 34) (mm_rt (mm_rk 34))) := rfl
set_option maxRecDepth 100000 in
theorem mm_cw35 : (mm_tab 3)[120]? = some (Cond.code (mm_y 35) (mm_b 35) (mm_maxL 35) (mm_rt (mm_rk 35))) := rfl
set_option maxRecDepth 100000 in
theorem mm_cw36 : (mm_tab 3)[131]? = some (Cond.code (mm_y 36) (mm_b 36) (mm_maxL 36) (mm_rt (mm_rk 36))) := rfl
set_option maxRecDepth 100000 in
theorem mm_cw37 : (mm_tab 3)[124]? = some (Cond.code (mm_y 37) (mm_b 37) (mm_maxL 37) (mm_rt (mm_rk 37))) := rfl
set_option maxRecDepth 100000 in
theorem mm_cw38 : (mm_tab 3)[219]? = some (Cond.code (mm_y 38) (mm_b 38) (mm_maxL 38) (mm_rt (mm_rk 38))) := rfl
set_option maxRecDepth 100000 in
theorem mm_cw39 : (mm_tab 3)[227]? = some (Cond.code (mm_y 39) (mm_b 39) (mm_maxL 39) (mm_rt (mm_rk 39))) := rfl
set_option maxRecDepth 100000 in
theorem mm_cw40 : (mm_tab 3)[215]? = some (Cond.code (mm_y 40) (mm_b 40) (mm_maxL 40) (mm_rt (mm_rk 40))) := rfl
set_option maxRecDepth 100000 in
theorem mm_cw41 : (mm_tab 3)[223]? = some (Cond.code (mm_y 41) (mm_b 41) (mm_maxL 41) (mm_rt (mm_rk 41))) := rfl
set_option maxRecDepth 100000 in
theorem mm_cw42 : (mm_tab 3)[211]? = some (Cond.code (mm_y 42) (mm_b 42) (mm_maxL 42) (mm_rt (mm_rk 42))) := rfl
set_option maxRecDepth 100000 in
theorem mm_cw43 : (mm_tab 3)[207]? = some (Cond.code (mm_y 43) (mm_b 43) (mm_maxL 43) (mm_rt (mm_rk 43))) := rfl
set_option maxRecDepth 100000 in
theorem mm_cw44 : (mm_tab 3)[191]? = some (Cond.code (mm_y 44) (mm_b 44) (mm_maxL 44) (mm_rt (mm_rk 44))) := rfl
set_option maxRecDepth 100000 in
theorem mm_cw45 : (mm_tab 3)[195]? = some (Cond.code (mm_y 45) (mm_b 45) (mm_maxL 45) (mm_rt (mm_rk 45))) := rfl
set_option maxRecDepth 100000 in
theorem mm_cw46 : (mm_tab 3)[203]? = some (Cond.code (mm_y 46) (mm_b 46) (mm_maxL 46) (mm_rt (mm_rk 46))) := rfl
set_option maxRecDepth 100000 in
theorem mm_cw47 : (mm_tab 3)[231]? = some (Cond.code (mm_y 47) (mm_b 47) (mm_maxL 47) (mm_rt (mm_rk 47))) := rfl
set_option maxRecDepth 100000 in
theorem mm_cw48 : (mm_tab 4)[11]? = some (Cond.code (mm_y 48) (mm_b 48) (mm_maxL 48) (mm_rt (mm_rk 48))) := rfl
set_option maxRecDepth 100000 in
theorem mm_cw49 : (mm_tab 4)[27]? = some (Cond.code (mm_y 49) (mm_b 49) (mm_maxL 49) (mm_rt (mm_rk 49))) := rfl
set_option maxRecDepth 100000 in
theorem mm_cw50 : (mm_tab 4)[23]? = some (Cond.code (mm_y 50) (mm_b 50) (mm_maxL 50) (mm_rt (mm_rk 50))) := rfl
set_option maxRecDepth 100000 in
theorem mm_cw51 : (mm_tab 4)[46]? = some (Cond.code (mm_y 51) (mm_b 51) (mm_maxL 51) (mm_rt (mm_rk 51))) := rfl
set_option maxRecDepth 100000 in
theorem mm_cw52 : (mm_tab 4)[93]? = some (Cond.code (mm_y 52) (mm_b 52) (mm_maxL 52) (mm_rt (mm_rk 52))) := rfl
set_option maxRecDepth 100000 in
theorem mm_cw53 : (mm_tab 4)[97]? = some (Cond.code (mm_y 53) (mm_b 53) (mm_maxL 53) (mm_rt (mm_rk 53))) := rfl
set_option maxRecDepth 100000 in
theorem mm_cw54 : (mm_tab 4)[54]? = some (Cond.code (mm_y 54) (mm_b 54) (mm_maxL 54) (mm_rt (mm_rk 54))) := rfl
set_option maxRecDepth 100000 in
theorem mm_cw55 : (mm_tab 4)[58]? = some (Cond.code (mm_y 55) (mm_b 55) (mm_maxL 55) (mm_rt (mm_rk 55))) := rfl
set_option maxRecDepth 100000 in
theorem mm_cw56 : (mm_tab 4)[62]? = some (Cond.code (mm_y 56) (mm_b 56) (mm_maxL 56) (mm_rt (mm_rk 56))) := rfl
set_option maxRecDepth 100000 in
theorem mm_cw57 : (mm_tab 4)[66]? = some (Cond.code (mm_y 57) (mm_b 57) (mm_maxL 57) (mm_rt (mm_rk 57))) := rfl
set_option maxRecDepth 100000 in
theorem mm_cw58 : (mm_tab 4)[74]? = some (Cond.code (mm_y 58) (mm_b 58) (mm_maxL 58) (mm_rt (mm_rk 58))) := rfl
set_option maxRecDepth 100000 in
theorem mm_cw59 : (mm_tab 4)[78]? = some (Cond.code (mm_y 59) (mm_b 59) (mm_maxL 59) (mm_rt (mm_rk 59))) := rfl
set_option maxRecDepth 100000 in
theorem mm_cw60 : (mm_tab 4)[82]? = some (Cond.code (mm_y 60) (mm_b 60) (mm_maxL 60) (mm_rt (mm_rk 60))) := rfl
set_option maxRecDepth 100000 in
theorem mm_cw61 : (mm_tab 4)[89]? = some (Cond.code (mm_y 61) (mm_b 61) (mm_maxL 61) (mm_rt (mm_rk 61))) := rfl
set_option maxRecDepth 100000 in
theorem mm_cw62 : (mm_tab 4)[85]? = some (Cond.code (mm_y 62) (mm_b 62) (mm_maxL 62) (mm_rt (mm_rk 62))) := rfl
set_option maxRecDepth 100000 in
theorem mm_cw63 : (mm_tab 1)[35]? = some (Cond.code (mm_y 63) (mm_b 63) (mm_maxL 63) (mm_rt (mm_rk 63))) := rfl
set_option maxRecDepth 100000 in
theorem mm_cw64 : (mm_tab 1)[66]? = some (Cond.code (mm_y 64) (mm_b 64) (mm_maxL 64) (mm_rt (mm_rk 64))) := rfl
set_option maxRecDepth 100000 in
theorem mm_cw65 : (mm_tab 4)[2]? = some (Cond.code (mm_y 65) (mm_b 65) (mm_maxL 65) (mm_rt (mm_rk 65))) := rfl
set_option maxRecDepth 100000 in
theorem mm_cw66 : (mm_tab 3)[239]? = some (Cond.code (mm_y 66) (mm_b 66) (mm_maxL 66) (mm_rt (mm_rk 66))) := rfl
set_option maxRecDepth 100000 in
theorem mm_cw67 : (mm_tab 3)[235]? = some (Cond.code (mm_y 67) (mm_b 67) (mm_maxL 67) (mm_rt (mm_rk 67))) := rfl
set_option maxRecDepth 100000 in
theorem mm_cw68 : (mm_tab 4)[194]? = some (Cond.code (mm_y 68) (mm_b 68) (mm_maxL 68) (mm_rt (mm_rk 68))) := rfl
set_option maxRecDepth 100000 in
theorem mm_cw69 : (mm_tab 4)[15]? = some (Cond.code (mm_y 69) (mm_b 69) (mm_maxL 69) (mm_rt (mm_rk 69))) := rfl
set_option maxRecDepth 100000 in
theorem mm_cw70 : (mm_tab 4)[6]? = some (Cond.code (mm_y 70) (mm_b 70) (mm_maxL 70) (mm_rt (mm_rk 70))) := rfl
set_option maxRecDepth 100000 in
theorem mm_cw71 : (mm_tab 4)[19]? = some (Cond.code (mm_y 71) (mm_b 71) (mm_maxL 71) (mm_rt (mm_rk 71))) := rfl
set_option maxRecDepth 100000 in
theorem mm_cw72 : (mm_tab 4)[42]? = some (Cond.code (mm_y 72) (mm_b 72) (mm_maxL 72) (mm_rt (mm_rk 72))) := rfl
set_option maxRecDepth 100000 in
theorem mm_cw73 : (mm_tab 4)[50]? = some (Cond.code (mm_y 73) (mm_b 73) (mm_maxL 73) (mm_rt (mm_rk 73))) := rfl
set_option maxRecDepth 100000 in
theorem mm_cw74 : (mm_tab 4)[31]? = some (Cond.code (mm_y 74) (mm_b 74) (mm_maxL 74) (mm_rt (mm_rk 74))) := rfl
set_option maxRecDepth 100000 in
theorem mm_cw75 : (mm_tab 4)[38]? = some (Cond.code (mm_y 75) (mm_b 75) (mm_maxL 75) (mm_rt (mm_rk 75))) := rfl
set_option maxRecDepth 100000 in
theorem mm_cw76 : (mm_tab 4)[34]? = some (Cond.code (mm_y 76) (mm_b 76) (mm_maxL 76) (mm_rt (mm_rk 76))) := rfl
set_option maxRecDepth 100000 in
theorem mm_cw77 : (mm_tab 4)[155]? = some (Cond.code (mm_y 77) (mm_b 77) (mm_maxL 77) (mm_rt (mm_rk 77))) := rfl
set_option maxRecDepth 100000 in
theorem mm_cw78 : (mm_tab 2)[32]? = some (Cond.code (mm_y 78) (mm_b 78) (mm_maxL 78) (mm_rt (mm_rk 78))) := rfl
set_option maxRecDepth 100000 in
theorem mm_cw79 : (mm_tab 4)[159]? = some (Cond.code (mm_y 79) (mm_b 79) (mm_maxL 79) (mm_rt (mm_rk 79))) := rfl
set_option maxRecDepth 100000 in
theorem mm_cw80 : (mm_tab 4)[171]? = some (Cond.code (mm_y 80) (mm_b 80) (mm_maxL 80) (mm_rt (mm_rk 80))) := rfl
set_option maxRecDepth 100000 in
theorem mm_cw81 : (mm_tab 5)[24]? = some (Cond.code (mm_y 81) (mm_b 81) (mm_maxL 81) (mm_rt (mm_rk 81))) := rfl
set_option maxRecDepth 100000 in
theorem mm_cw82 : (mm_tab 4)[213]? = some (Cond.code (mm_y 82) (mm_b 82) (mm_maxL 82) (mm_rt (mm_rk 82))) := rfl
set_option maxRecDepth 100000 in
theorem mm_cw83 : (mm_tab 2)[106]? = some (Cond.code (mm_y 83) (mm_b 83) (mm_maxL 83) (mm_rt (mm_rk 83))) := rfl
set_option maxRecDepth 100000 in
theorem mm_cw84 : (mm_tab 5)[94]? = some (Cond.code (mm_y 84) (mm_b 84) (mm_maxL 84) (mm_rt (mm_rk 84))) := rfl
set_option maxRecDepth 100000 in
theorem mm_cw85 : (mm_tab 5)[88]? = some (Cond.code (mm_y 85) (mm_b 85) (mm_maxL 85) (mm_rt (mm_rk 85))) := rfl
set_option maxRecDepth 100000 in
theorem mm_cw86 : (mm_tab 5)[104]? = some (Cond.code (mm_y 86) (mm_b 86) (mm_maxL 86) (mm_rt (mm_rk 86))) := rfl
set_option maxRecDepth 100000 in
theorem mm_cw87 : (mm_tab 5)[115]? = some (Cond.code (mm_y 87) (mm_b 87) (mm_maxL 87) (mm_rt (mm_rk 87))) := rfl
set_option maxRecDepth 100000 in
theorem mm_cw88 : (mm_tab 5)[112]? = some (Cond.code (mm_y 88) (mm_b 88) (mm_maxL 88) (mm_rt (mm_rk 88))) := rfl
set_option maxRecDepth 100000 in
theorem mm_cw89 : (mm_tab 5)[120]? = some (Cond.code (mm_y 89) (mm_b 89) (mm_maxL 89) (mm_rt (mm_rk 89))) := rfl
set_option maxRecDepth 100000 in
theorem mm_cw90 : (mm_tab 5)[170]? = some (Cond.code (mm_y 90) (mm_b 90) (mm_maxL 90) (mm_rt (mm_rk 90))) := rfl
set_option maxRecDepth 100000 in
theorem mm_cw91 : (mm_tab 5)[174]? = some (Cond.code (mm_y 91) (mm_b 91) (mm_maxL 91) (mm_rt (mm_rk 91))) := rfl
set_option maxRecDepth 100000 in
theorem mm_cw92 : (mm_tab 5)[178]? = some (Cond.code (mm_y 92) (mm_b 92) (mm_maxL 92) (mm_rt (mm_rk 92))) := rfl
set_option maxRecDepth 100000 in
theorem mm_cw93 : (mm_tab 5)[186]? = some (Cond.code (mm_y 93) (mm_b 93) (mm_maxL 93) (mm_rt (mm_rk 93))) := rfl
set_option maxRecDepth 100000 in
theorem mm_cw94 : (mm_tab 6)[16]? = some (Cond.code (mm_y 94) (mm_b 94) (mm_maxL 94) (mm_rt (mm_rk 94))) := rfl
set_option maxRecDepth 100000 in
theorem mm_cw95 : (mm_tab 6)[66]? = some (Cond.code (mm_y 95) (mm_b 95) (mm_maxL 95) (mm_rt (mm_rk 95))) := rfl
set_option maxRecDepth 100000 in
theorem mm_cw96 : (mm_tab 6)[72]? = some (Cond.code (mm_y 96) (mm_b 96) (mm_maxL 96) (mm_rt (mm_rk 96))) := rfl
set_option maxRecDepth 100000 in
theorem mm_cw97 : (mm_tab 6)[76]? = some (Cond.code (mm_y 97) (mm_b 97) (mm_maxL 97) (mm_rt (mm_rk 97))) := rfl
set_option maxRecDepth 100000 in
theorem mm_cw98 : (mm_tab 6)[79]? = some (Cond.code (mm_y 98) (mm_b 98) (mm_maxL 98) (mm_rt (mm_rk 98))) := rfl
set_option maxRecDepth 100000 in
theorem mm_cw99 : (mm_tab 2)[22]? = some (Cond.code (mm_y 99) (mm_b 99) (mm_maxL 99) (mm_rt (mm_rk 99))) := rfl
set_option maxRecDepth 100000 in
theorem mm_cw100 : (mm_tab 2)[27]? = some (Cond.code (mm_y 100) (mm_b 100) (mm_maxL 100) (mm_rt (mm_rk 100))) := rfl
set_option maxRecDepth 100000 in
theorem mm_cw101 : (mm_tab 4)[126]? = some (Cond.code (mm_y 101) (mm_b 101) (mm_maxL 101) (mm_rt (mm_rk 101))) := rfl
set_option maxRecDepth 100000 in
theorem mm_cw102 : (mm_tab 4)[183]? = some (Cond.code (mm_y 102) (mm_b 102) (mm_maxL 102) (mm_rt (mm_rk 102))) := rfl
set_option maxRecDepth 100000 in
theorem mm_cw103 : (mm_tab 4)[134]? = some (Cond.code (mm_y 103) (mm_b 103) (mm_maxL 103) (mm_rt (mm_rk 103))) := rfl
set_option maxRecDepth 100000 in
theorem mm_cw104 : (mm_tab 2)[39]? = some (Cond.code (mm_y 104) (mm_b 104) (mm_maxL 104) (mm_rt (mm_rk 104))) := rfl
set_option maxRecDepth 100000 in
theorem mm_cw105 : (mm_tab 4)[130]? = some (Cond.code (mm_y 105) (mm_b 105) (mm_maxL 105) (mm_rt (mm_rk 105))) := rfl
set_option maxRecDepth 100000 in
theorem mm_cw106 : (mm_tab 4)[139]? = some (Cond.code (mm_y 106) (mm_b 106) (mm_maxL 106) (mm_rt (mm_rk 106))) := rfl
set_option maxRecDepth 100000 in
theorem mm_cw107 : (mm_tab 4)[143]? = some (Cond.code (mm_y 107) (mm_b 107) (mm_maxL 107) (mm_rt (mm_rk 107))) := rfl
set_option maxRecDepth 100000 in
theorem mm_cw108 : (mm_tab 5)[60]? = some (Cond.code (mm_y 108) (mm_b 108) (mm_maxL 108) (mm_rt (mm_rk 108))) := rfl
set_option maxRecDepth 100000 in
theorem mm_cw109 : (mm_tab 4)[147]? = some (Cond.code (mm_y 109) (mm_b 109) (mm_maxL 109) (mm_rt (mm_rk 109))) := rfl
set_option maxRecDepth 100000 in
theorem mm_cw110 : (mm_tab 4)[151]? = some (Cond.code (mm_y 110) (mm_b 110) (mm_maxL 110) (mm_rt (mm_rk 110))) := rfl
set_option maxRecDepth 100000 in
theorem mm_cw111 : (mm_tab 5)[140]? = some (Cond.code (mm_y 111) (mm_b 111) (mm_maxL 111) (mm_rt (mm_rk 111))) := rfl
set_option maxRecDepth 100000 in
theorem mm_cw112 : (mm_tab 4)[167]? = some (Cond.code (mm_y 112) (mm_b 112) (mm_maxL 112) (mm_rt (mm_rk 112))) := rfl
set_option maxRecDepth 100000 in
theorem mm_cw113 : (mm_tab 2)[46]? = some (Cond.code (mm_y 113) (mm_b 113) (mm_maxL 113) (mm_rt (mm_rk 113))) := rfl
set_option maxRecDepth 100000 in
theorem mm_cw114 : (mm_tab 5)[18]? = some (Cond.code (mm_y 114) (mm_b 114) (mm_maxL 114) (mm_rt (mm_rk 114))) := rfl
set_option maxRecDepth 100000 in
theorem mm_cw115 : (mm_tab 5)[202]? = some (Cond.code (mm_y 115) (mm_b 115) (mm_maxL 115) (mm_rt (mm_rk 115))) := rfl
set_option maxRecDepth 100000 in
theorem mm_cw116 : (mm_tab 4)[175]? = some (Cond.code (mm_y 116) (mm_b 116) (mm_maxL 116) (mm_rt (mm_rk 116))) := rfl
set_option maxRecDepth 100000 in
theorem mm_cw117 : (mm_tab 6)[229]? = some (Cond.code (mm_y 117) (mm_b 117) (mm_maxL 117) (mm_rt (mm_rk 117))) := rfl
set_option maxRecDepth 100000 in
theorem mm_cw118 : (mm_tab 4)[163]? = some (Cond.code (mm_y 118) (mm_b 118) (mm_maxL 118) (mm_rt (mm_rk 118))) := rfl
set_option maxRecDepth 100000 in
theorem mm_cw119 : (mm_tab 5)[39]? = some (Cond.code (mm_y 119) (mm_b 119) (mm_maxL 119) (mm_rt (mm_rk 119))) := rfl
set_option maxRecDepth 100000 in
theorem mm_cw120 : (mm_tab 5)[43]? = some (Cond.code (mm_y 120) (mm_b 120) (mm_maxL 120) (mm_rt (mm_rk 120))) := rfl
set_option maxRecDepth 100000 in
theorem mm_cw121 : (mm_tab 5)[35]? = some (Cond.code (mm_y 121) (mm_b 121) (mm_maxL 121) (mm_rt (mm_rk 121))) := rfl
set_option maxRecDepth 100000 in
theorem mm_cw122 : (mm_tab 4)[239]? = some (Cond.code (mm_y 122) (mm_b 122) (mm_maxL 122) (mm_rt (mm_rk 122))) := rfl
set_option maxRecDepth 100000 in
theorem mm_cw123 : (mm_tab 4)[204]? = some (Cond.code (mm_y 123) (mm_b 123) (mm_maxL 123) (mm_rt (mm_rk 123))) := rfl
set_option maxRecDepth 100000 in
theorem mm_cw124 : (mm_tab 5)[14]? = some (Cond.code (mm_y 124) (mm_b 124) (mm_maxL 124) (mm_rt (mm_rk 124))) := rfl
set_option maxRecDepth 100000 in
theorem mm_cw125 : (mm_tab 2)[129]? = some (Cond.code (mm_y 125) (mm_b 125) (mm_maxL 125) (mm_rt (mm_rk 125))) := rfl
set_option maxRecDepth 100000 in
theorem mm_cw126 : (mm_tab 5)[129]? = some (Cond.code (mm_y 126) (mm_b 126) (mm_maxL 126) (mm_rt (mm_rk 126))) := rfl
set_option maxRecDepth 100000 in
theorem mm_cw127 : (mm_tab 5)[136]? = some (Cond.code (mm_y 127) (mm_b 127) (mm_maxL 127) (mm_rt (mm_rk 127))) := rfl
set_option maxRecDepth 100000 in
theorem mm_cw128 : (mm_tab 5)[144]? = some (Cond.code (mm_y 128) (mm_b 128) (mm_maxL 128) (mm_rt (mm_rk 128))) := rfl
set_option maxRecDepth 100000 in
theorem mm_cw129 : (mm_tab 6)[58]? = some (Cond.code (mm_y 129) (mm_b 129) (mm_maxL 129) (mm_rt (mm_rk 129))) := rfl
set_option maxRecDepth 100000 in
theorem mm_cw130 : (mm_tab 2)[167]? = some (Cond.code (mm_y 130) (mm_b 130) (mm_maxL 130) (mm_rt (mm_rk 130))) := rfl
set_option maxRecDepth 100000 in
theorem mm_cw131 : (mm_tab 5)[206]? = some (Cond.code (mm_y 131) (mm_b 131) (mm_maxL 131) (mm_rt (mm_rk 131))) := rfl
set_option maxRecDepth 100000 in
theorem mm_cw132 : (mm_tab 5)[194]? = some (Cond.code (mm_y 132) (mm_b 132) (mm_maxL 132) (mm_rt (mm_rk 132))) := rfl
set_option maxRecDepth 100000 in
theorem mm_cw133 : (mm_tab 5)[216]? = some (Cond.code (mm_y 133) (mm_b 133) (mm_maxL 133) (mm_rt (mm_rk 133))) := rfl
set_option maxRecDepth 100000 in
theorem mm_cw134 : (mm_tab 6)[7]? = some (Cond.code (mm_y 134) (mm_b 134) (mm_maxL 134) (mm_rt (mm_rk 134))) := rfl
set_option maxRecDepth 100000 in
theorem mm_cw135 : (mm_tab 5)[221]? = some (Cond.code (mm_y 135) (mm_b 135) (mm_maxL 135) (mm_rt (mm_rk 135))) := rfl
set_option maxRecDepth 100000 in
theorem mm_cw136 : (mm_tab 5)[226]? = some (Cond.code (mm_y 136) (mm_b 136) (mm_maxL 136) (mm_rt (mm_rk 136))) := rfl
set_option maxRecDepth 100000 in
theorem mm_cw137 : (mm_tab 5)[231]? = some (Cond.code (mm_y 137) (mm_b 137) (mm_maxL 137) (mm_rt (mm_rk 137))) := rfl
set_option maxRecDepth 100000 in
theorem mm_cw138 : (mm_tab 5)[239]? = some (Cond.code (mm_y 138) (mm_b 138) (mm_maxL 138) (mm_rt (mm_rk 138))) := rfl
set_option maxRecDepth 100000 in
theorem mm_cw139 : (mm_tab 2)[238]? = some (Cond.code (mm_y 139) (mm_b 139) (mm_maxL 139) (mm_rt (mm_rk 139))) := rfl
set_option maxRecDepth 100000 in
theorem mm_cw140 : (mm_tab 4)[114]? = some (Cond.code (mm_y 140) (mm_b 140) (mm_maxL 140) (mm_rt (mm_rk 140))) := rfl
set_option maxRecDepth 100000 in
theorem mm_cw141 : (mm_tab 6)[139]? = some (Cond.code (mm_y 141) (mm_b 141) (mm_maxL 141) (mm_rt (mm_rk 141))) := rfl
set_option maxRecDepth 100000 in
theorem mm_cw142 : (mm_tab 6)[122]? = some (Cond.code (mm_y 142) (mm_b 142) (mm_maxL 142) (mm_rt (mm_rk 142))) := rfl
set_option maxRecDepth 100000 in
theorem mm_cw143 : (mm_tab 6)[118]? = some (Cond.code (mm_y 143) (mm_b 143) (mm_maxL 143) (mm_rt (mm_rk 143))) := rfl
set_option maxRecDepth 100000 in
theorem mm_cw144 : (mm_tab 6)[135]? = some (Cond.code (mm_y 144) (mm_b 144) (mm_maxL 144) (mm_rt (mm_rk 144))) := rfl
set_option maxRecDepth 100000 in
theorem mm_cw145 : (mm_tab 6)[148]? = some (Cond.code (mm_y 145) (mm_b 145) (mm_maxL 145) (mm_rt (mm_rk 145))) := rfl
set_option maxRecDepth 100000 in
theorem mm_cw146 : (mm_tab 6)[162]? = some (Cond.code (mm_y 146) (mm_b 146) (mm_maxL 146) (mm_rt (mm_rk 146))) := rfl
set_option maxRecDepth 100000 in
theorem mm_cw147 : (mm_tab 6)[167]? = some (Cond.code (mm_y 147) (mm_b 147) (mm_maxL 147) (mm_rt (mm_rk 147))) := rfl
set_option maxRecDepth 100000 in
theorem mm_cw148 : (mm_tab 6)[183]? = some (Cond.code (mm_y 148) (mm_b 148) (mm_maxL 148) (mm_rt (mm_rk 148))) := rfl
set_option maxRecDepth 100000 in
theorem mm_cw149 : (mm_tab 6)[179]? = some (Cond.code (mm_y 149) (mm_b 149) (mm_maxL 149) (mm_rt (mm_rk 149))) := rfl
set_option maxRecDepth 100000 in
theorem mm_cw150 : (mm_tab 6)[176]? = some (Cond.code (mm_y 150) (mm_b 150) (mm_maxL 150) (mm_rt (mm_rk 150))) := rfl
set_option maxRecDepth 100000 in
theorem mm_cw151 : (mm_tab 6)[192]? = some (Cond.code (mm_y 151) (mm_b 151) (mm_maxL 151) (mm_rt (mm_rk 151))) := rfl
set_option maxRecDepth 100000 in
theorem mm_cw152 : (mm_tab 6)[157]? = some (Cond.code (mm_y 152) (mm_b 152) (mm_maxL 152) (mm_rt (mm_rk 152))) := rfl
set_option maxRecDepth 100000 in
theorem mm_cw153 : (mm_tab 6)[195]? = some (Cond.code (mm_y 153) (mm_b 153) (mm_maxL 153) (mm_rt (mm_rk 153))) := rfl
set_option maxRecDepth 100000 in
theorem mm_cw154 : (mm_tab 6)[188]? = some (Cond.code (mm_y 154) (mm_b 154) (mm_maxL 154) (mm_rt (mm_rk 154))) := rfl
set_option maxRecDepth 100000 in
theorem mm_cw155 : (mm_tab 6)[203]? = some (Cond.code (mm_y 155) (mm_b 155) (mm_maxL 155) (mm_rt (mm_rk 155))) := rfl
set_option maxRecDepth 100000 in
theorem mm_cw156 : (mm_tab 6)[216]? = some (Cond.code (mm_y 156) (mm_b 156) (mm_maxL 156) (mm_rt (mm_rk 156))) := rfl
set_option maxRecDepth 100000 in
theorem mm_cw157 : (mm_tab 6)[212]? = some (Cond.code (mm_y 157) (mm_b 157) (mm_maxL 157) (mm_rt (mm_rk 157))) := rfl
set_option maxRecDepth 100000 in
theorem mm_cw158 : (mm_tab 1)[27]? = some (Cond.code (mm_y 158) (mm_b 158) (mm_maxL 158) (mm_rt (mm_rk 158))) := rfl
set_option maxRecDepth 100000 in
theorem mm_cw159 : (mm_tab 3)[82]? = some (Cond.code (mm_y 159) (mm_b 159) (mm_maxL 159) (mm_rt (mm_rk 159))) := rfl
set_option maxRecDepth 100000 in
theorem mm_cw160 : (mm_tab 3)[86]? = some (Cond.code (mm_y 160) (mm_b 160) (mm_maxL 160) (mm_rt (mm_rk 160))) := rfl
set_option maxRecDepth 100000 in
theorem mm_cw161 : (mm_tab 3)[90]? = some (Cond.code (mm_y 161) (mm_b 161) (mm_maxL 161) (mm_rt (mm_rk 161))) := rfl
set_option maxRecDepth 100000 in
theorem mm_cw162 : (mm_tab 3)[94]? = some (Cond.code (mm_y 162) (mm_b 162) (mm_maxL 162) (mm_rt (mm_rk 162))) := rfl
set_option maxRecDepth 100000 in
theorem mm_cw163 : (mm_tab 4)[118]? = some (Cond.code (mm_y 163) (mm_b 163) (mm_maxL 163) (mm_rt (mm_rk 163))) := rfl
set_option maxRecDepth 100000 in
theorem mm_cw164 : (mm_tab 4)[122]? = some (Cond.code (mm_y 164) (mm_b 164) (mm_maxL 164) (mm_rt (mm_rk 164))) := rfl
set_option maxRecDepth 100000 in
theorem mm_cw165 : (mm_tab 4)[179]? = some (Cond.code (mm_y 165) (mm_b 165) (mm_maxL 165) (mm_rt (mm_rk 165))) := rfl
set_option maxRecDepth 100000 in
theorem mm_cw166 : (mm_tab 4)[189]? = some (Cond.code (mm_y 166) (mm_b 166) (mm_maxL 166) (mm_rt (mm_rk 166))) := rfl
set_option maxRecDepth 100000 in
theorem mm_cw167 : (mm_tab 4)[200]? = some (Cond.code (mm_y 167) (mm_b 167) (mm_maxL 167) (mm_rt (mm_rk 167))) := rfl
set_option maxRecDepth 100000 in
theorem mm_cw168 : (mm_tab 4)[232]? = some (Cond.code (mm_y 168) (mm_b 168) (mm_maxL 168) (mm_rt (mm_rk 168))) := rfl
set_option maxRecDepth 100000 in
theorem mm_cw169 : (mm_tab 4)[235]? = some (Cond.code (mm_y 169) (mm_b 169) (mm_maxL 169) (mm_rt (mm_rk 169))) := rfl
set_option maxRecDepth 100000 in
theorem mm_cw170 : (mm_tab 5)[31]? = some (Cond.code (mm_y 170) (mm_b 170) (mm_maxL 170) (mm_rt (mm_rk 170))) := rfl
set_option maxRecDepth 100000 in
theorem mm_cw171 : (mm_tab 5)[49]? = some (Cond.code (mm_y 171) (mm_b 171) (mm_maxL 171) (mm_rt (mm_rk 171))) := rfl
set_option maxRecDepth 100000 in
theorem mm_cw172 : (mm_tab 5)[55]? = some (Cond.code (mm_y 172) (mm_b 172) (mm_maxL 172) (mm_rt (mm_rk 172))) := rfl
set_option maxRecDepth 100000 in
theorem mm_cw173 : (mm_tab 5)[64]? = some (Cond.code (mm_y 173) (mm_b 173) (mm_maxL 173) (mm_rt (mm_rk 173))) := rfl
set_option maxRecDepth 100000 in
theorem mm_cw174 : (mm_tab 5)[76]? = some (Cond.code (mm_y 174) (mm_b 174) (mm_maxL 174) (mm_rt (mm_rk 174))) := rfl
set_option maxRecDepth 100000 in
theorem mm_cw175 : (mm_tab 5)[84]? = some (Cond.code (mm_y 175) (mm_b 175) (mm_maxL 175) (mm_rt (mm_rk 175))) := rfl
set_option maxRecDepth 100000 in
theorem mm_cw176 : (mm_tab 5)[100]? = some (Cond.code (mm_y 176) (mm_b 176) (mm_maxL 176) (mm_rt (mm_rk 176))) := rfl
set_option maxRecDepth 100000 in
theorem mm_cw177 : (mm_tab 5)[108]? = some (Cond.code (mm_y 177) (mm_b 177) (mm_maxL 177) (mm_rt (mm_rk 177))) := rfl
set_option maxRecDepth 100000 in
theorem mm_cw178 : (mm_tab 5)[125]? = some (Cond.code (mm_y 178) (mm_b 178) (mm_maxL 178) (mm_rt (mm_rk 178))) := rfl
set_option maxRecDepth 100000 in
theorem mm_cw179 : (mm_tab 5)[166]? = some (Cond.code (mm_y 179) (mm_b 179) (mm_maxL 179) (mm_rt (mm_rk 179))) := rfl
set_option maxRecDepth 100000 in
theorem mm_cw180 : (mm_tab 5)[190]? = some (Cond.code (mm_y 180) (mm_b 180) (mm_maxL 180) (mm_rt (mm_rk 180))) := rfl
set_option maxRecDepth 100000 in
theorem mm_cw181 : (mm_tab 5)[212]? = some (Cond.code (mm_y 181) (mm_b 181) (mm_maxL 181) (mm_rt (mm_rk 181))) := rfl
set_option maxRecDepth 100000 in
theorem mm_cw182 : (mm_tab 6)[3]? = some (Cond.code (mm_y 182) (mm_b 182) (mm_maxL 182) (mm_rt (mm_rk 182))) := rfl
set_option maxRecDepth 100000 in
theorem mm_cw183 : (mm_tab 6)[12]? = some (Cond.code (mm_y 183) (mm_b 183) (mm_maxL 183) (mm_rt (mm_rk 183))) := rfl
set_option maxRecDepth 100000 in
theorem mm_cw184 : (mm_tab 6)[20]? = some (Cond.code (mm_y 184) (mm_b 184) (mm_maxL 184) (mm_rt (mm_rk 184))) := rfl
set_option maxRecDepth 100000 in
theorem mm_cw185 : (mm_tab 6)[39]? = some (Cond.code (mm_y 185) (mm_b 185) (mm_maxL 185) (mm_rt (mm_rk 185))) := rfl
set_option maxRecDepth 100000 in
theorem mm_cw186 : (mm_tab 6)[54]? = some (Cond.code (mm_y 186) (mm_b 186) (mm_maxL 186) (mm_rt (mm_rk 186))) := rfl
set_option maxRecDepth 100000 in
theorem mm_cw187 : (mm_tab 6)[62]? = some (Cond.code (mm_y 187) (mm_b 187) (mm_maxL 187) (mm_rt (mm_rk 187))) := rfl
set_option maxRecDepth 100000 in
theorem mm_cw188 : (mm_tab 6)[84]? = some (Cond.code (mm_y 188) (mm_b 188) (mm_maxL 188) (mm_rt (mm_rk 188))) := rfl
set_option maxRecDepth 100000 in
theorem mm_cw189 : (mm_tab 6)[88]? = some (Cond.code (mm_y 189) (mm_b 189) (mm_maxL 189) (mm_rt (mm_rk 189))) := rfl
set_option maxRecDepth 100000 in
theorem mm_cw190 : (mm_tab 6)[93]? = some (Cond.code (mm_y 190) (mm_b 190) (mm_maxL 190) (mm_rt (mm_rk 190))) := rfl
set_option maxRecDepth 100000 in
theorem mm_cw191 : (mm_tab 6)[97]? = some (Cond.code (mm_y 191) (mm_b 191) (mm_maxL 191) (mm_rt (mm_rk 191))) := rfl
set_option maxRecDepth 100000 in
theorem mm_cw192 : (mm_tab 6)[101]? = some (Cond.code (mm_y 192) (mm_b 192) (mm_maxL 192) (mm_rt (mm_rk 192))) := rfl
set_option maxRecDepth 100000 in
theorem mm_cw193 : (mm_tab 6)[105]? = some (Cond.code (mm_y 193) (mm_b 193) (mm_maxL 193) (mm_rt (mm_rk 193))) := rfl
set_option maxRecDepth 100000 in
theorem mm_cw194 : (mm_tab 6)[114]? = some (Cond.code (mm_y 194) (mm_b 194) (mm_maxL 194) (mm_rt (mm_rk 194))) := rfl
set_option maxRecDepth 100000 in
theorem mm_cw195 : (mm_tab 6)[127]? = some (Cond.code (mm_y 195) (mm_b 195) (mm_maxL 195) (mm_rt (mm_rk 195))) := rfl
set_option maxRecDepth 100000 in
theorem mm_cw196 : (mm_tab 6)[131]? = some (Cond.code (mm_y 196) (mm_b 196) (mm_maxL 196) (mm_rt (mm_rk 196))) := rfl
set_option maxRecDepth 100000 in
theorem mm_cw197 : (mm_tab 6)[144]? = some (Cond.code (mm_y 197) (mm_b 197) (mm_maxL 197) (mm_rt (mm_rk 197))) := rfl
set_option maxRecDepth 100000 in
theorem mm_cw198 : (mm_tab 6)[153]? = some (Cond.code (mm_y 198) (mm_b 198) (mm_maxL 198) (mm_rt (mm_rk 198))) := rfl
set_option maxRecDepth 100000 in
theorem mm_cw199 : (mm_tab 6)[199]? = some (Cond.code (mm_y 199) (mm_b 199) (mm_maxL 199) (mm_rt (mm_rk 199))) := rfl
set_option maxRecDepth 100000 in
theorem mm_cw200 : (mm_tab 6)[208]? = some (Cond.code (mm_y 200) (mm_b 200) (mm_maxL 200) (mm_rt (mm_rk 200))) := rfl
set_option maxRecDepth 100000 in
theorem mm_cw201 : (mm_tab 6)[221]? = some (Cond.code (mm_y 201) (mm_b 201) (mm_maxL 201) (mm_rt (mm_rk 201))) := rfl
set_option maxRecDepth 100000 in
theorem mm_cw202 : (mm_tab 7)[0]? = some (Cond.code (mm_y 202) (mm_b 202) (mm_maxL 202) (mm_rt (mm_rk 202))) := rfl
set_option maxRecDepth 100000 in
theorem mm_cw203 : (mm_tab 7)[9]? = some (Cond.code (mm_y 203) (mm_b 203) (mm_maxL 203) (mm_rt (mm_rk 203))) := rfl
set_option maxRecDepth 100000 in
theorem mm_cw204 : (mm_tab 2)[35]? = some (Cond.code (mm_y 204) (mm_b 204) (mm_maxL 204) (mm_rt (mm_rk 204))) := rfl
set_option maxRecDepth 100000 in
theorem mm_cw205 : (mm_tab 2)[42]? = some (Cond.code (mm_y 205) (mm_b 205) (mm_maxL 205) (mm_rt (mm_rk 205))) := rfl
set_option maxRecDepth 100000 in
theorem mm_cw206 : (mm_tab 7)[15]? = some (Cond.code (mm_y 206) (mm_b 206) (mm_maxL 206) (mm_rt (mm_rk 206))) := rfl
set_option maxRecDepth 100000 in
theorem mm_cw207 : (mm_tab 8)[28]? = some (Cond.code (mm_y 207) (mm_b 207) (mm_maxL 207) (mm_rt (mm_rk 207))) := rfl
set_option maxRecDepth 100000 in
theorem mm_cw208 : (mm_tab 8)[32]? = some (Cond.code (mm_y 208) (mm_b 208) (mm_maxL 208) (mm_rt (mm_rk 208))) := rfl
set_option maxRecDepth 100000 in
theorem mm_cw209 : (mm_tab 8)[36]? = some (Cond.code (mm_y 209) (mm_b 209) (mm_maxL 209) (mm_rt (mm_rk 209))) := rfl
set_option maxRecDepth 100000 in
theorem mm_cw210 : (mm_tab 8)[52]? = some (Cond.code (mm_y 210) (mm_b 210) (mm_maxL 210) (mm_rt (mm_rk 210))) := rfl
set_option maxRecDepth 100000 in
theorem mm_cw211 : (mm_tab 8)[55]? = some (Cond.code (mm_y 211) (mm_b 211) (mm_maxL 211) (mm_rt (mm_rk 211))) := rfl
set_option maxRecDepth 100000 in
theorem mm_cw212 : (mm_tab 8)[58]? = some (Cond.code (mm_y 212) (mm_b 212) (mm_maxL 212) (mm_rt (mm_rk 212))) := rfl
set_option maxRecDepth 100000 in
theorem mm_cw213 : (mm_tab 8)[61]? = some (Cond.code (mm_y 213) (mm_b 213) (mm_maxL 213) (mm_rt (mm_rk 213))) := rfl
set_option maxRecDepth 100000 in
theorem mm_cw214 : (mm_tab 8)[48]? = some (Cond.code (mm_y 214) (mm_b 214) (mm_maxL 214) (mm_rt (mm_rk 214))) := rfl
set_option maxRecDepth 100000 in
theorem mm_cw215 : (mm_tab 8)[82]? = some (Cond.code (mm_y 215) (mm_b 215) (mm_maxL 215) (mm_rt (mm_rk 215))) := rfl
set_option maxRecDepth 100000 in
theorem mm_cw216 : (mm_tab 8)[70]? = some (Cond.code (mm_y 216) (mm_b 216) (mm_maxL 216) (mm_rt (mm_rk 216))) := rfl
set_option maxRecDepth 100000 in
theorem mm_cw217 : (mm_tab 8)[123]? = some (Cond.code (mm_y 217) (mm_b 217) (mm_maxL 217) (mm_rt (mm_rk 217))) := rfl
set_option maxRecDepth 100000 in
theorem mm_cw218 : (mm_tab 8)[119]? = some (Cond.code (mm_y 218) (mm_b 218) (mm_maxL 218) (mm_rt (mm_rk 218))) := rfl
set_option maxRecDepth 100000 in
theorem mm_cw219 : (mm_tab 8)[91]? = some (Cond.code (mm_y 219) (mm_b 219) (mm_maxL 219) (mm_rt (mm_rk 219))) := rfl
set_option maxRecDepth 100000 in
theorem mm_cw220 : (mm_tab 8)[78]? = some (Cond.code (mm_y 220) (mm_b 220) (mm_maxL 220) (mm_rt (mm_rk 220))) := rfl
set_option maxRecDepth 100000 in
theorem mm_cw221 : (mm_tab 8)[87]? = some (Cond.code (mm_y 221) (mm_b 221) (mm_maxL 221) (mm_rt (mm_rk 221))) := rfl
set_option maxRecDepth 100000 in
theorem mm_cw222 : (mm_tab 8)[115]? = some (Cond.code (mm_y 222) (mm_b 222) (mm_maxL 222) (mm_rt (mm_rk 222))) := rfl
set_option maxRecDepth 100000 in
theorem mm_cw223 : (mm_tab 8)[175]? = some (Cond.code (mm_y 223) (mm_b 223) (mm_maxL 223) (mm_rt (mm_rk 223))) := rfl
set_option maxRecDepth 100000 in
theorem mm_cw224 : (mm_tab 8)[155]? = some (Cond.code (mm_y 224) (mm_b 224) (mm_maxL 224) (mm_rt (mm_rk 224))) := rfl
set_option maxRecDepth 100000 in
theorem mm_cw225 : (mm_tab 8)[187]? = some (Cond.code (mm_y 225) (mm_b 225) (mm_maxL 225) (mm_rt (mm_rk 225))) := rfl
set_option maxRecDepth 100000 in
theorem mm_cw226 : (mm_tab 8)[191]? = some (Cond.code (mm_y 226) (mm_b 226) (mm_maxL 226) (mm_rt (mm_rk 226))) := rfl
set_option maxRecDepth 100000 in
theorem mm_cw227 : (mm_tab 8)[152]? = some (Cond.code (mm_y 227) (mm_b 227) (mm_maxL 227) (mm_rt (mm_rk 227))) := rfl
set_option maxRecDepth 100000 in
theorem mm_cw228 : (mm_tab 8)[171]? = some (Cond.code (mm_y 228) (mm_b 228) (mm_maxL 228) (mm_rt (mm_rk 228))) := rfl
set_option maxRecDepth 100000 in
theorem mm_cw229 : (mm_tab 8)[163]? = some (Cond.code (mm_y 229) (mm_b 229) (mm_maxL 229) (mm_rt (mm_rk 229))) := rfl
set_option maxRecDepth 100000 in
theorem mm_cw230 : (mm_tab 8)[167]? = some (Cond.code (mm_y 230) (mm_b 230) (mm_maxL 230) (mm_rt (mm_rk 230))) := rfl
set_option maxRecDepth 100000 in
theorem mm_cw231 : (mm_tab 8)[159]? = some (Cond.code (mm_y 231) (mm_b 231) (mm_maxL 231) (mm_rt (mm_rk 231))) := rfl
set_option maxRecDepth 100000 in
theorem mm_cw232 : (mm_tab 8)[148]? = some (Cond.code (mm_y 232) (mm_b 232) (mm_maxL 232) (mm_rt (mm_rk 232))) := rfl
set_option maxRecDepth 100000 in
theorem mm_cw233 : (mm_tab 8)[179]? = some (Cond.code (mm_y 233) (mm_b 233) (mm_maxL 233) (mm_rt (mm_rk 233))) := rfl
set_option maxRecDepth 100000 in
theorem mm_cw234 : (mm_tab 8)[183]? = some (Cond.code (mm_y 234) (mm_b 234) (mm_maxL 234) (mm_rt (mm_rk 234))) := rfl
set_option maxRecDepth 100000 in
theorem mm_cw235 : (mm_tab 8)[144]? = some (Cond.code (mm_y 235) (mm_b 235) (mm_maxL 235) (mm_rt (mm_rk 235))) := rfl
set_option maxRecDepth 100000 in
theorem mm_cw236 : (mm_tab 8)[221]? = some (Cond.code (mm_y 236) (mm_b 236) (mm_maxL 236) (mm_rt (mm_rk 236))) := rfl
set_option maxRecDepth 100000 in
theorem mm_cw237 : (mm_tab 9)[12]? = some (Cond.code (mm_y 237) (mm_b 237) (mm_maxL 237) (mm_rt (mm_rk 237))) := rfl
set_option maxRecDepth 100000 in
theorem mm_cw238 : (mm_tab 9)[15]? = some (Cond.code (mm_y 238) (mm_b 238) (mm_maxL 238) (mm_rt (mm_rk 238))) := rfl
set_option maxRecDepth 100000 in
theorem mm_cw239 : (mm_tab 9)[165]? = some (Cond.code (mm_y 239) (mm_b 239) (mm_maxL 239) (mm_rt (mm_rk 239))) := rfl
set_option maxRecDepth 100000 in
theorem mm_cw240 : (mm_tab 8)[214]? = some (Cond.code (mm_y 240) (mm_b 240) (mm_maxL 240) (mm_rt (mm_rk 240))) := rfl
set_option maxRecDepth 100000 in
theorem mm_cw241 : (mm_tab 9)[9]? = some (Cond.code (mm_y 241) (mm_b 241) (mm_maxL 241) (mm_rt (mm_rk 241))) := rfl
set_option maxRecDepth 100000 in
theorem mm_cw242 : (mm_tab 8)[74]? = some (Cond.code (mm_y 242) (mm_b 242) (mm_maxL 242) (mm_rt (mm_rk 242))) := rfl
set_option maxRecDepth 100000 in
theorem mm_cw243 : (mm_tab 8)[101]? = some (Cond.code (mm_y 243) (mm_b 243) (mm_maxL 243) (mm_rt (mm_rk 243))) := rfl
set_option maxRecDepth 100000 in
theorem mm_cw244 : (mm_tab 8)[96]? = some (Cond.code (mm_y 244) (mm_b 244) (mm_maxL 244) (mm_rt (mm_rk 244))) := rfl
set_option maxRecDepth 100000 in
theorem mm_cw245 : (mm_tab 8)[106]? = some (Cond.code (mm_y 245) (mm_b 245) (mm_maxL 245) (mm_rt (mm_rk 245))) := rfl
set_option maxRecDepth 100000 in
theorem mm_cw246 : (mm_tab 8)[111]? = some (Cond.code (mm_y 246) (mm_b 246) (mm_maxL 246) (mm_rt (mm_rk 246))) := rfl
set_option maxRecDepth 100000 in
theorem mm_cw247 : (mm_tab 8)[140]? = some (Cond.code (mm_y 247) (mm_b 247) (mm_maxL 247) (mm_rt (mm_rk 247))) := rfl
set_option maxRecDepth 100000 in
theorem mm_cw248 : (mm_tab 8)[65]? = some (Cond.code (mm_y 248) (mm_b 248) (mm_maxL 248) (mm_rt (mm_rk 248))) := rfl
set_option maxRecDepth 100000 in
theorem mm_cw249 : (mm_tab 8)[44]? = some (Cond.code (mm_y 249) (mm_b 249) (mm_maxL 249) (mm_rt (mm_rk 249))) := rfl
set_option maxRecDepth 100000 in
theorem mm_cw250 : (mm_tab 8)[40]? = some (Cond.code (mm_y 250) (mm_b 250) (mm_maxL 250) (mm_rt (mm_rk 250))) := rfl
set_option maxRecDepth 100000 in
theorem mm_cw251 : (mm_tab 8)[195]? = some (Cond.code (mm_y 251) (mm_b 251) (mm_maxL 251) (mm_rt (mm_rk 251))) := rfl
set_option maxRecDepth 100000 in
theorem mm_cw252 : (mm_tab 8)[206]? = some (Cond.code (mm_y 252) (mm_b 252) (mm_maxL 252) (mm_rt (mm_rk 252))) := rfl
set_option maxRecDepth 100000 in
theorem mm_cw253 : (mm_tab 8)[203]? = some (Cond.code (mm_y 253) (mm_b 253) (mm_maxL 253) (mm_rt (mm_rk 253))) := rfl
set_option maxRecDepth 100000 in
theorem mm_cw254 : (mm_tab 8)[229]? = some (Cond.code (mm_y 254) (mm_b 254) (mm_maxL 254) (mm_rt (mm_rk 254))) := rfl
set_option maxRecDepth 100000 in
theorem mm_cw255 : (mm_tab 9)[154]? = some (Cond.code (mm_y 255) (mm_b 255) (mm_maxL 255) (mm_rt (mm_rk 255))) := rfl
set_option maxRecDepth 100000 in
theorem mm_cw256 : (mm_tab 8)[210]? = some (Cond.code (mm_y 256) (mm_b 256) (mm_maxL 256) (mm_rt (mm_rk 256))) := rfl
set_option maxRecDepth 100000 in
theorem mm_cw257 : (mm_tab 9)[35]? = some (Cond.code (mm_y 257) (mm_b 257) (mm_maxL 257) (mm_rt (mm_rk 257))) := rfl
set_option maxRecDepth 100000 in
theorem mm_cw258 : (mm_tab 8)[237]? = some (Cond.code (mm_y 258) (mm_b 258) (mm_maxL 258) (mm_rt (mm_rk 258))) := rfl
set_option maxRecDepth 100000 in
theorem mm_cw259 : (mm_tab 9)[31]? = some (Cond.code (mm_y 259) (mm_b 259) (mm_maxL 259) (mm_rt (mm_rk 259))) := rfl
set_option maxRecDepth 100000 in
theorem mm_cw260 : (mm_tab 9)[1]? = some (Cond.code (mm_y 260) (mm_b 260) (mm_maxL 260) (mm_rt (mm_rk 260))) := rfl
set_option maxRecDepth 100000 in
theorem mm_cw261 : (mm_tab 9)[27]? = some (Cond.code (mm_y 261) (mm_b 261) (mm_maxL 261) (mm_rt (mm_rk 261))) := rfl
set_option maxRecDepth 100000 in
theorem mm_cw262 : (mm_tab 8)[218]? = some (Cond.code (mm_y 262) (mm_b 262) (mm_maxL 262) (mm_rt (mm_rk 262))) := rfl
set_option maxRecDepth 100000 in
theorem mm_cw263 : (mm_tab 8)[199]? = some (Cond.code (mm_y 263) (mm_b 263) (mm_maxL 263) (mm_rt (mm_rk 263))) := rfl
set_option maxRecDepth 100000 in
theorem mm_cw264 : (mm_tab 8)[225]? = some (Cond.code (mm_y 264) (mm_b 264) (mm_maxL 264) (mm_rt (mm_rk 264))) := rfl
set_option maxRecDepth 100000 in
theorem mm_cw265 : (mm_tab 8)[233]? = some (Cond.code (mm_y 265) (mm_b 265) (mm_maxL 265) (mm_rt (mm_rk 265))) := rfl
set_option maxRecDepth 100000 in
theorem mm_cw266 : (mm_tab 9)[5]? = some (Cond.code (mm_y 266) (mm_b 266) (mm_maxL 266) (mm_rt (mm_rk 266))) := rfl
set_option maxRecDepth 100000 in
theorem mm_cw267 : (mm_tab 9)[23]? = some (Cond.code (mm_y 267) (mm_b 267) (mm_maxL 267) (mm_rt (mm_rk 267))) := rfl
set_option maxRecDepth 100000 in
theorem mm_cw268 : (mm_tab 9)[63]? = some (Cond.code (mm_y 268) (mm_b 268) (mm_maxL 268) (mm_rt (mm_rk 268))) := rfl
set_option maxRecDepth 100000 in
theorem mm_cw269 : (mm_tab 9)[19]? = some (Cond.code (mm_y 269) (mm_b 269) (mm_maxL 269) (mm_rt (mm_rk 269))) := rfl
set_option maxRecDepth 100000 in
theorem mm_cw270 : (mm_tab 9)[43]? = some (Cond.code (mm_y 270) (mm_b 270) (mm_maxL 270) (mm_rt (mm_rk 270))) := rfl
set_option maxRecDepth 100000 in
theorem mm_cw271 : (mm_tab 9)[47]? = some (Cond.code (mm_y 271) (mm_b 271) (mm_maxL 271) (mm_rt (mm_rk 271))) := rfl
set_option maxRecDepth 100000 in
theorem mm_cw272 : (mm_tab 9)[39]? = some (Cond.code (mm_y 272) (mm_b 272) (mm_maxL 272) (mm_rt (mm_rk 272))) := rfl
set_option maxRecDepth 100000 in
theorem mm_cw273 : (mm_tab 9)[51]? = some (Cond.code (mm_y 273) (mm_b 273) (mm_maxL 273) (mm_rt (mm_rk 273))) := rfl
set_option maxRecDepth 100000 in
theorem mm_cw274 : (mm_tab 9)[55]? = some (Cond.code (mm_y 274) (mm_b 274) (mm_maxL 274) (mm_rt (mm_rk 274))) := rfl
set_option maxRecDepth 100000 in
theorem mm_cw275 : (mm_tab 9)[59]? = some (Cond.code (mm_y 275) (mm_b 275) (mm_maxL 275) (mm_rt (mm_rk 275))) := rfl
set_option maxRecDepth 100000 in
theorem mm_cw276 : (mm_tab 9)[67]? = some (Cond.code (mm_y 276) (mm_b 276) (mm_maxL 276) (mm_rt (mm_rk 276))) := rfl
set_option maxRecDepth 100000 in
theorem mm_cw277 : (mm_tab 9)[82]? = some (Cond.code (mm_y 277) (mm_b 277) (mm_maxL 277) (mm_rt (mm_rk 277))) := rfl
set_option maxRecDepth 100000 in
theorem mm_cw278 : (mm_tab 9)[79]? = some (Cond.code (mm_y 278) (mm_b 278) (mm_maxL 278) (mm_rt (mm_rk 278))) := rfl
set_option maxRecDepth 100000 in
theorem mm_cw279 : (mm_tab 9)[86]? = some (Cond.code (mm_y 279) (mm_b 279) (mm_maxL 279) (mm_rt (mm_rk 279))) := rfl
set_option maxRecDepth 100000 in
theorem mm_cw280 : (mm_tab 9)[107]? = some (Cond.code (mm_y 280) (mm_b 280) (mm_maxL 280) (mm_rt (mm_rk 280))) := rfl
set_option maxRecDepth 100000 in
theorem mm_cw281 : (mm_tab 9)[75]? = some (Cond.code (mm_y 281) (mm_b 281) (mm_maxL 281) (mm_rt (mm_rk 281))) := rfl
set_option maxRecDepth 100000 in
theorem mm_cw282 : (mm_tab 9)[71]? = some (Cond.code (mm_y 282) (mm_b 282) (mm_maxL 282) (mm_rt (mm_rk 282))) := rfl
set_option maxRecDepth 100000 in
theorem mm_cw283 : (mm_tab 9)[90]? = some (Cond.code (mm_y 283) (mm_b 283) (mm_maxL 283) (mm_rt (mm_rk 283))) := rfl
set_option maxRecDepth 100000 in
theorem mm_cw284 : (mm_tab 9)[98]? = some (Cond.code (mm_y 284) (mm_b 284) (mm_maxL 284) (mm_rt (mm_rk 284))) := rfl
set_option maxRecDepth 100000 in
theorem mm_cw285 : (mm_tab 9)[94]? = some (Cond.code (mm_y 285) (mm_b 285) (mm_maxL 285) (mm_rt (mm_rk 285))) := rfl
set_option maxRecDepth 100000 in
theorem mm_cw286 : (mm_tab 9)[102]? = some (Cond.code (mm_y 286) (mm_b 286) (mm_maxL 286) (mm_rt (mm_rk 286))) := rfl
set_option maxRecDepth 100000 in
theorem mm_cw287 : (mm_tab 9)[115]? = some (Cond.code (mm_y 287) (mm_b 287) (mm_maxL 287) (mm_rt (mm_rk 287))) := rfl
set_option maxRecDepth 100000 in
theorem mm_cw288 : (mm_tab 9)[111]? = some (Cond.code (mm_y 288) (mm_b 288) (mm_maxL 288) (mm_rt (mm_rk 288))) := rfl
set_option maxRecDepth 100000 in
theorem mm_cw289 : (mm_tab 9)[123]? = some (Cond.code (mm_y 289) (mm_b 289) (mm_maxL 289) (mm_rt (mm_rk 289))) := rfl
set_option maxRecDepth 100000 in
theorem mm_cw290 : (mm_tab 9)[119]? = some (Cond.code (mm_y 290) (mm_b 290) (mm_maxL 290) (mm_rt (mm_rk 290))) := rfl
set_option maxRecDepth 100000 in
theorem mm_cw291 : (mm_tab 9)[131]? = some (Cond.code (mm_y 291) (mm_b 291) (mm_maxL 291) (mm_rt (mm_rk 291))) := rfl
set_option maxRecDepth 100000 in
theorem mm_cw292 : (mm_tab 9)[139]? = some (Cond.code (mm_y 292) (mm_b 292) (mm_maxL 292) (mm_rt (mm_rk 292))) := rfl
set_option maxRecDepth 100000 in
theorem mm_cw293 : (mm_tab 9)[143]? = some (Cond.code (mm_y 293) (mm_b 293) (mm_maxL 293) (mm_rt (mm_rk 293))) := rfl
set_option maxRecDepth 100000 in
theorem mm_cw294 : (mm_tab 9)[135]? = some (Cond.code (mm_y 294) (mm_b 294) (mm_maxL 294) (mm_rt (mm_rk 294))) := rfl
set_option maxRecDepth 100000 in
theorem mm_cw295 : (mm_tab 9)[127]? = some (Cond.code (mm_y 295) (mm_b 295) (mm_maxL 295) (mm_rt (mm_rk 295))) := rfl
set_option maxRecDepth 100000 in
theorem mm_cw296 : (mm_tab 9)[151]? = some (Cond.code (mm_y 296) (mm_b 296) (mm_maxL 296) (mm_rt (mm_rk 296))) := rfl
set_option maxRecDepth 100000 in
theorem mm_cw297 : (mm_tab 9)[147]? = some (Cond.code (mm_y 297) (mm_b 297) (mm_maxL 297) (mm_rt (mm_rk 297))) := rfl
set_option maxRecDepth 100000 in
theorem mm_cw298 : (mm_tab 9)[162]? = some (Cond.code (mm_y 298) (mm_b 298) (mm_maxL 298) (mm_rt (mm_rk 298))) := rfl
set_option maxRecDepth 100000 in
theorem mm_cw299 : (mm_tab 9)[169]? = some (Cond.code (mm_y 299) (mm_b 299) (mm_maxL 299) (mm_rt (mm_rk 299))) := rfl
set_option maxRecDepth 100000 in
theorem mm_cw300 : (mm_tab 9)[158]? = some (Cond.code (mm_y 300) (mm_b 300) (mm_maxL 300) (mm_rt (mm_rk 300))) := rfl
set_option maxRecDepth 100000 in
theorem mm_cw301 : (mm_tab 9)[177]? = some (Cond.code (mm_y 301) (mm_b 301) (mm_maxL 301) (mm_rt (mm_rk 301))) := rfl
set_option maxRecDepth 100000 in
theorem mm_cw302 : (mm_tab 9)[181]? = some (Cond.code (mm_y 302) (mm_b 302) (mm_maxL 302) (mm_rt (mm_rk 302))) := rfl
set_option maxRecDepth 100000 in
theorem mm_cw303 : (mm_tab 9)[173]? = some (Cond.code (mm_y 303) (mm_b 303) (mm_maxL 303) (mm_rt (mm_rk 303))) := rfl
set_option maxRecDepth 100000 in
theorem mm_cw304 : (mm_tab 9)[193]? = some (Cond.code (mm_y 304) (mm_b 304) (mm_maxL 304) (mm_rt (mm_rk 304))) := rfl
set_option maxRecDepth 100000 in
theorem mm_cw305 : (mm_tab 9)[189]? = some (Cond.code (mm_y 305) (mm_b 305) (mm_maxL 305) (mm_rt (mm_rk 305))) := rfl
set_option maxRecDepth 100000 in
theorem mm_cw306 : (mm_tab 9)[185]? = some (Cond.code (mm_y 306) (mm_b 306) (mm_maxL 306) (mm_rt (mm_rk 306))) := rfl
set_option maxRecDepth 100000 in
theorem mm_cw307 : (mm_tab 9)[197]? = some (Cond.code (mm_y 307) (mm_b 307) (mm_maxL 307) (mm_rt (mm_rk 307))) := rfl
set_option maxRecDepth 100000 in
theorem mm_cw308 : (mm_tab 9)[208]? = some (Cond.code (mm_y 308) (mm_b 308) (mm_maxL 308) (mm_rt (mm_rk 308))) := rfl
set_option maxRecDepth 100000 in
theorem mm_cw309 : (mm_tab 9)[205]? = some (Cond.code (mm_y 309) (mm_b 309) (mm_maxL 309) (mm_rt (mm_rk 309))) := rfl
set_option maxRecDepth 100000 in
theorem mm_cw310 : (mm_tab 9)[201]? = some (Cond.code (mm_y 310) (mm_b 310) (mm_maxL 310) (mm_rt (mm_rk 310))) := rfl
set_option maxRecDepth 100000 in
theorem mm_cw311 : (mm_tab 9)[212]? = some (Cond.code (mm_y 311) (mm_b 311) (mm_maxL 311) (mm_rt (mm_rk 311))) := rfl
set_option maxRecDepth 100000 in
theorem mm_cw312 : (mm_tab 9)[216]? = some (Cond.code (mm_y 312) (mm_b 312) (mm_maxL 312) (mm_rt (mm_rk 312))) := rfl
set_option maxRecDepth 100000 in
theorem mm_cw313 : (mm_tab 9)[220]? = some (Cond.code (mm_y 313) (mm_b 313) (mm_maxL 313) (mm_rt (mm_rk 313))) := rfl
set_option maxRecDepth 100000 in
theorem mm_cw314 : (mm_tab 9)[224]? = some (Cond.code (mm_y 314) (mm_b 314) (mm_maxL 314) (mm_rt (mm_rk 314))) := rfl
set_option maxRecDepth 100000 in
theorem mm_cw315 : (mm_tab 9)[228]? = some (Cond.code (mm_y 315) (mm_b 315) (mm_maxL 315) (mm_rt (mm_rk 315))) := rfl
set_option maxRecDepth 100000 in
theorem mm_cw316 : (mm_tab 9)[232]? = some (Cond.code (mm_y 316) (mm_b 316) (mm_maxL 316) (mm_rt (mm_rk 316))) := rfl
set_option maxRecDepth 100000 in
theorem mm_cw317 : (mm_tab 10)[0]? = some (Cond.code (mm_y 317) (mm_b 317) (mm_maxL 317) (mm_rt (mm_rk 317))) := rfl
set_option maxRecDepth 100000 in
theorem mm_cw318 : (mm_tab 9)[236]? = some (Cond.code (mm_y 318) (mm_b 318) (mm_maxL 318) (mm_rt (mm_rk 318))) := rfl
set_option maxRecDepth 100000 in
theorem mm_cw319 : (mm_tab 10)[4]? = some (Cond.code (mm_y 319) (mm_b 319) (mm_maxL 319) (mm_rt (mm_rk 319))) := rfl
set_option maxRecDepth 100000 in
theorem mm_cw320 : (mm_tab 10)[8]? = some (Cond.code (mm_y 320) (mm_b 320) (mm_maxL 320) (mm_rt (mm_rk 320))) := rfl
set_option maxRecDepth 100000 in
theorem mm_cw321 : (mm_tab 10)[12]? = some (Cond.code (mm_y 321) (mm_b 321) (mm_maxL 321) (mm_rt (mm_rk 321))) := rfl
set_option maxRecDepth 100000 in
theorem mm_cw322 : (mm_tab 10)[25]? = some (Cond.code (mm_y 322) (mm_b 322) (mm_maxL 322) (mm_rt (mm_rk 322))) := rfl
set_option maxRecDepth 100000 in
theorem mm_cw323 : (mm_tab 10)[21]? = some (Cond.code (mm_y 323) (mm_b 323) (mm_maxL 323) (mm_rt (mm_rk 323))) := rfl
set_option maxRecDepth 100000 in
theorem mm_cw324 : (mm_tab 10)[17]? = some (Cond.code (mm_y 324) (mm_b 324) (mm_maxL 324) (mm_rt (mm_rk 324))) := rfl
set_option maxRecDepth 100000 in
theorem mm_cw325 : (mm_tab 10)[29]? = some (Cond.code (mm_y 325) (mm_b 325) (mm_maxL 325) (mm_rt (mm_rk 325))) := rfl
set_option maxRecDepth 100000 in
theorem mm_cw326 : (mm_tab 10)[37]? = some (Cond.code (mm_y 326) (mm_b 326) (mm_maxL 326) (mm_rt (mm_rk 326))) := rfl
set_option maxRecDepth 100000 in
theorem mm_cw327 : (mm_tab 10)[33]? = some (Cond.code (mm_y 327) (mm_b 327) (mm_maxL 327) (mm_rt (mm_rk 327))) := rfl
set_option maxRecDepth 100000 in
theorem mm_cw328 : (mm_tab 10)[44]? = some (Cond.code (mm_y 328) (mm_b 328) (mm_maxL 328) (mm_rt (mm_rk 328))) := rfl
set_option maxRecDepth 100000 in
theorem mm_cw329 : (mm_tab 10)[41]? = some (Cond.code (mm_y 329) (mm_b 329) (mm_maxL 329) (mm_rt (mm_rk 329))) := rfl
set_option maxRecDepth 100000 in
theorem mm_cw330 : (mm_tab 10)[49]? = some (Cond.code (mm_y 330) (mm_b 330) (mm_maxL 330) (mm_rt (mm_rk 330))) := rfl
set_option maxRecDepth 100000 in
theorem mm_cw331 : (mm_tab 10)[53]? = some (Cond.code (mm_y 331) (mm_b 331) (mm_maxL 331) (mm_rt (mm_rk 331))) := rfl
set_option maxRecDepth 100000 in
theorem mm_cw332 : (mm_tab 1)[167]? = some (Cond.code (mm_y 332) (mm_b 332) (mm_maxL 332) (mm_rt (mm_rk 332))) := rfl
set_option maxRecDepth 100000 in
theorem mm_cw333 : (mm_tab 1)[177]? = some (Cond.code (mm_y 333) (mm_b 333) (mm_maxL 333) (mm_rt (mm_rk 333))) := rfl
set_option maxRecDepth 100000 in
theorem mm_cw334 : (mm_tab 3)[136]? = some (Cond.code (mm_y 334) (mm_b 334) (mm_maxL 334) (mm_rt (mm_rk 334))) := rfl
set_option maxRecDepth 100000 in
theorem mm_cw335 : (mm_tab 3)[140]? = some (Cond.code (mm_y 335) (mm_b 335) (mm_maxL 335) (mm_rt (mm_rk 335))) := rfl
set_option maxRecDepth 100000 in
theorem mm_cw336 : (mm_tab 1)[171]? = some (Cond.code (mm_y 336) (mm_b 336) (mm_maxL 336) (mm_rt (mm_rk 336))) := rfl
set_option maxRecDepth 100000 in
theorem mm_cw337 : (mm_tab 1)[181]? = some (Cond.code (mm_y 337) (mm_b 337) (mm_maxL 337) (mm_rt (mm_rk 337))) := rfl
set_option maxRecDepth 100000 in
theorem mm_cw338 : (mm_tab 1)[187]? = some (Cond.code (mm_y 338) (mm_b 338) (mm_maxL 338) (mm_rt (mm_rk 338))) := rfl
set_option maxRecDepth 100000 in
theorem mm_cw339 : (mm_tab 1)[184]? = some (Cond.code (mm_y 339) (mm_b 339) (mm_maxL 339) (mm_rt (mm_rk 339))) := rfl
set_option maxRecDepth 100000 in
theorem mm_cw340 : (mm_tab 3)[147]? = some (Cond.code (mm_y 340) (mm_b 340) (mm_maxL 340) (mm_rt (mm_rk 340))) := rfl
set_option maxRecDepth 100000 in
theorem mm_cw341 : (mm_tab 3)[144]? = some (Cond.code (mm_y 341) (mm_b 341) (mm_maxL 341) (mm_rt (mm_rk 341))) := rfl
set_option maxRecDepth 100000 in
theorem mm_cw342 : (mm_tab 3)[152]? = some (Cond.code (mm_y 342) (mm_b 342) (mm_maxL 342) (mm_rt (mm_rk 342))) := rfl
set_option maxRecDepth 100000 in
theorem mm_cw343 : (mm_tab 1)[192]? = some (Cond.code (mm_y 343) (mm_b 343) (mm_maxL 343) (mm_rt (mm_rk 343))) := rfl
set_option maxRecDepth 100000 in
theorem mm_cw344 : (mm_tab 1)[73]? = some (Cond.code (mm_y 344) (mm_b 344) (mm_maxL 344) (mm_rt (mm_rk 344))) := rfl
set_option maxRecDepth 100000 in
theorem mm_cw345 : (mm_tab 6)[233]? = some (Cond.code (mm_y 345) (mm_b 345) (mm_maxL 345) (mm_rt (mm_rk 345))) := rfl
set_option maxRecDepth 100000 in
theorem mm_cw346 : (mm_tab 5)[181]? = some (Cond.code (mm_y 346) (mm_b 346) (mm_maxL 346) (mm_rt (mm_rk 346))) := rfl
set_option maxRecDepth 100000 in
theorem mm_cw347 : (mm_tab 3)[104]? = some (Cond.code (mm_y 347) (mm_b 347) (mm_maxL 347) (mm_rt (mm_rk 347))) := rfl
set_option maxRecDepth 100000 in
theorem mm_cw348 : (mm_tab 3)[101]? = some (Cond.code (mm_y 348) (mm_b 348) (mm_maxL 348) (mm_rt (mm_rk 348))) := rfl
set_option maxRecDepth 100000 in
theorem mm_cw349 : (mm_tab 1)[30]? = some (Cond.code (mm_y 349) (mm_b 349) (mm_maxL 349) (mm_rt (mm_rk 349))) := rfl
