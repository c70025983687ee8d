set_option maxRecDepth 100000 in
theorem xck60 : xt60.all (chk 60) = true := by decide +kernel
set_option maxRecDepth 100000 in
theorem xck61 : xt61.all (chk 61) = true := by decide +kernel
set_option maxRecDepth 100000 in
theorem xck62 : xt62.all (chk 62) = true := by decide +kernel
set_option maxRecDepth 100000 in
theorem xck63 : xt63.all (chk 63) = true := by decide +kernel
set_option maxRecDepth 100000 in
theorem xck64 : xt64.all (chk 64) = true := by decide +kernel
set_option maxRecDepth 100000 in
theorem xck65 : xt65.all (chk 65) = true := by decide +kernel
set_option maxRecDepth 100000 in
theorem xck66 : xt66.all (chk 66) = true := by decide +kernel
set_option maxRecDepth 100000 in
theorem xck67 : xt67.all (chk 67) = true := by decide +kernel
set_option maxRecDepth 100000 in
theorem xck68 : xt68.all (chk 68) = true := by decide +kernel
set_option maxRecDepth 100000 in
theorem xck69 : xt69.all (chk 69) = true := by decide +kernel
set_option maxRecDepth 100000 in
theorem xck70 : xt70.all (chk 70) = true := by decide +kernel
set_option maxRecDepth 100000 in
theorem xck71 : xt71.all (chk 71) = true := by decide +kernel
set_option maxRecDepth 100000 in
theorem xck72 : xt72.all (chk 72) = true := by decide +kernel
set_option maxRecDepth 100000 in
theorem xck73 : xt73.all (chk 73) = true := by decide +kernel
set_option maxRecDepth 100000 in
theorem xck74 : xt74.all (chk 74) = true := by decide +kernel
set_option maxRecDepth 100000 in
theorem xck75 : xt75.all (chk 75) = true := by decide +kernel
set_option maxRecDepth 100000 in
theorem xck76 : xt76.all (chk 76) = true := by decide +kernel
set_option maxRecDepth 100000 in
theorem xck77 : xt77.all (chk 77) = true := by decide +kernel
set_option maxRecDepth 100000 in
theorem xck78 : xt78.all (chk 78) = true := by decide +kernel
set_option maxRecDepth 100000 in
theorem xck79 : xt79.all (chk 79) = true := by decide +kernel
set_option maxRecDepth 100000 in
theorem xck80 : xt80.all (chk 80) = true := by decide +kernel
set_option maxRecDepth 100000 in
theorem xck81 : xt81.all (chk 81) = true := by decide +kernel
set_option maxRecDepth 100000 in
theorem xck82 : xt82.all (chk 82) = true := by decide +kernel
set_option maxRecDepth 100000 in
theorem xck83 : xt83.all (chk 83) = true := by decide +kernel
set_option maxRecDepth 100000 in
theorem xck84 : xt84.all (chk 84) = true := by decide +kernel
set_option maxRecDepth 100000 in
theorem xck85 : xt85.all (chk 85) = true := by decide +kernel
set_option maxRecDepth 100000 in
theorem xck86_0 : xt86_0.all (chk 86) = true := by decide +kernel
set_option maxRecDepth 100000 in
theorem xck86_1 : xt86_1.all (chk 86) = true := by decide +kernel
set_option maxRecDepth 100000 in
theorem xck86_2 : xt86_2.all (chk 86) = true := by decide +kernel
set_option maxRecDepth 100000 in
theorem xck86_3 : xt86_3.all (chk 86) = true := by decide +kernel
theorem xck86 : xt86.all (chk 86) = true := by
  unfold xt86
  simp only [List.all_append, xck86_0, xck86_1, xck86_2, xck86_3, Bool.and_self]
set_option maxRecDepth 100000 in
theorem xck87 : xt87.all (chk 87) = true := by decide +kernel
set_option maxRecDepth 100000 in
theorem xck88 : xt88.all (chk 88) = true := by decide +kernel
set_option maxRecDepth 100000 in
theorem xck89 : xt89.all (chk 89) = true := by decide +kernel
set_option maxRecDepth 100000 in
theorem xck90 : xt90.all (chk 90) = true := by decide +kernel
set_option maxRecDepth 100000 in
theorem xck91 : xt91.all (chk 91) = true := by decide +kernel
set_option maxRecDepth 100000 in
theorem xck92 : xt92.all (chk 92) = true := by decide +kernel
set_option maxRecDepth 100000 in
theorem xck93 : xt93.all (chk 93) = true := by decide +kernel
set_option maxRecDepth 100000 in
theorem xck94 : xt94.all (chk 94) = true := by decide +kernel
set_option maxRecDepth 100000 in
theorem xck95 : xt95.all (chk 95) = true := by decide +kernel
set_option maxRecDepth 100000 in
theorem xck96 : xt96.all (chk 96) = true := by decide +kernel
set_option maxRecDepth 100000 in
theorem xck97 : xt97.all (chk 97) = true := by decide +kernel
set_option maxRecDepth 100000 in
theorem xck98 : xt98.all (chk 98) = true := by decide +kernel
set_option maxRecDepth 100000 in
theorem xck99 : xt99.all (chk 99) = true := by decide +kernel
set_option maxRecDepth 100000 in
theorem xck100 : xt100.all (chk 100) = true := by decide +kernel
set_option maxRecDepth 100000 in
theorem xck101 : xt101.all (chk 101) = true := by decide +kernel
