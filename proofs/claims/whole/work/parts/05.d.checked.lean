set_option maxRecDepth 100000 in
theorem xck102 : xt102.all (chk 102) = true := by decide +kernel
set_option maxRecDepth 100000 in
theorem xck103 : xt103.all (chk 103) = true := by decide +kernel
set_option maxRecDepth 100000 in
theorem xck104 : xt104.all (chk 104) = true := by decide +kernel
set_option maxRecDepth 100000 in
theorem xck105 : xt105.all (chk 105) = true := by decide +kernel
set_option maxRecDepth 100000 in
theorem xck106 : xt106.all (chk 106) = true := by decide +kernel
set_option maxRecDepth 100000 in
theorem xck107 : xt107.all (chk 107) = true := by decide +kernel
set_option maxRecDepth 100000 in
theorem xck108 : xt108.all (chk 108) = true := by decide +kernel
set_option maxRecDepth 100000 in
theorem xck109 : xt109.all (chk 109) = true := by decide +kernel
set_option maxRecDepth 100000 in
theorem xck110 : xt110.all (chk 110) = true := by decide +kernel
set_option maxRecDepth 100000 in
theorem xck111 : xt111.all (chk 111) = true := by decide +kernel
set_option maxRecDepth 100000 in
theorem xck112 : xt112.all (chk 112) = true := by decide +kernel
set_option maxRecDepth 100000 in
theorem xck113 : xt113.all (chk 113) = true := by decide +kernel
set_option maxRecDepth 100000 in
theorem xck114 : xt114.all (chk 114) = true := by decide +kernel
set_option maxRecDepth 100000 in
theorem xck115 : xt115.all (chk 115) = true := by decide +kernel
set_option maxRecDepth 100000 in
theorem xck116 : xt116.all (chk 116) = true := by decide +kernel
set_option maxRecDepth 100000 in
theorem xck117 : xt117.all (chk 117) = true := by decide +kernel
set_option maxRecDepth 100000 in
theorem xck118 : xt118.all (chk 118) = true := by decide +kernel
set_option maxRecDepth 100000 in
theorem xck119 : xt119.all (chk 119) = true := by decide +kernel
set_option maxRecDepth 100000 in
theorem xck120 : xt120.all (chk 120) = true := by decide +kernel
set_option maxRecDepth 100000 in
theorem xck121 : xt121.all (chk 121) = true := by decide +kernel
set_option maxRecDepth 100000 in
theorem xck122 : xt122.all (chk 122) = true := by decide +kernel
set_option maxRecDepth 100000 in
theorem xck123 : xt123.all (chk 123) = true := by decide +kernel
set_option maxRecDepth 100000 in
theorem xck124 : xt124.all (chk 124) = true := by decide +kernel
set_option maxRecDepth 100000 in
theorem xck125 : xt125.all (chk 125) = true := by decide +kernel
set_option maxRecDepth 100000 in
theorem xck126 : xt126.all (chk 126) = true := by decide +kernel
set_option maxRecDepth 100000 in
theorem xck127 : xt127.all (chk 127) = true := by decide +kernel
set_option maxRecDepth 100000 in
theorem xck128 : xt128.all (chk 128) = true := by decide +kernel
set_option maxRecDepth 100000 in
theorem xck129 : xt129.all (chk 129) = true := by decide +kernel
set_option maxRecDepth 100000 in
theorem xck130 : xt130.all (chk 130) = true := by decide +kernel
set_option maxRecDepth 100000 in
theorem xck131 : xt131.all (chk 131) = true := by decide +kernel
set_option maxRecDepth 100000 in
theorem xck132 : xt132.all (chk 132) = true := by decide +kernel
set_option maxRecDepth 100000 in
theorem xck133 : xt133.all (chk 133) = true := by decide +kernel
set_option maxRecDepth 100000 in
theorem xck134 : xt134.all (chk 134) = true := by decide +kernel
set_option maxRecDepth 100000 in
theorem xck135 : xt135.all (chk 135) = true := by decide +kernel
set_option maxRecDepth 100000 in
theorem xck136 : xt136.all (chk 136) = true := by decide +kernel
set_option maxRecDepth 100000 in
theorem xck137 : xt137.all (chk 137) = true := by decide +kernel
set_option maxRecDepth 100000 in
theorem xck138 : xt138.all (chk 138) = true := by decide +kernel
set_option maxRecDepth 100000 in
theorem xck139 : xt139.all (chk 139) = true := by decide +kernel
