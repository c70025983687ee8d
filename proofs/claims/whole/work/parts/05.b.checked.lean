set_option maxRecDepth 100000 in
theorem xck0 : xt0.all (chk 0) = true := by decide +kernel
set_option maxRecDepth 100000 in
theorem xck1 : xt1.all (chk 1) = true := by decide +kernel
set_option maxRecDepth 100000 in
theorem xck2 : xt2.all (chk 2) = true := by decide +kernel
set_option maxRecDepth 100000 in
theorem xck3 : xt3.all (chk 3) = true := by decide +kernel
set_option maxRecDepth 100000 in
theorem xck4 : xt4.all (chk 4) = true := by decide +kernel
set_option maxRecDepth 100000 in
theorem xck5 : xt5.all (chk 5) = true := by decide +kernel
set_option maxRecDepth 100000 in
theorem xck6 : xt6.all (chk 6) = true := by decide +kernel
set_option maxRecDepth 100000 in
theorem xck7 : xt7.all (chk 7) = true := by decide +kernel
set_option maxRecDepth 100000 in
theorem xck8 : xt8.all (chk 8) = true := by decide +kernel
set_option maxRecDepth 100000 in
theorem xck9 : xt9.all (chk 9) = true := by decide +kernel
set_option maxRecDepth 100000 in
theorem xck10 : xt10.all (chk 10) = true := by decide +kernel
set_option maxRecDepth 100000 in
theorem xck11 : xt11.all (chk 11) = true := by decide +kernel
set_option maxRecDepth 100000 in
theorem xck12 : xt12.all (chk 12) = true := by decide +kernel
set_option maxRecDepth 100000 in
theorem xck13 : xt13.all (chk 13) = true := by decide +kernel
set_option maxRecDepth 100000 in
theorem xck14 : xt14.all (chk 14) = true := by decide +kernel
set_option maxRecDepth 100000 in
theorem xck15 : xt15.all (chk 15) = true := by decide +kernel
set_option maxRecDepth 100000 in
theorem xck16 : xt16.all (chk 16) = true := by decide +kernel
set_option maxRecDepth 100000 in
theorem xck17 : xt17.all (chk 17) = true := by decide +kernel
set_option maxRecDepth 100000 in
theorem xck18 : xt18.all (chk 18) = true := by decide +kernel
set_option maxRecDepth 100000 in
theorem xck19 : xt19.all (chk 19) = true := by decide +kernel
set_option maxRecDepth 100000 in
theorem xck20 : xt20.all (chk 20) = true := by decide +kernel
set_option maxRecDepth 100000 in
theorem xck21 : xt21.all (chk 21) = true := by decide +kernel
set_option maxRecDepth 100000 in
theorem xck22 : xt22.all (chk 22) = true := by decide +kernel
set_option maxRecDepth 100000 in
theorem xck23 : xt23.all (chk 23) = true := by decide +kernel
set_option maxRecDepth 100000 in
theorem xck24 : xt24.all (chk 24) = true := by decide +kernel
set_option maxRecDepth 100000 in
theorem xck25 : xt25.all (chk 25) = true := by decide +kernel
set_option maxRecDepth 100000 in
theorem xck26 : xt26.all (chk 26) = true := by decide +kernel
set_option maxRecDepth 100000 in
theorem xck27 : xt27.all (chk 27) = true := by decide +kernel
set_option maxRecDepth 100000 in
theorem xck28 : xt28.all (chk 28) = true := by decide +kernel
set_option maxRecDepth 100000 in
theorem xck29 : xt29.all (chk 29) = true := by decide +kernel
set_option maxRecDepth 100000 in
theorem xck30 : xt30.all (chk 30) = true := by decide +kernel
set_option maxRecDepth 100000 in
theorem xck31 : xt31.all (chk 31) = true := by decide +kernel
set_option maxRecDepth 100000 in
theorem xck32 : xt32.all (chk 32) = true := by decide +kernel
set_option maxRecDepth 100000 in
theorem xck33 : xt33.all (chk 33) = true := by decide +kernel
set_option maxRecDepth 100000 in
theorem xck34 : xt34.all (chk 34) = true := by decide +kernel
set_option maxRecDepth 100000 in
theorem xck35 : xt35.all (chk 35) = true := by decide +kernel
set_option maxRecDepth 100000 in
theorem xck36 : xt36.all (chk 36) = true := by decide +kernel
set_option maxRecDepth 100000 in
theorem xck37 : xt37.all (chk 37) = true := by decide +kernel
set_option maxRecDepth 100000 in
theorem xck38 : xt38.all (chk 38) = true := by decide +kernel
set_option maxRecDepth 100000 in
theorem xck39 : xt39.all (chk 39) = true := by decide +kernel
set_option maxRecDepth 100000 in
theorem xck40 : xt40.all (chk 40) = true := by decide +kernel
set_option maxRecDepth 100000 in
theorem xck41 : xt41.all (chk 41) = true := by decide +kernel
set_option maxRecDepth 100000 in
theorem xck42 : xt42.all (chk 42) = true := by decide +kernel
set_option maxRecDepth 100000 in
theorem xck43 : xt43.all (chk 43) = true := by decide +kernel
set_option maxRecDepth 100000 in
theorem xck44 : xt44.all (chk 44) = true := by decide +kernel
set_option maxRecDepth 100000 in
theorem xck45 : xt45.all (chk 45) = true := by decide +kernel
set_option maxRecDepth 100000 in
theorem xck46 : xt46.all (chk 46) = true := by decide +kernel
set_option maxRecDepth 100000 in
theorem xck47 : xt47.all (chk 47) = true := by decide +kernel
set_option maxRecDepth 100000 in
theorem xck48 : xt48.all (chk 48) = true := by decide +kernel
set_option maxRecDepth 100000 in
theorem xck49 : xt49.all (chk 49) = true := by decide +kernel
set_option maxRecDepth 100000 in
theorem xck50 : xt50.all (chk 50) = true := by decide +kernel
set_option maxRecDepth 100000 in
theorem xck51 : xt51.all (chk 51) = true := by decide +kernel
set_option maxRecDepth 100000 in
theorem xck52 : xt52.all (chk 52) = true := by decide +kernel
set_option maxRecDepth 100000 in
theorem xck53 : xt53.all (chk 53) = true := by decide +kernel
set_option maxRecDepth 100000 in
theorem xck54 : xt54.all (chk 54) = true := by decide +kernel
set_option maxRecDepth 100000 in
theorem xck55 : xt55.all (chk 55) = true := by decide +kernel
set_option maxRecDepth 100000 in
theorem xck56 : xt56.all (chk 56) = true := by decide +kernel
set_option maxRecDepth 100000 in
theorem xck57 : xt57.all (chk 57) = true := by decide +kernel
set_option maxRecDepth 100000 in
theorem xck58 : xt58.all (chk 58) = true := by decide +kernel
set_option maxRecDepth 100000 in
theorem xck59 : xt59.all (chk 59) = true := by decide +kernel
