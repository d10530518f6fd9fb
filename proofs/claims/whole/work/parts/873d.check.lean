set_option maxRecDepth 100000 in
theorem ck_law_0 : chkR "ThirdHandsLaw" "law" code 7 cd_law 0 100 = true := by decide +kernel
set_option maxRecDepth 100000 in
theorem ck_law_1 : chkR "ThirdHandsLaw" "law" code 7 cd_law 100 100 = true := by decide +kernel
set_option maxRecDepth 100000 in
theorem ck_law_2 : chkR "ThirdHandsLaw" "law" code 7 cd_law 200 100 = true := by decide +kernel
set_option maxRecDepth 100000 in
theorem ck_law_3 : chkR "ThirdHandsLaw" "law" code 7 cd_law 300 100 = true := by decide +kernel
