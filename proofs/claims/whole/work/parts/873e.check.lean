set_option maxRecDepth 100000 in
theorem ck_law_4 : chkR "ThirdHandsLaw" "law" code 7 cd_law 400 100 = true := by decide +kernel
set_option maxRecDepth 100000 in
theorem ck_law_5 : chkR "ThirdHandsLaw" "law" code 7 cd_law 500 100 = true := by decide +kernel
set_option maxRecDepth 100000 in
theorem ck_law_6 : chkR "ThirdHandsLaw" "law" code 7 cd_law 600 100 = true := by decide +kernel
set_option maxRecDepth 100000 in
theorem ck_law_7 : chkR "ThirdHandsLaw" "law" code 7 cd_law 700 100 = true := by decide +kernel
set_option maxRecDepth 100000 in
theorem ck_law_8 : chkR "ThirdHandsLaw" "law" code 7 cd_law 800 54 = true := by decide +kernel
