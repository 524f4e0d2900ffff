/-! THE TABLES ARE THE CODE: by program -/
set_option maxRecDepth 100000 in
theorem ck97 : ((List.range 12).all (fun k => (tbs (k + 97)).all (okE (k + 97)))) = true := by decide +kernel
set_option maxRecDepth 100000 in
theorem ck109 : ((List.range 12).all (fun k => (tbs (k + 109)).all (okE (k + 109)))) = true := by decide +kernel
set_option maxRecDepth 100000 in
theorem ck121 : ((List.range 12).all (fun k => (tbs (k + 121)).all (okE (k + 121)))) = true := by decide +kernel
set_option maxRecDepth 100000 in
theorem ck133 : ((List.range 12).all (fun k => (tbs (k + 133)).all (okE (k + 133)))) = true := by decide +kernel
set_option maxRecDepth 100000 in
theorem ck145 : ((List.range 12).all (fun k => (tbs (k + 145)).all (okE (k + 145)))) = true := by decide +kernel
set_option maxRecDepth 100000 in
theorem ck157 : ((List.range 12).all (fun k => (tbs (k + 157)).all (okE (k + 157)))) = true := by decide +kernel
set_option maxRecDepth 100000 in
theorem ck169 : ((List.range 12).all (fun k => (tbs (k + 169)).all (okE (k + 169)))) = true := by decide +kernel
set_option maxRecDepth 100000 in
theorem ck181 : ((List.range 12).all (fun k => (tbs (k + 181)).all (okE (k + 181)))) = true := by decide +kernel
