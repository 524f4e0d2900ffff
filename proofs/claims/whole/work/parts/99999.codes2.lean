/-! THE TABLES ARE THE CODE: by program -/
set_option maxRecDepth 100000 in
theorem ck193 : ((List.range 12).all (fun k => (tbs (k + 193)).all (okE (k + 193)))) = true := by decide +kernel
set_option maxRecDepth 100000 in
theorem ck205 : ((List.range 12).all (fun k => (tbs (k + 205)).all (okE (k + 205)))) = true := by decide +kernel
set_option maxRecDepth 100000 in
theorem ck217 : ((List.range 12).all (fun k => (tbs (k + 217)).all (okE (k + 217)))) = true := by decide +kernel
set_option maxRecDepth 100000 in
theorem ck229 : ((List.range 12).all (fun k => (tbs (k + 229)).all (okE (k + 229)))) = true := by decide +kernel
set_option maxRecDepth 100000 in
theorem ck241 : ((List.range 12).all (fun k => (tbs (k + 241)).all (okE (k + 241)))) = true := by decide +kernel
set_option maxRecDepth 100000 in
theorem ck253 : ((List.range 12).all (fun k => (tbs (k + 253)).all (okE (k + 253)))) = true := by decide +kernel
set_option maxRecDepth 100000 in
theorem ck265 : ((List.range 12).all (fun k => (tbs (k + 265)).all (okE (k + 265)))) = true := by decide +kernel
set_option maxRecDepth 100000 in
theorem ck277 : ((List.range 12).all (fun k => (tbs (k + 277)).all (okE (k + 277)))) = true := by decide +kernel
