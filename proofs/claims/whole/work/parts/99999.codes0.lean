/-! THE TABLES ARE THE CODE: by program -/
set_option maxRecDepth 100000 in
theorem ck1 : ((List.range 12).all (fun k => (tbs (k + 1)).all (okE (k + 1)))) = true := by decide +kernel
set_option maxRecDepth 100000 in
theorem ck13 : ((List.range 12).all (fun k => (tbs (k + 13)).all (okE (k + 13)))) = true := by decide +kernel
set_option maxRecDepth 100000 in
theorem ck25 : ((List.range 12).all (fun k => (tbs (k + 25)).all (okE (k + 25)))) = true := by decide +kernel
set_option maxRecDepth 100000 in
theorem ck37 : ((List.range 12).all (fun k => (tbs (k + 37)).all (okE (k + 37)))) = true := by decide +kernel
set_option maxRecDepth 100000 in
theorem ck49 : ((List.range 12).all (fun k => (tbs (k + 49)).all (okE (k + 49)))) = true := by decide +kernel
set_option maxRecDepth 100000 in
theorem ck61 : ((List.range 12).all (fun k => (tbs (k + 61)).all (okE (k + 61)))) = true := by decide +kernel
set_option maxRecDepth 100000 in
theorem ck73 : ((List.range 12).all (fun k => (tbs (k + 73)).all (okE (k + 73)))) = true := by decide +kernel
set_option maxRecDepth 100000 in
theorem ck85 : ((List.range 12).all (fun k => (tbs (k + 85)).all (okE (k + 85)))) = true := by decide +kernel
