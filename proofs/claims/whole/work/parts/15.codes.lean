/-! each entry of the tables is what decode gives: by program, a dozen methods a row -/
set_option maxRecDepth 100000 in
theorem ck1 : ((List.range 12).all (fun k => (tbs (k + 1)).all (okE (k + 1)))) = true := by decide +kernel
set_option maxRecDepth 100000 in
theorem ck13 : ((List.range 12).all (fun k => (tbs (k + 13)).all (okE (k + 13)))) = true := by decide +kernel
set_option maxRecDepth 100000 in
theorem ck25 : ((List.range 12).all (fun k => (tbs (k + 25)).all (okE (k + 25)))) = true := by decide +kernel
set_option maxRecDepth 100000 in
theorem ck37 : ((List.range 12).all (fun k => (tbs (k + 37)).all (okE (k + 37)))) = true := by decide +kernel
set_option maxRecDepth 100000 in
theorem ck49 : ((List.range 12).all (fun k => (tbs (k + 49)).all (okE (k + 49)))) = true := by decide +kernel
set_option maxRecDepth 100000 in
theorem ck61 : ((List.range 12).all (fun k => (tbs (k + 61)).all (okE (k + 61)))) = true := by decide +kernel
set_option maxRecDepth 100000 in
theorem ck73 : ((List.range 12).all (fun k => (tbs (k + 73)).all (okE (k + 73)))) = true := by decide +kernel
set_option maxRecDepth 100000 in
theorem ck85 : ((List.range 12).all (fun k => (tbs (k + 85)).all (okE (k + 85)))) = true := by decide +kernel
set_option maxRecDepth 100000 in
theorem ck97 : ((List.range 12).all (fun k => (tbs (k + 97)).all (okE (k + 97)))) = true := by decide +kernel
set_option maxRecDepth 100000 in
theorem ck109 : ((List.range 12).all (fun k => (tbs (k + 109)).all (okE (k + 109)))) = true := by decide +kernel
set_option maxRecDepth 100000 in
theorem ck121 : ((List.range 12).all (fun k => (tbs (k + 121)).all (okE (k + 121)))) = true := by decide +kernel
set_option maxRecDepth 100000 in
theorem ck133 : ((List.range 12).all (fun k => (tbs (k + 133)).all (okE (k + 133)))) = true := by decide +kernel
set_option maxRecDepth 100000 in
theorem ck145 : ((List.range 12).all (fun k => (tbs (k + 145)).all (okE (k + 145)))) = true := by decide +kernel
set_option maxRecDepth 100000 in
theorem ck157 : ((List.range 12).all (fun k => (tbs (k + 157)).all (okE (k + 157)))) = true := by decide +kernel
set_option maxRecDepth 100000 in
theorem ck169 : ((List.range 12).all (fun k => (tbs (k + 169)).all (okE (k + 169)))) = true := by decide +kernel
set_option maxRecDepth 100000 in
theorem ck181 : ((List.range 12).all (fun k => (tbs (k + 181)).all (okE (k + 181)))) = true := by decide +kernel
set_option maxRecDepth 100000 in
theorem ck193 : ((List.range 12).all (fun k => (tbs (k + 193)).all (okE (k + 193)))) = true := by decide +kernel
set_option maxRecDepth 100000 in
theorem ck205 : ((List.range 12).all (fun k => (tbs (k + 205)).all (okE (k + 205)))) = true := by decide +kernel
set_option maxRecDepth 100000 in
theorem ck217 : ((List.range 12).all (fun k => (tbs (k + 217)).all (okE (k + 217)))) = true := by decide +kernel
set_option maxRecDepth 100000 in
theorem ck229 : ((List.range 12).all (fun k => (tbs (k + 229)).all (okE (k + 229)))) = true := by decide +kernel
set_option maxRecDepth 100000 in
theorem ck241 : ((List.range 12).all (fun k => (tbs (k + 241)).all (okE (k + 241)))) = true := by decide +kernel
set_option maxRecDepth 100000 in
theorem ck253 : ((List.range 12).all (fun k => (tbs (k + 253)).all (okE (k + 253)))) = true := by decide +kernel
set_option maxRecDepth 100000 in
theorem ck265 : ((List.range 12).all (fun k => (tbs (k + 265)).all (okE (k + 265)))) = true := by decide +kernel
set_option maxRecDepth 100000 in
theorem ck277 : ((List.range 12).all (fun k => (tbs (k + 277)).all (okE (k + 277)))) = true := by decide +kernel
set_option maxRecDepth 100000 in
theorem ck289 : ((List.range 12).all (fun k => (tbs (k + 289)).all (okE (k + 289)))) = true := by decide +kernel
set_option maxRecDepth 100000 in
theorem ck301 : ((List.range 12).all (fun k => (tbs (k + 301)).all (okE (k + 301)))) = true := by decide +kernel
set_option maxRecDepth 100000 in
theorem ck313 : ((List.range 12).all (fun k => (tbs (k + 313)).all (okE (k + 313)))) = true := by decide +kernel
set_option maxRecDepth 100000 in
theorem ck325 : ((List.range 12).all (fun k => (tbs (k + 325)).all (okE (k + 325)))) = true := by decide +kernel
set_option maxRecDepth 100000 in
theorem ck337 : ((List.range 12).all (fun k => (tbs (k + 337)).all (okE (k + 337)))) = true := by decide +kernel
set_option maxRecDepth 100000 in
theorem ck349 : ((List.range 12).all (fun k => (tbs (k + 349)).all (okE (k + 349)))) = true := by decide +kernel
set_option maxRecDepth 100000 in
theorem ck361 : ((List.range 11).all (fun k => (tbs (k + 361)).all (okE (k + 361)))) = true := by decide +kernel
