/-! THE TABLES ARE THE CODE: by program -/
set_option maxRecDepth 100000 in
theorem ck289 : ((List.range 12).all (fun k => (tbs (k + 289)).all (okE (k + 289)))) = true := by decide +kernel
set_option maxRecDepth 100000 in
theorem ck301 : ((List.range 12).all (fun k => (tbs (k + 301)).all (okE (k + 301)))) = true := by decide +kernel
set_option maxRecDepth 100000 in
theorem ck313 : ((List.range 12).all (fun k => (tbs (k + 313)).all (okE (k + 313)))) = true := by decide +kernel
set_option maxRecDepth 100000 in
theorem ck325 : ((List.range 12).all (fun k => (tbs (k + 325)).all (okE (k + 325)))) = true := by decide +kernel
set_option maxRecDepth 100000 in
theorem ck337 : ((List.range 12).all (fun k => (tbs (k + 337)).all (okE (k + 337)))) = true := by decide +kernel
set_option maxRecDepth 100000 in
theorem ck349 : ((List.range 12).all (fun k => (tbs (k + 349)).all (okE (k + 349)))) = true := by decide +kernel
set_option maxRecDepth 100000 in
theorem ck361 : ((List.range 11).all (fun k => (tbs (k + 361)).all (okE (k + 361)))) = true := by decide +kernel
