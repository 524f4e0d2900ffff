/-! THE TABLES ARE THE CODE: the law, by program -/
set_option maxRecDepth 100000 in
theorem ckl30 : lwt30.all (okE 372) = true := by decide +kernel
set_option maxRecDepth 100000 in
theorem ckl31 : lwt31.all (okE 372) = true := by decide +kernel
set_option maxRecDepth 100000 in
theorem ckl32 : lwt32.all (okE 372) = true := by decide +kernel
set_option maxRecDepth 100000 in
theorem ckl33 : lwt33.all (okE 372) = true := by decide +kernel
set_option maxRecDepth 100000 in
theorem ckl34 : lwt34.all (okE 372) = true := by decide +kernel
set_option maxRecDepth 100000 in
theorem ckl35 : lwt35.all (okE 372) = true := by decide +kernel
set_option maxRecDepth 100000 in
theorem ckl36 : lwt36.all (okE 372) = true := by decide +kernel
