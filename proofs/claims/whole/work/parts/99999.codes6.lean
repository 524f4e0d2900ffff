/-! THE TABLES ARE THE CODE: the law, by program -/
set_option maxRecDepth 100000 in
theorem ckl20 : lwt20.all (okE 372) = true := by decide +kernel
set_option maxRecDepth 100000 in
theorem ckl21 : lwt21.all (okE 372) = true := by decide +kernel
set_option maxRecDepth 100000 in
theorem ckl22 : lwt22.all (okE 372) = true := by decide +kernel
set_option maxRecDepth 100000 in
theorem ckl23 : lwt23.all (okE 372) = true := by decide +kernel
set_option maxRecDepth 100000 in
theorem ckl24 : lwt24.all (okE 372) = true := by decide +kernel
set_option maxRecDepth 100000 in
theorem ckl25 : lwt25.all (okE 372) = true := by decide +kernel
set_option maxRecDepth 100000 in
theorem ckl26 : lwt26.all (okE 372) = true := by decide +kernel
set_option maxRecDepth 100000 in
theorem ckl27 : lwt27.all (okE 372) = true := by decide +kernel
set_option maxRecDepth 100000 in
theorem ckl28 : lwt28.all (okE 372) = true := by decide +kernel
set_option maxRecDepth 100000 in
theorem ckl29 : lwt29.all (okE 372) = true := by decide +kernel
