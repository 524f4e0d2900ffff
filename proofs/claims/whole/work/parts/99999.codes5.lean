/-! THE TABLES ARE THE CODE: the law, by program -/
set_option maxRecDepth 100000 in
theorem ckl10 : lwt10.all (okE 372) = true := by decide +kernel
set_option maxRecDepth 100000 in
theorem ckl11 : lwt11.all (okE 372) = true := by decide +kernel
set_option maxRecDepth 100000 in
theorem ckl12 : lwt12.all (okE 372) = true := by decide +kernel
set_option maxRecDepth 100000 in
theorem ckl13 : lwt13.all (okE 372) = true := by decide +kernel
set_option maxRecDepth 100000 in
theorem ckl14 : lwt14.all (okE 372) = true := by decide +kernel
set_option maxRecDepth 100000 in
theorem ckl15 : lwt15.all (okE 372) = true := by decide +kernel
set_option maxRecDepth 100000 in
theorem ckl16 : lwt16.all (okE 372) = true := by decide +kernel
set_option maxRecDepth 100000 in
theorem ckl17 : lwt17.all (okE 372) = true := by decide +kernel
set_option maxRecDepth 100000 in
theorem ckl18 : lwt18.all (okE 372) = true := by decide +kernel
set_option maxRecDepth 100000 in
theorem ckl19 : lwt19.all (okE 372) = true := by decide +kernel
