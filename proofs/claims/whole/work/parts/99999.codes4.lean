/-! THE TABLES ARE THE CODE: the law, by program -/
set_option maxRecDepth 100000 in
theorem ckl0 : lwt0.all (okE 372) = true := by decide +kernel
set_option maxRecDepth 100000 in
theorem ckl1 : lwt1.all (okE 372) = true := by decide +kernel
set_option maxRecDepth 100000 in
theorem ckl2 : lwt2.all (okE 372) = true := by decide +kernel
set_option maxRecDepth 100000 in
theorem ckl3 : lwt3.all (okE 372) = true := by decide +kernel
set_option maxRecDepth 100000 in
theorem ckl4 : lwt4.all (okE 372) = true := by decide +kernel
set_option maxRecDepth 100000 in
theorem ckl5 : lwt5.all (okE 372) = true := by decide +kernel
set_option maxRecDepth 100000 in
theorem ckl6 : lwt6.all (okE 372) = true := by decide +kernel
set_option maxRecDepth 100000 in
theorem ckl7 : lwt7.all (okE 372) = true := by decide +kernel
set_option maxRecDepth 100000 in
theorem ckl8 : lwt8.all (okE 372) = true := by decide +kernel
set_option maxRecDepth 100000 in
theorem ckl9 : lwt9.all (okE 372) = true := by decide +kernel
