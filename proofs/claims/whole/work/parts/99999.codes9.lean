/-! THE TABLES ARE THE CODE: all of it -/
theorem all_cond {b : Bool} {u v : List (Nat × Instr × Nat × List Nat × (Int32 ⊕ Int64))} {f : Nat × Instr × Nat × List Nat × (Int32 ⊕ Int64) → Bool} (hu : u.all f = true) (hv : v.all f = true) : (cond b u v).all f = true := by
  cases b
  · exact hv
  · exact hu
theorem lwt_all (pc : Nat) : (lwt pc).all (okE 372) = true := (all_cond (all_cond (all_cond (all_cond (all_cond (all_cond ckl0 ckl1) ckl2) (all_cond ckl3 ckl4)) (all_cond (all_cond (all_cond ckl5 ckl6) ckl7) (all_cond ckl8 ckl9))) (all_cond (all_cond (all_cond (all_cond ckl10 ckl11) ckl12) (all_cond ckl13 ckl14)) (all_cond (all_cond ckl15 ckl16) (all_cond ckl17 ckl18)))) (all_cond (all_cond (all_cond (all_cond (all_cond ckl19 ckl20) ckl21) (all_cond ckl22 ckl23)) (all_cond (all_cond ckl24 ckl25) (all_cond ckl26 ckl27))) (all_cond (all_cond (all_cond (all_cond ckl28 ckl29) ckl30) (all_cond ckl31 ckl32)) (all_cond (all_cond ckl33 ckl34) (all_cond ckl35 ckl36)))))
theorem law_ck : ∀ pc, (tbq 372 pc).all (okE 372) = true := fun pc => lwt_all pc
theorem ck_all : CKALL := fun m h1 h2 => by
  have go : ∀ a n, (List.range n).all (fun k => (tbs (k + a)).all (okE (k + a))) = true → a ≤ m → m < a + n → (tbs m).all (okE m) = true := fun a n h h3 h4 => by
    have := List.all_eq_true.mp h (m - a) (List.mem_range.mpr (by omega))
    rwa [Nat.sub_add_cancel h3] at this
  by_cases q1 : m < 13
  · exact go 1 12 ck1 (by omega) (by omega)
  by_cases q13 : m < 25
  · exact go 13 12 ck13 (by omega) (by omega)
  by_cases q25 : m < 37
  · exact go 25 12 ck25 (by omega) (by omega)
  by_cases q37 : m < 49
  · exact go 37 12 ck37 (by omega) (by omega)
  by_cases q49 : m < 61
  · exact go 49 12 ck49 (by omega) (by omega)
  by_cases q61 : m < 73
  · exact go 61 12 ck61 (by omega) (by omega)
  by_cases q73 : m < 85
  · exact go 73 12 ck73 (by omega) (by omega)
  by_cases q85 : m < 97
  · exact go 85 12 ck85 (by omega) (by omega)
  by_cases q97 : m < 109
  · exact go 97 12 ck97 (by omega) (by omega)
  by_cases q109 : m < 121
  · exact go 109 12 ck109 (by omega) (by omega)
  by_cases q121 : m < 133
  · exact go 121 12 ck121 (by omega) (by omega)
  by_cases q133 : m < 145
  · exact go 133 12 ck133 (by omega) (by omega)
  by_cases q145 : m < 157
  · exact go 145 12 ck145 (by omega) (by omega)
  by_cases q157 : m < 169
  · exact go 157 12 ck157 (by omega) (by omega)
  by_cases q169 : m < 181
  · exact go 169 12 ck169 (by omega) (by omega)
  by_cases q181 : m < 193
  · exact go 181 12 ck181 (by omega) (by omega)
  by_cases q193 : m < 205
  · exact go 193 12 ck193 (by omega) (by omega)
  by_cases q205 : m < 217
  · exact go 205 12 ck205 (by omega) (by omega)
  by_cases q217 : m < 229
  · exact go 217 12 ck217 (by omega) (by omega)
  by_cases q229 : m < 241
  · exact go 229 12 ck229 (by omega) (by omega)
  by_cases q241 : m < 253
  · exact go 241 12 ck241 (by omega) (by omega)
  by_cases q253 : m < 265
  · exact go 253 12 ck253 (by omega) (by omega)
  by_cases q265 : m < 277
  · exact go 265 12 ck265 (by omega) (by omega)
  by_cases q277 : m < 289
  · exact go 277 12 ck277 (by omega) (by omega)
  by_cases q289 : m < 301
  · exact go 289 12 ck289 (by omega) (by omega)
  by_cases q301 : m < 313
  · exact go 301 12 ck301 (by omega) (by omega)
  by_cases q313 : m < 325
  · exact go 313 12 ck313 (by omega) (by omega)
  by_cases q325 : m < 337
  · exact go 325 12 ck325 (by omega) (by omega)
  by_cases q337 : m < 349
  · exact go 337 12 ck337 (by omega) (by omega)
  by_cases q349 : m < 361
  · exact go 349 12 ck349 (by omega) (by omega)
  exact go 361 11 ck361 (by omega) (by omega)
