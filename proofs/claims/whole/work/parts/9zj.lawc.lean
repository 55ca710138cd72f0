/-! the cases of the law -/
section LAWC
variable {l : Launch} {D : va_G} {cy : Nat → ClassId} {ad : Nat → Nat} {p : Program} {e : Env} {s : State} {m : MethodId} {below : List Frame} {meth : Method} {c : Code} {b L : Nat} {xs : Nat → Int32} {n k : Nat}
theorem lc_sign (C : lq_C l D cy p s m meth c b L xs) {N : Nat} {f : Nat → Int32} {M : Mem} (hN : N < 512) (hi : 6 * N + 5 < L) (hL : L ≤ 3072) (hC : Cpl N M) (h1 : n ≤ 500000) (h2 : k ≤ 6000000) (kk : ∀ (M2 : Mem) (f2 : Nat → Int32), Cpl (N + 1) M2 → lq_A l D cy ad p e s m below meth c b (n + 1) (k + 6) 1487 (lq_L ad b (6 * N)) [] (lay [oc f2] M2)) : lq_A l D cy ad p e s m below meth c b n k 224 (lq_L ad b (6 * N)) [] (lay [oc f] M) := by
  obtain ⟨r, M1, e1, r2, M2, e2, hr, hc⟩ := st_sign hN hC (xs (6 * N + 1))
  refine lq_aload (x := ad 0) C 1 dL_224 rfl rfl ?_
  refine lq_arg (j := 1) C dD_225 0 4 rfl rfl rfl (by omega) hL ?_
  refine lq_call (st := []) (as := [.int (xs (6 * N + 1))]) C (r_X10_sign e1) miX10_sign lkL_26 dL_231 rfl rfl (Nat.le_of_ble_eq_true rfl) (Nat.le_of_ble_eq_true rfl) (by omega) (by omega) rfl ?_
  refine lq_aload (x := ad 174) C 2 dL_234 rfl rfl ?_
  refine lq_arg (j := 1) C dD_235 0 4 rfl rfl rfl (by omega) hL ?_
  refine lq_call (st := [.int r]) (as := [.int (xs (6 * N + 1))]) C (r_X11_sign e2) miX11_sign lkL_29 dL_241 rfl rfl (Nat.le_of_ble_eq_true rfl) (Nat.le_of_ble_eq_true rfl) (by omega) (by omega) rfl ?_
  refine lq_ieq (tgt := 1487) C dL_244 (by decide) hr.symm ?_
  exact lq_widen (Nat.le_add_right _ 1) (Nat.le_add_right _ 6) (kk _ _ hc)
theorem lc_end (C : lq_C l D cy p s m meth c b L xs) {N : Nat} {f : Nat → Int32} {M : Mem} (hN : N < 512) (hi : 6 * N + 5 < L) (hL : L ≤ 3072) (hC : Cpl N M) (h1 : n ≤ 500000) (h2 : k ≤ 6000000) (kk : ∀ (M2 : Mem) (f2 : Nat → Int32), Cpl (N + 1) M2 → lq_A l D cy ad p e s m below meth c b (n + 1) (k + 6) 1487 (lq_L ad b (6 * N)) [] (lay [oc f2] M2)) : lq_A l D cy ad p e s m below meth c b n k 249 (lq_L ad b (6 * N)) [] (lay [oc f] M) := by
  obtain ⟨r, M1, e1, r2, M2, e2, hr, hc⟩ := st_end hN hC (xs (6 * N + 1))
  refine lq_aload (x := ad 0) C 1 dL_249 rfl rfl ?_
  refine lq_arg (j := 1) C dD_250 0 4 rfl rfl rfl (by omega) hL ?_
  refine lq_call (st := []) (as := [.int (xs (6 * N + 1))]) C (r_X10_end e1) miX10_end lkL_30 dL_256 rfl rfl (Nat.le_of_ble_eq_true rfl) (Nat.le_of_ble_eq_true rfl) (by omega) (by omega) rfl ?_
  refine lq_aload (x := ad 174) C 2 dL_259 rfl rfl ?_
  refine lq_arg (j := 1) C dD_260 0 4 rfl rfl rfl (by omega) hL ?_
  refine lq_call (st := [.int r]) (as := [.int (xs (6 * N + 1))]) C (r_X11_end e2) miX11_end lkL_34 dL_266 rfl rfl (Nat.le_of_ble_eq_true rfl) (Nat.le_of_ble_eq_true rfl) (by omega) (by omega) rfl ?_
  refine lq_ieq (tgt := 1487) C dL_269 (by decide) hr.symm ?_
  exact lq_widen (Nat.le_add_right _ 1) (Nat.le_add_right _ 6) (kk _ _ hc)
theorem lc_palace (C : lq_C l D cy p s m meth c b L xs) {N : Nat} {f : Nat → Int32} {M : Mem} (hN : N < 512) (hi : 6 * N + 5 < L) (hL : L ≤ 3072) (hC : Cpl N M) (h1 : n ≤ 500000) (h2 : k ≤ 6000000) (kk : ∀ (M2 : Mem) (f2 : Nat → Int32), Cpl (N + 1) M2 → lq_A l D cy ad p e s m below meth c b (n + 1) (k + 6) 1487 (lq_L ad b (6 * N)) [] (lay [oc f2] M2)) : lq_A l D cy ad p e s m below meth c b n k 274 (lq_L ad b (6 * N)) [] (lay [oc f] M) := by
  obtain ⟨r, M1, e1, r2, M2, e2, hr, hc⟩ := st_palace hN hC 
  refine lq_aload (x := ad 0) C 1 dL_274 rfl rfl ?_
  refine lq_call (st := []) (as := []) C (r_X10_palace e1) miX10_palace lkL_35 dL_275 rfl rfl (Nat.le_of_ble_eq_true rfl) (Nat.le_of_ble_eq_true rfl) (by omega) (by omega) rfl ?_
  refine lq_aload (x := ad 174) C 2 dL_278 rfl rfl ?_
  refine lq_call (st := [.int r]) (as := []) C (r_X11_palace e2) miX11_palace lkL_39 dL_279 rfl rfl (Nat.le_of_ble_eq_true rfl) (Nat.le_of_ble_eq_true rfl) (by omega) (by omega) rfl ?_
  refine lq_ieq (tgt := 1487) C dL_282 (by decide) hr.symm ?_
  exact lq_widen (Nat.le_add_right _ 1) (Nat.le_add_right _ 6) (kk _ _ hc)
theorem lc_groups (C : lq_C l D cy p s m meth c b L xs) {N : Nat} {f : Nat → Int32} {M : Mem} (hN : N < 512) (hi : 6 * N + 5 < L) (hL : L ≤ 3072) (hC : Cpl N M) (h1 : n ≤ 500000) (h2 : k ≤ 6000000) (kk : ∀ (M2 : Mem) (f2 : Nat → Int32), Cpl (N + 1) M2 → lq_A l D cy ad p e s m below meth c b (n + 1) (k + 6) 1487 (lq_L ad b (6 * N)) [] (lay [oc f2] M2)) : lq_A l D cy ad p e s m below meth c b n k 287 (lq_L ad b (6 * N)) [] (lay [oc f] M) := by
  obtain ⟨r, M1, e1, r2, M2, e2, hr, hc⟩ := st_groups hN hC 
  refine lq_aload (x := ad 0) C 1 dL_287 rfl rfl ?_
  refine lq_call (st := []) (as := []) C (r_X10_groups e1) miX10_groups lkL_40 dL_288 rfl rfl (Nat.le_of_ble_eq_true rfl) (Nat.le_of_ble_eq_true rfl) (by omega) (by omega) rfl ?_
  refine lq_aload (x := ad 174) C 2 dL_291 rfl rfl ?_
  refine lq_call (st := [.int r]) (as := []) C (r_X11_groups e2) miX11_groups lkL_43 dL_292 rfl rfl (Nat.le_of_ble_eq_true rfl) (Nat.le_of_ble_eq_true rfl) (by omega) (by omega) rfl ?_
  refine lq_ieq (tgt := 1487) C dL_295 (by decide) hr.symm ?_
  exact lq_widen (Nat.le_add_right _ 1) (Nat.le_add_right _ 6) (kk _ _ hc)
theorem lc_rule (C : lq_C l D cy p s m meth c b L xs) {N : Nat} {f : Nat → Int32} {M : Mem} (hN : N < 512) (hi : 6 * N + 5 < L) (hL : L ≤ 3072) (hC : Cpl N M) (h1 : n ≤ 500000) (h2 : k ≤ 6000000) (kk : ∀ (M2 : Mem) (f2 : Nat → Int32), Cpl (N + 1) M2 → lq_A l D cy ad p e s m below meth c b (n + 1) (k + 6) 1487 (lq_L ad b (6 * N)) [] (lay [oc f2] M2)) : lq_A l D cy ad p e s m below meth c b n k 300 (lq_L ad b (6 * N)) [] (lay [oc f] M) := by
  obtain ⟨r, M1, e1, r2, M2, e2, hr, hc⟩ := st_rule hN hC 
  refine lq_aload (x := ad 0) C 1 dL_300 rfl rfl ?_
  refine lq_call (st := []) (as := []) C (r_X10_rule e1) miX10_rule lkL_44 dL_301 rfl rfl (Nat.le_of_ble_eq_true rfl) (Nat.le_of_ble_eq_true rfl) (by omega) (by omega) rfl ?_
  refine lq_aload (x := ad 174) C 2 dL_304 rfl rfl ?_
  refine lq_call (st := [.int r]) (as := []) C (r_X11_rule e2) miX11_rule lkL_47 dL_305 rfl rfl (Nat.le_of_ble_eq_true rfl) (Nat.le_of_ble_eq_true rfl) (by omega) (by omega) rfl ?_
  refine lq_ieq (tgt := 1487) C dL_308 (by decide) hr.symm ?_
  exact lq_widen (Nat.le_add_right _ 1) (Nat.le_add_right _ 6) (kk _ _ hc)
theorem lc_group (C : lq_C l D cy p s m meth c b L xs) {N : Nat} {f : Nat → Int32} {M : Mem} (hN : N < 512) (hi : 6 * N + 5 < L) (hL : L ≤ 3072) (hC : Cpl N M) (h1 : n ≤ 500000) (h2 : k ≤ 6000000) (kk : ∀ (M2 : Mem) (f2 : Nat → Int32), Cpl (N + 1) M2 → lq_A l D cy ad p e s m below meth c b (n + 1) (k + 6) 1487 (lq_L ad b (6 * N)) [] (lay [oc f2] M2)) : lq_A l D cy ad p e s m below meth c b n k 313 (lq_L ad b (6 * N)) [] (lay [oc f] M) := by
  obtain ⟨P, e1, r, M2, e2, hc, hP⟩ := st_group hN hC (xs (6 * N + 1)) (xs (6 * N + 2))
  refine lq_aload (x := ad 0) C 1 dL_313 rfl rfl ?_
  refine lq_arg (j := 1) C dD_314 0 4 rfl rfl rfl (by omega) hL ?_
  refine lq_arg (j := 2) C dD_320 0 4 rfl rfl rfl (by omega) hL ?_
  refine lq_aload (x := ad 204) C 3 dL_326 rfl rfl ?_
  refine lq_callH (np := 4) (as := [.ref 0, .int (xs (6 * N + 1)), .int (xs (6 * N + 2)), .ref 204]) C (law_group (f := f) e1) gL_group (by decide +kernel) dL_327 rfl (Nat.le_of_ble_eq_true rfl) (by omega) (by omega) rfl ?_
  refine lq_istore (lv' := (5, .int (thK P)) :: lq_L ad b (6 * N)) C dL_330 (by decide) rfl ?_
  refine lq_aload (x := ad 174) C 3 dL_332 rfl rfl ?_
  refine lq_arg (j := 1) C dD_333 1 5 rfl rfl rfl (by omega) hL ?_
  refine lq_arg (j := 2) C dD_339 1 5 rfl rfl rfl (by omega) hL ?_
  refine lq_call (st := []) (as := [.int (xs (6 * N + 1)), .int (xs (6 * N + 2))]) C (r_X11_group (X := [oc (thF f P)]) e2) miX11_group lkL_53 dL_345 rfl rfl (Nat.le_of_ble_eq_true rfl) (Nat.le_of_ble_eq_true rfl) (by omega) (by omega) rfl ?_
  refine lq_istore (lv' := (6, .int r) :: (5, .int (thK P)) :: lq_L ad b (6 * N)) C dL_348 (by decide) rfl ?_
  exact lq_tail C dT_350 (by decide) hP (by omega) (by omega) (kk _ _ hc)
theorem lc_room (C : lq_C l D cy p s m meth c b L xs) {N : Nat} {f : Nat → Int32} {M : Mem} (hN : N < 512) (hi : 6 * N + 5 < L) (hL : L ≤ 3072) (hC : Cpl N M) (h1 : n ≤ 500000) (h2 : k ≤ 6000000) (kk : ∀ (M2 : Mem) (f2 : Nat → Int32), Cpl (N + 1) M2 → lq_A l D cy ad p e s m below meth c b (n + 1) (k + 6) 1487 (lq_L ad b (6 * N)) [] (lay [oc f2] M2)) : lq_A l D cy ad p e s m below meth c b n k 381 (lq_L ad b (6 * N)) [] (lay [oc f] M) := by
  obtain ⟨P, e1, r, M2, e2, hc, hP⟩ := st_room hN hC (xs (6 * N + 1)) (xs (6 * N + 2))
  refine lq_aload (x := ad 0) C 1 dL_381 rfl rfl ?_
  refine lq_arg (j := 1) C dD_382 0 4 rfl rfl rfl (by omega) hL ?_
  refine lq_arg (j := 2) C dD_388 0 4 rfl rfl rfl (by omega) hL ?_
  refine lq_aload (x := ad 204) C 3 dL_394 rfl rfl ?_
  refine lq_callH (np := 4) (as := [.ref 0, .int (xs (6 * N + 1)), .int (xs (6 * N + 2)), .ref 204]) C (law_room (f := f) e1) gL_room (by decide +kernel) dL_395 rfl (Nat.le_of_ble_eq_true rfl) (by omega) (by omega) rfl ?_
  refine lq_istore (lv' := (5, .int (thK P)) :: lq_L ad b (6 * N)) C dL_398 (by decide) rfl ?_
  refine lq_aload (x := ad 174) C 3 dL_400 rfl rfl ?_
  refine lq_arg (j := 1) C dD_401 1 5 rfl rfl rfl (by omega) hL ?_
  refine lq_arg (j := 2) C dD_407 1 5 rfl rfl rfl (by omega) hL ?_
  refine lq_call (st := []) (as := [.int (xs (6 * N + 1)), .int (xs (6 * N + 2))]) C (r_X11_room (X := [oc (thF f P)]) e2) miX11_room lkL_59 dL_413 rfl rfl (Nat.le_of_ble_eq_true rfl) (Nat.le_of_ble_eq_true rfl) (by omega) (by omega) rfl ?_
  refine lq_istore (lv' := (6, .int r) :: (5, .int (thK P)) :: lq_L ad b (6 * N)) C dL_416 (by decide) rfl ?_
  exact lq_tail C dT_418 (by decide) hP (by omega) (by omega) (kk _ _ hc)
theorem lc_stay (C : lq_C l D cy p s m meth c b L xs) {N : Nat} {f : Nat → Int32} {M : Mem} (hN : N < 512) (hi : 6 * N + 5 < L) (hL : L ≤ 3072) (hC : Cpl N M) (h1 : n ≤ 500000) (h2 : k ≤ 6000000) (kk : ∀ (M2 : Mem) (f2 : Nat → Int32), Cpl (N + 1) M2 → lq_A l D cy ad p e s m below meth c b (n + 1) (k + 6) 1487 (lq_L ad b (6 * N)) [] (lay [oc f2] M2)) : lq_A l D cy ad p e s m below meth c b n k 449 (lq_L ad b (6 * N)) [] (lay [oc f] M) := by
  obtain ⟨r, M1, e1, r2, M2, e2, hr, hc⟩ := st_stay hN hC (xs (6 * N + 1)) (xs (6 * N + 2))
  refine lq_aload (x := ad 0) C 1 dL_449 rfl rfl ?_
  refine lq_arg (j := 1) C dD_450 0 4 rfl rfl rfl (by omega) hL ?_
  refine lq_arg (j := 2) C dD_456 0 4 rfl rfl rfl (by omega) hL ?_
  refine lq_call (st := []) (as := [.int (xs (6 * N + 1)), .int (xs (6 * N + 2))]) C (r_X10_stay e1) miX10_stay lkL_60 dL_462 rfl rfl (Nat.le_of_ble_eq_true rfl) (Nat.le_of_ble_eq_true rfl) (by omega) (by omega) rfl ?_
  refine lq_aload (x := ad 174) C 2 dL_465 rfl rfl ?_
  refine lq_arg (j := 1) C dD_466 0 4 rfl rfl rfl (by omega) hL ?_
  refine lq_arg (j := 2) C dD_472 0 4 rfl rfl rfl (by omega) hL ?_
  refine lq_call (st := [.int r]) (as := [.int (xs (6 * N + 1)), .int (xs (6 * N + 2))]) C (r_X11_stay e2) miX11_stay lkL_63 dL_478 rfl rfl (Nat.le_of_ble_eq_true rfl) (Nat.le_of_ble_eq_true rfl) (by omega) (by omega) rfl ?_
  refine lq_ieq (tgt := 1487) C dL_481 (by decide) hr.symm ?_
  exact lq_widen (Nat.le_add_right _ 1) (Nat.le_add_right _ 6) (kk _ _ hc)
theorem lc_leave (C : lq_C l D cy p s m meth c b L xs) {N : Nat} {f : Nat → Int32} {M : Mem} (hN : N < 512) (hi : 6 * N + 5 < L) (hL : L ≤ 3072) (hC : Cpl N M) (h1 : n ≤ 500000) (h2 : k ≤ 6000000) (kk : ∀ (M2 : Mem) (f2 : Nat → Int32), Cpl (N + 1) M2 → lq_A l D cy ad p e s m below meth c b (n + 1) (k + 6) 1487 (lq_L ad b (6 * N)) [] (lay [oc f2] M2)) : lq_A l D cy ad p e s m below meth c b n k 486 (lq_L ad b (6 * N)) [] (lay [oc f] M) := by
  obtain ⟨r, M1, e1, r2, M2, e2, hr, hc⟩ := st_leave hN hC (xs (6 * N + 1)) (xs (6 * N + 2))
  refine lq_aload (x := ad 0) C 1 dL_486 rfl rfl ?_
  refine lq_arg (j := 1) C dD_487 0 4 rfl rfl rfl (by omega) hL ?_
  refine lq_arg (j := 2) C dD_493 0 4 rfl rfl rfl (by omega) hL ?_
  refine lq_call (st := []) (as := [.int (xs (6 * N + 1)), .int (xs (6 * N + 2))]) C (r_X10_leave e1) miX10_leave lkL_64 dL_499 rfl rfl (Nat.le_of_ble_eq_true rfl) (Nat.le_of_ble_eq_true rfl) (by omega) (by omega) rfl ?_
  refine lq_aload (x := ad 174) C 2 dL_502 rfl rfl ?_
  refine lq_arg (j := 1) C dD_503 0 4 rfl rfl rfl (by omega) hL ?_
  refine lq_arg (j := 2) C dD_509 0 4 rfl rfl rfl (by omega) hL ?_
  refine lq_call (st := [.int r]) (as := [.int (xs (6 * N + 1)), .int (xs (6 * N + 2))]) C (r_X11_leave e2) miX11_leave lkL_67 dL_515 rfl rfl (Nat.le_of_ble_eq_true rfl) (Nat.le_of_ble_eq_true rfl) (by omega) (by omega) rfl ?_
  refine lq_ieq (tgt := 1487) C dL_518 (by decide) hr.symm ?_
  exact lq_widen (Nat.le_add_right _ 1) (Nat.le_add_right _ 6) (kk _ _ hc)
theorem lc_sheet (C : lq_C l D cy p s m meth c b L xs) {N : Nat} {f : Nat → Int32} {M : Mem} (hN : N < 512) (hi : 6 * N + 5 < L) (hL : L ≤ 3072) (hC : Cpl N M) (h1 : n ≤ 500000) (h2 : k ≤ 6000000) (kk : ∀ (M2 : Mem) (f2 : Nat → Int32), Cpl (N + 1) M2 → lq_A l D cy ad p e s m below meth c b (n + 1) (k + 6) 1487 (lq_L ad b (6 * N)) [] (lay [oc f2] M2)) : lq_A l D cy ad p e s m below meth c b n k 523 (lq_L ad b (6 * N)) [] (lay [oc f] M) := by
  obtain ⟨r, M1, e1, r2, M2, e2, hr, hc⟩ := st_sheet hN hC (xs (6 * N + 1)) (xs (6 * N + 2)) (xs (6 * N + 3)) (xs (6 * N + 4)) (xs (6 * N + 5))
  refine lq_aload (x := ad 0) C 1 dL_523 rfl rfl ?_
  refine lq_arg (j := 1) C dD_524 0 4 rfl rfl rfl (by omega) hL ?_
  refine lq_arg (j := 2) C dD_530 0 4 rfl rfl rfl (by omega) hL ?_
  refine lq_arg (j := 3) C dD_536 0 4 rfl rfl rfl (by omega) hL ?_
  refine lq_arg (j := 4) C dD_542 0 4 rfl rfl rfl (by omega) hL ?_
  refine lq_arg (j := 5) C dD_548 0 4 rfl rfl rfl (by omega) hL ?_
  refine lq_call (st := []) (as := [.int (xs (6 * N + 1)), .int (xs (6 * N + 2)), .int (xs (6 * N + 3)), .int (xs (6 * N + 4)), .int (xs (6 * N + 5))]) C (r_X10_sheet e1) miX10_sheet lkL_68 dL_554 rfl rfl (Nat.le_of_ble_eq_true rfl) (Nat.le_of_ble_eq_true rfl) (by omega) (by omega) rfl ?_
  refine lq_aload (x := ad 174) C 2 dL_557 rfl rfl ?_
  refine lq_arg (j := 1) C dD_558 0 4 rfl rfl rfl (by omega) hL ?_
  refine lq_arg (j := 2) C dD_564 0 4 rfl rfl rfl (by omega) hL ?_
  refine lq_arg (j := 3) C dD_570 0 4 rfl rfl rfl (by omega) hL ?_
  refine lq_arg (j := 4) C dD_576 0 4 rfl rfl rfl (by omega) hL ?_
  refine lq_arg (j := 5) C dD_582 0 4 rfl rfl rfl (by omega) hL ?_
  refine lq_call (st := [.int r]) (as := [.int (xs (6 * N + 1)), .int (xs (6 * N + 2)), .int (xs (6 * N + 3)), .int (xs (6 * N + 4)), .int (xs (6 * N + 5))]) C (r_X11_sheet e2) miX11_sheet lkL_72 dL_588 rfl rfl (Nat.le_of_ble_eq_true rfl) (Nat.le_of_ble_eq_true rfl) (by omega) (by omega) rfl ?_
  refine lq_ieq (tgt := 1487) C dL_591 (by decide) hr.symm ?_
  exact lq_widen (Nat.le_add_right _ 1) (Nat.le_add_right _ 6) (kk _ _ hc)
theorem lc_off (C : lq_C l D cy p s m meth c b L xs) {N : Nat} {f : Nat → Int32} {M : Mem} (hN : N < 512) (hi : 6 * N + 5 < L) (hL : L ≤ 3072) (hC : Cpl N M) (h1 : n ≤ 500000) (h2 : k ≤ 6000000) (kk : ∀ (M2 : Mem) (f2 : Nat → Int32), Cpl (N + 1) M2 → lq_A l D cy ad p e s m below meth c b (n + 1) (k + 6) 1487 (lq_L ad b (6 * N)) [] (lay [oc f2] M2)) : lq_A l D cy ad p e s m below meth c b n k 596 (lq_L ad b (6 * N)) [] (lay [oc f] M) := by
  obtain ⟨r, M1, e1, r2, M2, e2, hr, hc⟩ := st_off hN hC (xs (6 * N + 1))
  refine lq_aload (x := ad 0) C 1 dL_596 rfl rfl ?_
  refine lq_arg (j := 1) C dD_597 0 4 rfl rfl rfl (by omega) hL ?_
  refine lq_call (st := []) (as := [.int (xs (6 * N + 1))]) C (r_X10_off e1) miX10_off lkL_73 dL_603 rfl rfl (Nat.le_of_ble_eq_true rfl) (Nat.le_of_ble_eq_true rfl) (by omega) (by omega) rfl ?_
  refine lq_aload (x := ad 174) C 2 dL_606 rfl rfl ?_
  refine lq_arg (j := 1) C dD_607 0 4 rfl rfl rfl (by omega) hL ?_
  refine lq_call (st := [.int r]) (as := [.int (xs (6 * N + 1))]) C (r_X11_off e2) miX11_off lkL_76 dL_613 rfl rfl (Nat.le_of_ble_eq_true rfl) (Nat.le_of_ble_eq_true rfl) (by omega) (by omega) rfl ?_
  refine lq_ieq (tgt := 1487) C dL_616 (by decide) hr.symm ?_
  exact lq_widen (Nat.le_add_right _ 1) (Nat.le_add_right _ 6) (kk _ _ hc)
theorem lc_over (C : lq_C l D cy p s m meth c b L xs) {N : Nat} {f : Nat → Int32} {M : Mem} (hN : N < 512) (hi : 6 * N + 5 < L) (hL : L ≤ 3072) (hC : Cpl N M) (h1 : n ≤ 500000) (h2 : k ≤ 6000000) (kk : ∀ (M2 : Mem) (f2 : Nat → Int32), Cpl (N + 1) M2 → lq_A l D cy ad p e s m below meth c b (n + 1) (k + 6) 1487 (lq_L ad b (6 * N)) [] (lay [oc f2] M2)) : lq_A l D cy ad p e s m below meth c b n k 621 (lq_L ad b (6 * N)) [] (lay [oc f] M) := by
  obtain ⟨r, M1, e1, r2, M2, e2, hr, hc⟩ := st_over hN hC (xs (6 * N + 1)) (xs (6 * N + 2))
  refine lq_aload (x := ad 0) C 1 dL_621 rfl rfl ?_
  refine lq_arg (j := 1) C dD_622 0 4 rfl rfl rfl (by omega) hL ?_
  refine lq_arg (j := 2) C dD_628 0 4 rfl rfl rfl (by omega) hL ?_
  refine lq_call (st := []) (as := [.int (xs (6 * N + 1)), .int (xs (6 * N + 2))]) C (r_X10_over e1) miX10_over lkL_77 dL_634 rfl rfl (Nat.le_of_ble_eq_true rfl) (Nat.le_of_ble_eq_true rfl) (by omega) (by omega) rfl ?_
  refine lq_aload (x := ad 174) C 2 dL_637 rfl rfl ?_
  refine lq_arg (j := 1) C dD_638 0 4 rfl rfl rfl (by omega) hL ?_
  refine lq_arg (j := 2) C dD_644 0 4 rfl rfl rfl (by omega) hL ?_
  refine lq_call (st := [.int r]) (as := [.int (xs (6 * N + 1)), .int (xs (6 * N + 2))]) C (r_X11_over e2) miX11_over lkL_80 dL_650 rfl rfl (Nat.le_of_ble_eq_true rfl) (Nat.le_of_ble_eq_true rfl) (by omega) (by omega) rfl ?_
  refine lq_ieq (tgt := 1487) C dL_653 (by decide) hr.symm ?_
  exact lq_widen (Nat.le_add_right _ 1) (Nat.le_add_right _ 6) (kk _ _ hc)
theorem lc_stand (C : lq_C l D cy p s m meth c b L xs) {N : Nat} {f : Nat → Int32} {M : Mem} (hN : N < 512) (hi : 6 * N + 5 < L) (hL : L ≤ 3072) (hC : Cpl N M) (h1 : n ≤ 500000) (h2 : k ≤ 6000000) (kk : ∀ (M2 : Mem) (f2 : Nat → Int32), Cpl (N + 1) M2 → lq_A l D cy ad p e s m below meth c b (n + 1) (k + 6) 1487 (lq_L ad b (6 * N)) [] (lay [oc f2] M2)) : lq_A l D cy ad p e s m below meth c b n k 658 (lq_L ad b (6 * N)) [] (lay [oc f] M) := by
  obtain ⟨r, M1, e1, r2, M2, e2, hr, hc⟩ := st_stand hN hC (xs (6 * N + 1))
  refine lq_aload (x := ad 0) C 1 dL_658 rfl rfl ?_
  refine lq_arg (j := 1) C dD_659 0 4 rfl rfl rfl (by omega) hL ?_
  refine lq_call (st := []) (as := [.int (xs (6 * N + 1))]) C (r_X10_stand e1) miX10_stand lkL_81 dL_665 rfl rfl (Nat.le_of_ble_eq_true rfl) (Nat.le_of_ble_eq_true rfl) (by omega) (by omega) rfl ?_
  refine lq_aload (x := ad 174) C 2 dL_668 rfl rfl ?_
  refine lq_arg (j := 1) C dD_669 0 4 rfl rfl rfl (by omega) hL ?_
  refine lq_call (st := [.int r]) (as := [.int (xs (6 * N + 1))]) C (r_X11_stand e2) miX11_stand lkL_84 dL_675 rfl rfl (Nat.le_of_ble_eq_true rfl) (Nat.le_of_ble_eq_true rfl) (by omega) (by omega) rfl ?_
  refine lq_ieq (tgt := 1487) C dL_678 (by decide) hr.symm ?_
  exact lq_widen (Nat.le_add_right _ 1) (Nat.le_add_right _ 6) (kk _ _ hc)
theorem lc_minute (C : lq_C l D cy p s m meth c b L xs) {N : Nat} {f : Nat → Int32} {M : Mem} (hN : N < 512) (hi : 6 * N + 5 < L) (hL : L ≤ 3072) (hC : Cpl N M) (h1 : n ≤ 500000) (h2 : k ≤ 6000000) (kk : ∀ (M2 : Mem) (f2 : Nat → Int32), Cpl (N + 1) M2 → lq_A l D cy ad p e s m below meth c b (n + 1) (k + 6) 1487 (lq_L ad b (6 * N)) [] (lay [oc f2] M2)) : lq_A l D cy ad p e s m below meth c b n k 683 (lq_L ad b (6 * N)) [] (lay [oc f] M) := by
  obtain ⟨r, M1, e1, r2, M2, e2, hr, hc⟩ := st_minute hN hC 
  refine lq_aload (x := ad 0) C 1 dL_683 rfl rfl ?_
  refine lq_call (st := []) (as := []) C (r_X10_minute e1) miX10_minute lkL_85 dL_684 rfl rfl (Nat.le_of_ble_eq_true rfl) (Nat.le_of_ble_eq_true rfl) (by omega) (by omega) rfl ?_
  refine lq_aload (x := ad 174) C 2 dL_687 rfl rfl ?_
  refine lq_call (st := [.int r]) (as := []) C (r_X11_minute e2) miX11_minute lkL_88 dL_688 rfl rfl (Nat.le_of_ble_eq_true rfl) (Nat.le_of_ble_eq_true rfl) (by omega) (by omega) rfl ?_
  refine lq_ieq (tgt := 1487) C dL_691 (by decide) hr.symm ?_
  exact lq_widen (Nat.le_add_right _ 1) (Nat.le_add_right _ 6) (kk _ _ hc)
theorem lc_minutes (C : lq_C l D cy p s m meth c b L xs) {N : Nat} {f : Nat → Int32} {M : Mem} (hN : N < 512) (hi : 6 * N + 5 < L) (hL : L ≤ 3072) (hC : Cpl N M) (h1 : n ≤ 500000) (h2 : k ≤ 6000000) (kk : ∀ (M2 : Mem) (f2 : Nat → Int32), Cpl (N + 1) M2 → lq_A l D cy ad p e s m below meth c b (n + 1) (k + 6) 1487 (lq_L ad b (6 * N)) [] (lay [oc f2] M2)) : lq_A l D cy ad p e s m below meth c b n k 696 (lq_L ad b (6 * N)) [] (lay [oc f] M) := by
  obtain ⟨r, M1, e1, r2, M2, e2, hr, hc⟩ := st_minutes hN hC (xs (6 * N + 1))
  refine lq_aload (x := ad 0) C 1 dL_696 rfl rfl ?_
  refine lq_arg (j := 1) C dD_697 0 4 rfl rfl rfl (by omega) hL ?_
  refine lq_call (st := []) (as := [.int (xs (6 * N + 1))]) C (r_X10_minutes e1) miX10_minutes lkL_89 dL_703 rfl rfl (Nat.le_of_ble_eq_true rfl) (Nat.le_of_ble_eq_true rfl) (by omega) (by omega) rfl ?_
  refine lq_aload (x := ad 174) C 2 dL_706 rfl rfl ?_
  refine lq_arg (j := 1) C dD_707 0 4 rfl rfl rfl (by omega) hL ?_
  refine lq_call (st := [.int r]) (as := [.int (xs (6 * N + 1))]) C (r_X11_minutes e2) miX11_minutes lkL_92 dL_713 rfl rfl (Nat.le_of_ble_eq_true rfl) (Nat.le_of_ble_eq_true rfl) (by omega) (by omega) rfl ?_
  refine lq_ieq (tgt := 1487) C dL_716 (by decide) hr.symm ?_
  exact lq_widen (Nat.le_add_right _ 1) (Nat.le_add_right _ 6) (kk _ _ hc)
theorem lc_day (C : lq_C l D cy p s m meth c b L xs) {N : Nat} {f : Nat → Int32} {M : Mem} (hN : N < 512) (hi : 6 * N + 5 < L) (hL : L ≤ 3072) (hC : Cpl N M) (h1 : n ≤ 500000) (h2 : k ≤ 6000000) (kk : ∀ (M2 : Mem) (f2 : Nat → Int32), Cpl (N + 1) M2 → lq_A l D cy ad p e s m below meth c b (n + 1) (k + 6) 1487 (lq_L ad b (6 * N)) [] (lay [oc f2] M2)) : lq_A l D cy ad p e s m below meth c b n k 721 (lq_L ad b (6 * N)) [] (lay [oc f] M) := by
  obtain ⟨r, M1, e1, r2, M2, e2, hr, hc⟩ := st_day hN hC 
  refine lq_aload (x := ad 0) C 1 dL_721 rfl rfl ?_
  refine lq_call (st := []) (as := []) C (r_X10_day e1) miX10_day lkL_93 dL_722 rfl rfl (Nat.le_of_ble_eq_true rfl) (Nat.le_of_ble_eq_true rfl) (by omega) (by omega) rfl ?_
  refine lq_aload (x := ad 174) C 2 dL_725 rfl rfl ?_
  refine lq_call (st := [.int r]) (as := []) C (r_X11_day e2) miX11_day lkL_96 dL_726 rfl rfl (Nat.le_of_ble_eq_true rfl) (Nat.le_of_ble_eq_true rfl) (by omega) (by omega) rfl ?_
  refine lq_ieq (tgt := 1487) C dL_729 (by decide) hr.symm ?_
  exact lq_widen (Nat.le_add_right _ 1) (Nat.le_add_right _ 6) (kk _ _ hc)
theorem lc_undo (C : lq_C l D cy p s m meth c b L xs) {N : Nat} {f : Nat → Int32} {M : Mem} (hN : N < 512) (hi : 6 * N + 5 < L) (hL : L ≤ 3072) (hC : Cpl N M) (h1 : n ≤ 500000) (h2 : k ≤ 6000000) (kk : ∀ (M2 : Mem) (f2 : Nat → Int32), Cpl (N + 1) M2 → lq_A l D cy ad p e s m below meth c b (n + 1) (k + 6) 1487 (lq_L ad b (6 * N)) [] (lay [oc f2] M2)) : lq_A l D cy ad p e s m below meth c b n k 734 (lq_L ad b (6 * N)) [] (lay [oc f] M) := by
  obtain ⟨r, M1, e1, r2, M2, e2, hr, hc⟩ := st_undo hN hC 
  refine lq_aload (x := ad 0) C 1 dL_734 rfl rfl ?_
  refine lq_call (st := []) (as := []) C (r_X10_undo e1) miX10_undo lkL_97 dL_735 rfl rfl (Nat.le_of_ble_eq_true rfl) (Nat.le_of_ble_eq_true rfl) (by omega) (by omega) rfl ?_
  refine lq_aload (x := ad 174) C 2 dL_738 rfl rfl ?_
  refine lq_call (st := [.int r]) (as := []) C (r_X11_undo e2) miX11_undo lkL_100 dL_739 rfl rfl (Nat.le_of_ble_eq_true rfl) (Nat.le_of_ble_eq_true rfl) (by omega) (by omega) rfl ?_
  refine lq_ieq (tgt := 1487) C dL_742 (by decide) hr.symm ?_
  exact lq_widen (Nat.le_add_right _ 1) (Nat.le_add_right _ 6) (kk _ _ hc)
theorem lc_where (C : lq_C l D cy p s m meth c b L xs) {N : Nat} {f : Nat → Int32} {M : Mem} (hN : N < 512) (hi : 6 * N + 5 < L) (hL : L ≤ 3072) (hC : Cpl N M) (h1 : n ≤ 500000) (h2 : k ≤ 6000000) (kk : ∀ (M2 : Mem) (f2 : Nat → Int32), Cpl (N + 1) M2 → lq_A l D cy ad p e s m below meth c b (n + 1) (k + 6) 1487 (lq_L ad b (6 * N)) [] (lay [oc f2] M2)) : lq_A l D cy ad p e s m below meth c b n k 747 (lq_L ad b (6 * N)) [] (lay [oc f] M) := by
  obtain ⟨r, M1, e1, r2, M2, e2, hr, hc⟩ := st_where hN hC (xs (6 * N + 1)) (xs (6 * N + 2))
  refine lq_aload (x := ad 0) C 1 dL_747 rfl rfl ?_
  refine lq_arg (j := 1) C dD_748 0 4 rfl rfl rfl (by omega) hL ?_
  refine lq_arg (j := 2) C dD_754 0 4 rfl rfl rfl (by omega) hL ?_
  refine lq_call (st := []) (as := [.int (xs (6 * N + 1)), .int (xs (6 * N + 2))]) C (r_X10_where e1) miX10_where lkL_101 dL_760 rfl rfl (Nat.le_of_ble_eq_true rfl) (Nat.le_of_ble_eq_true rfl) (by omega) (by omega) rfl ?_
  refine lq_aload (x := ad 174) C 2 dL_763 rfl rfl ?_
  refine lq_arg (j := 1) C dD_764 0 4 rfl rfl rfl (by omega) hL ?_
  refine lq_arg (j := 2) C dD_770 0 4 rfl rfl rfl (by omega) hL ?_
  refine lq_call (st := [.int r]) (as := [.int (xs (6 * N + 1)), .int (xs (6 * N + 2))]) C (r_X11_where e2) miX11_where lkL_104 dL_776 rfl rfl (Nat.le_of_ble_eq_true rfl) (Nat.le_of_ble_eq_true rfl) (by omega) (by omega) rfl ?_
  refine lq_ieq (tgt := 1487) C dL_779 (by decide) hr.symm ?_
  exact lq_widen (Nat.le_add_right _ 1) (Nat.le_add_right _ 6) (kk _ _ hc)
theorem lc_stuck (C : lq_C l D cy p s m meth c b L xs) {N : Nat} {f : Nat → Int32} {M : Mem} (hN : N < 512) (hi : 6 * N + 5 < L) (hL : L ≤ 3072) (hC : Cpl N M) (h1 : n ≤ 500000) (h2 : k ≤ 6000000) (kk : ∀ (M2 : Mem) (f2 : Nat → Int32), Cpl (N + 1) M2 → lq_A l D cy ad p e s m below meth c b (n + 1) (k + 6) 1487 (lq_L ad b (6 * N)) [] (lay [oc f2] M2)) : lq_A l D cy ad p e s m below meth c b n k 784 (lq_L ad b (6 * N)) [] (lay [oc f] M) := by
  obtain ⟨r, M1, e1, r2, M2, e2, hr, hc⟩ := st_stuck hN hC 
  refine lq_aload (x := ad 0) C 1 dL_784 rfl rfl ?_
  refine lq_call (st := []) (as := []) C (r_X10_stuck e1) miX10_stuck lkL_105 dL_785 rfl rfl (Nat.le_of_ble_eq_true rfl) (Nat.le_of_ble_eq_true rfl) (by omega) (by omega) rfl ?_
  refine lq_aload (x := ad 174) C 2 dL_788 rfl rfl ?_
  refine lq_call (st := [.int r]) (as := []) C (r_X11_stuck e2) miX11_stuck lkL_108 dL_789 rfl rfl (Nat.le_of_ble_eq_true rfl) (Nat.le_of_ble_eq_true rfl) (by omega) (by omega) rfl ?_
  refine lq_ieq (tgt := 1487) C dL_792 (by decide) hr.symm ?_
  exact lq_widen (Nat.le_add_right _ 1) (Nat.le_add_right _ 6) (kk _ _ hc)
theorem lc_order (C : lq_C l D cy p s m meth c b L xs) {N : Nat} {f : Nat → Int32} {M : Mem} (hN : N < 512) (hi : 6 * N + 5 < L) (hL : L ≤ 3072) (hC : Cpl N M) (h1 : n ≤ 500000) (h2 : k ≤ 6000000) (kk : ∀ (M2 : Mem) (f2 : Nat → Int32), Cpl (N + 1) M2 → lq_A l D cy ad p e s m below meth c b (n + 1) (k + 6) 1487 (lq_L ad b (6 * N)) [] (lay [oc f2] M2)) : lq_A l D cy ad p e s m below meth c b n k 797 (lq_L ad b (6 * N)) [] (lay [oc f] M) := by
  obtain ⟨r, M1, e1, r2, M2, e2, hr, hc⟩ := st_order hN hC 
  refine lq_aload (x := ad 0) C 1 dL_797 rfl rfl ?_
  refine lq_call (st := []) (as := []) C (r_X10_order e1) miX10_order lkL_109 dL_798 rfl rfl (Nat.le_of_ble_eq_true rfl) (Nat.le_of_ble_eq_true rfl) (by omega) (by omega) rfl ?_
  refine lq_aload (x := ad 174) C 2 dL_801 rfl rfl ?_
  refine lq_call (st := [.int r]) (as := []) C (r_X11_order e2) miX11_order lkL_112 dL_802 rfl rfl (Nat.le_of_ble_eq_true rfl) (Nat.le_of_ble_eq_true rfl) (by omega) (by omega) rfl ?_
  refine lq_ieq (tgt := 1487) C dL_805 (by decide) hr.symm ?_
  exact lq_widen (Nat.le_add_right _ 1) (Nat.le_add_right _ 6) (kk _ _ hc)
theorem lc_best (C : lq_C l D cy p s m meth c b L xs) {N : Nat} {f : Nat → Int32} {M : Mem} (hN : N < 512) (hi : 6 * N + 5 < L) (hL : L ≤ 3072) (hC : Cpl N M) (h1 : n ≤ 500000) (h2 : k ≤ 6000000) (kk : ∀ (M2 : Mem) (f2 : Nat → Int32), Cpl (N + 1) M2 → lq_A l D cy ad p e s m below meth c b (n + 1) (k + 6) 1487 (lq_L ad b (6 * N)) [] (lay [oc f2] M2)) : lq_A l D cy ad p e s m below meth c b n k 810 (lq_L ad b (6 * N)) [] (lay [oc f] M) := by
  obtain ⟨r, M1, e1, r2, M2, e2, hr, hc⟩ := st_best hN hC (xs (6 * N + 1))
  refine lq_aload (x := ad 0) C 1 dL_810 rfl rfl ?_
  refine lq_arg (j := 1) C dD_811 0 4 rfl rfl rfl (by omega) hL ?_
  refine lq_call (st := []) (as := [.int (xs (6 * N + 1))]) C (r_X10_best e1) miX10_best lkL_113 dL_817 rfl rfl (Nat.le_of_ble_eq_true rfl) (Nat.le_of_ble_eq_true rfl) (by omega) (by omega) rfl ?_
  refine lq_aload (x := ad 174) C 2 dL_820 rfl rfl ?_
  refine lq_arg (j := 1) C dD_821 0 4 rfl rfl rfl (by omega) hL ?_
  refine lq_call (st := [.int r]) (as := [.int (xs (6 * N + 1))]) C (r_X11_best e2) miX11_best lkL_116 dL_827 rfl rfl (Nat.le_of_ble_eq_true rfl) (Nat.le_of_ble_eq_true rfl) (by omega) (by omega) rfl ?_
  refine lq_ieq (tgt := 1487) C dL_830 (by decide) hr.symm ?_
  exact lq_widen (Nat.le_add_right _ 1) (Nat.le_add_right _ 6) (kk _ _ hc)
theorem lc_calm (C : lq_C l D cy p s m meth c b L xs) {N : Nat} {f : Nat → Int32} {M : Mem} (hN : N < 512) (hi : 6 * N + 5 < L) (hL : L ≤ 3072) (hC : Cpl N M) (h1 : n ≤ 500000) (h2 : k ≤ 6000000) (kk : ∀ (M2 : Mem) (f2 : Nat → Int32), Cpl (N + 1) M2 → lq_A l D cy ad p e s m below meth c b (n + 1) (k + 6) 1487 (lq_L ad b (6 * N)) [] (lay [oc f2] M2)) : lq_A l D cy ad p e s m below meth c b n k 835 (lq_L ad b (6 * N)) [] (lay [oc f] M) := by
  obtain ⟨r, M1, e1, r2, M2, e2, hr, hc⟩ := st_calm hN hC (xs (6 * N + 1))
  refine lq_aload (x := ad 0) C 1 dL_835 rfl rfl ?_
  refine lq_arg (j := 1) C dD_836 0 4 rfl rfl rfl (by omega) hL ?_
  refine lq_call (st := []) (as := [.int (xs (6 * N + 1))]) C (r_X10_calm e1) miX10_calm lkL_117 dL_842 rfl rfl (Nat.le_of_ble_eq_true rfl) (Nat.le_of_ble_eq_true rfl) (by omega) (by omega) rfl ?_
  refine lq_aload (x := ad 174) C 2 dL_845 rfl rfl ?_
  refine lq_arg (j := 1) C dD_846 0 4 rfl rfl rfl (by omega) hL ?_
  refine lq_call (st := [.int r]) (as := [.int (xs (6 * N + 1))]) C (r_X11_calm e2) miX11_calm lkL_120 dL_852 rfl rfl (Nat.le_of_ble_eq_true rfl) (Nat.le_of_ble_eq_true rfl) (by omega) (by omega) rfl ?_
  refine lq_ieq (tgt := 1487) C dL_855 (by decide) hr.symm ?_
  exact lq_widen (Nat.le_add_right _ 1) (Nat.le_add_right _ 6) (kk _ _ hc)
theorem lc_many (C : lq_C l D cy p s m meth c b L xs) {N : Nat} {f : Nat → Int32} {M : Mem} (hN : N < 512) (hi : 6 * N + 5 < L) (hL : L ≤ 3072) (hC : Cpl N M) (h1 : n ≤ 500000) (h2 : k ≤ 6000000) (kk : ∀ (M2 : Mem) (f2 : Nat → Int32), Cpl (N + 1) M2 → lq_A l D cy ad p e s m below meth c b (n + 1) (k + 6) 1487 (lq_L ad b (6 * N)) [] (lay [oc f2] M2)) : lq_A l D cy ad p e s m below meth c b n k 860 (lq_L ad b (6 * N)) [] (lay [oc f] M) := by
  obtain ⟨r, M1, e1, r2, M2, e2, hr, hc⟩ := st_many hN hC (xs (6 * N + 1)) (xs (6 * N + 2))
  refine lq_aload (x := ad 0) C 1 dL_860 rfl rfl ?_
  refine lq_arg (j := 1) C dD_861 0 4 rfl rfl rfl (by omega) hL ?_
  refine lq_arg (j := 2) C dD_867 0 4 rfl rfl rfl (by omega) hL ?_
  refine lq_call (st := []) (as := [.int (xs (6 * N + 1)), .int (xs (6 * N + 2))]) C (r_X10_many e1) miX10_many lkL_121 dL_873 rfl rfl (Nat.le_of_ble_eq_true rfl) (Nat.le_of_ble_eq_true rfl) (by omega) (by omega) rfl ?_
  refine lq_aload (x := ad 174) C 2 dL_876 rfl rfl ?_
  refine lq_arg (j := 1) C dD_877 0 4 rfl rfl rfl (by omega) hL ?_
  refine lq_arg (j := 2) C dD_883 0 4 rfl rfl rfl (by omega) hL ?_
  refine lq_call (st := [.int r]) (as := [.int (xs (6 * N + 1)), .int (xs (6 * N + 2))]) C (r_X11_many e2) miX11_many lkL_124 dL_889 rfl rfl (Nat.le_of_ble_eq_true rfl) (Nat.le_of_ble_eq_true rfl) (by omega) (by omega) rfl ?_
  refine lq_ieq (tgt := 1487) C dL_892 (by decide) hr.symm ?_
  exact lq_widen (Nat.le_add_right _ 1) (Nat.le_add_right _ 6) (kk _ _ hc)
theorem lc_gap (C : lq_C l D cy p s m meth c b L xs) {N : Nat} {f : Nat → Int32} {M : Mem} (hN : N < 512) (hi : 6 * N + 5 < L) (hL : L ≤ 3072) (hC : Cpl N M) (h1 : n ≤ 500000) (h2 : k ≤ 6000000) (kk : ∀ (M2 : Mem) (f2 : Nat → Int32), Cpl (N + 1) M2 → lq_A l D cy ad p e s m below meth c b (n + 1) (k + 6) 1487 (lq_L ad b (6 * N)) [] (lay [oc f2] M2)) : lq_A l D cy ad p e s m below meth c b n k 897 (lq_L ad b (6 * N)) [] (lay [oc f] M) := by
  obtain ⟨r, M1, e1, r2, M2, e2, hr, hc⟩ := st_gap hN hC (xs (6 * N + 1)) (xs (6 * N + 2))
  refine lq_aload (x := ad 0) C 1 dL_897 rfl rfl ?_
  refine lq_arg (j := 1) C dD_898 0 4 rfl rfl rfl (by omega) hL ?_
  refine lq_arg (j := 2) C dD_904 0 4 rfl rfl rfl (by omega) hL ?_
  refine lq_call (st := []) (as := [.int (xs (6 * N + 1)), .int (xs (6 * N + 2))]) C (r_X10_gap e1) miX10_gap lkL_125 dL_910 rfl rfl (Nat.le_of_ble_eq_true rfl) (Nat.le_of_ble_eq_true rfl) (by omega) (by omega) rfl ?_
  refine lq_aload (x := ad 174) C 2 dL_913 rfl rfl ?_
  refine lq_arg (j := 1) C dD_914 0 4 rfl rfl rfl (by omega) hL ?_
  refine lq_arg (j := 2) C dD_920 0 4 rfl rfl rfl (by omega) hL ?_
  refine lq_call (st := [.int r]) (as := [.int (xs (6 * N + 1)), .int (xs (6 * N + 2))]) C (r_X11_gap e2) miX11_gap lkL_128 dL_926 rfl rfl (Nat.le_of_ble_eq_true rfl) (Nat.le_of_ble_eq_true rfl) (by omega) (by omega) rfl ?_
  refine lq_ieq (tgt := 1487) C dL_929 (by decide) hr.symm ?_
  exact lq_widen (Nat.le_add_right _ 1) (Nat.le_add_right _ 6) (kk _ _ hc)
theorem lc_smooth (C : lq_C l D cy p s m meth c b L xs) {N : Nat} {f : Nat → Int32} {M : Mem} (hN : N < 512) (hi : 6 * N + 5 < L) (hL : L ≤ 3072) (hC : Cpl N M) (h1 : n ≤ 500000) (h2 : k ≤ 6000000) (kk : ∀ (M2 : Mem) (f2 : Nat → Int32), Cpl (N + 1) M2 → lq_A l D cy ad p e s m below meth c b (n + 1) (k + 6) 1487 (lq_L ad b (6 * N)) [] (lay [oc f2] M2)) : lq_A l D cy ad p e s m below meth c b n k 934 (lq_L ad b (6 * N)) [] (lay [oc f] M) := by
  obtain ⟨r, M1, e1, r2, M2, e2, hr, hc⟩ := st_smooth hN hC (xs (6 * N + 1))
  refine lq_aload (x := ad 0) C 1 dL_934 rfl rfl ?_
  refine lq_arg (j := 1) C dD_935 0 4 rfl rfl rfl (by omega) hL ?_
  refine lq_call (st := []) (as := [.int (xs (6 * N + 1))]) C (r_X10_smooth e1) miX10_smooth lkL_129 dL_941 rfl rfl (Nat.le_of_ble_eq_true rfl) (Nat.le_of_ble_eq_true rfl) (by omega) (by omega) rfl ?_
  refine lq_aload (x := ad 174) C 2 dL_944 rfl rfl ?_
  refine lq_arg (j := 1) C dD_945 0 4 rfl rfl rfl (by omega) hL ?_
  refine lq_call (st := [.int r]) (as := [.int (xs (6 * N + 1))]) C (r_X11_smooth e2) miX11_smooth lkL_132 dL_951 rfl rfl (Nat.le_of_ble_eq_true rfl) (Nat.le_of_ble_eq_true rfl) (by omega) (by omega) rfl ?_
  refine lq_ieq (tgt := 1487) C dL_954 (by decide) hr.symm ?_
  exact lq_widen (Nat.le_add_right _ 1) (Nat.le_add_right _ 6) (kk _ _ hc)
theorem lc_every (C : lq_C l D cy p s m meth c b L xs) {N : Nat} {f : Nat → Int32} {M : Mem} (hN : N < 512) (hi : 6 * N + 5 < L) (hL : L ≤ 3072) (hC : Cpl N M) (h1 : n ≤ 500000) (h2 : k ≤ 6000000) (kk : ∀ (M2 : Mem) (f2 : Nat → Int32), Cpl (N + 1) M2 → lq_A l D cy ad p e s m below meth c b (n + 1) (k + 6) 1487 (lq_L ad b (6 * N)) [] (lay [oc f2] M2)) : lq_A l D cy ad p e s m below meth c b n k 959 (lq_L ad b (6 * N)) [] (lay [oc f] M) := by
  obtain ⟨r, M1, e1, r2, M2, e2, hr, hc⟩ := st_every hN hC (xs (6 * N + 1))
  refine lq_aload (x := ad 0) C 1 dL_959 rfl rfl ?_
  refine lq_arg (j := 1) C dD_960 0 4 rfl rfl rfl (by omega) hL ?_
  refine lq_call (st := []) (as := [.int (xs (6 * N + 1))]) C (r_X10_every e1) miX10_every lkL_133 dL_966 rfl rfl (Nat.le_of_ble_eq_true rfl) (Nat.le_of_ble_eq_true rfl) (by omega) (by omega) rfl ?_
  refine lq_aload (x := ad 174) C 2 dL_969 rfl rfl ?_
  refine lq_arg (j := 1) C dD_970 0 4 rfl rfl rfl (by omega) hL ?_
  refine lq_call (st := [.int r]) (as := [.int (xs (6 * N + 1))]) C (r_X11_every e2) miX11_every lkL_136 dL_976 rfl rfl (Nat.le_of_ble_eq_true rfl) (Nat.le_of_ble_eq_true rfl) (by omega) (by omega) rfl ?_
  refine lq_ieq (tgt := 1487) C dL_979 (by decide) hr.symm ?_
  exact lq_widen (Nat.le_add_right _ 1) (Nat.le_add_right _ 6) (kk _ _ hc)
theorem lc_least (C : lq_C l D cy p s m meth c b L xs) {N : Nat} {f : Nat → Int32} {M : Mem} (hN : N < 512) (hi : 6 * N + 5 < L) (hL : L ≤ 3072) (hC : Cpl N M) (h1 : n ≤ 500000) (h2 : k ≤ 6000000) (kk : ∀ (M2 : Mem) (f2 : Nat → Int32), Cpl (N + 1) M2 → lq_A l D cy ad p e s m below meth c b (n + 1) (k + 6) 1487 (lq_L ad b (6 * N)) [] (lay [oc f2] M2)) : lq_A l D cy ad p e s m below meth c b n k 984 (lq_L ad b (6 * N)) [] (lay [oc f] M) := by
  obtain ⟨r, M1, e1, r2, M2, e2, hr, hc⟩ := st_least hN hC (xs (6 * N + 1))
  refine lq_aload (x := ad 0) C 1 dL_984 rfl rfl ?_
  refine lq_arg (j := 1) C dD_985 0 4 rfl rfl rfl (by omega) hL ?_
  refine lq_call (st := []) (as := [.int (xs (6 * N + 1))]) C (r_X10_least e1) miX10_least lkL_137 dL_991 rfl rfl (Nat.le_of_ble_eq_true rfl) (Nat.le_of_ble_eq_true rfl) (by omega) (by omega) rfl ?_
  refine lq_aload (x := ad 174) C 2 dL_994 rfl rfl ?_
  refine lq_arg (j := 1) C dD_995 0 4 rfl rfl rfl (by omega) hL ?_
  refine lq_call (st := [.int r]) (as := [.int (xs (6 * N + 1))]) C (r_X11_least e2) miX11_least lkL_140 dL_1001 rfl rfl (Nat.le_of_ble_eq_true rfl) (Nat.le_of_ble_eq_true rfl) (by omega) (by omega) rfl ?_
  refine lq_ieq (tgt := 1487) C dL_1004 (by decide) hr.symm ?_
  exact lq_widen (Nat.le_add_right _ 1) (Nat.le_add_right _ 6) (kk _ _ hc)
theorem lc_late (C : lq_C l D cy p s m meth c b L xs) {N : Nat} {f : Nat → Int32} {M : Mem} (hN : N < 512) (hi : 6 * N + 5 < L) (hL : L ≤ 3072) (hC : Cpl N M) (h1 : n ≤ 500000) (h2 : k ≤ 6000000) (kk : ∀ (M2 : Mem) (f2 : Nat → Int32), Cpl (N + 1) M2 → lq_A l D cy ad p e s m below meth c b (n + 1) (k + 6) 1487 (lq_L ad b (6 * N)) [] (lay [oc f2] M2)) : lq_A l D cy ad p e s m below meth c b n k 1009 (lq_L ad b (6 * N)) [] (lay [oc f] M) := by
  obtain ⟨r, M1, e1, r2, M2, e2, hr, hc⟩ := st_late hN hC (xs (6 * N + 1)) (xs (6 * N + 2))
  refine lq_aload (x := ad 0) C 1 dL_1009 rfl rfl ?_
  refine lq_arg (j := 1) C dD_1010 0 4 rfl rfl rfl (by omega) hL ?_
  refine lq_arg (j := 2) C dD_1016 0 4 rfl rfl rfl (by omega) hL ?_
  refine lq_call (st := []) (as := [.int (xs (6 * N + 1)), .int (xs (6 * N + 2))]) C (r_X10_late e1) miX10_late lkL_141 dL_1022 rfl rfl (Nat.le_of_ble_eq_true rfl) (Nat.le_of_ble_eq_true rfl) (by omega) (by omega) rfl ?_
  refine lq_aload (x := ad 174) C 2 dL_1025 rfl rfl ?_
  refine lq_arg (j := 1) C dD_1026 0 4 rfl rfl rfl (by omega) hL ?_
  refine lq_arg (j := 2) C dD_1032 0 4 rfl rfl rfl (by omega) hL ?_
  refine lq_call (st := [.int r]) (as := [.int (xs (6 * N + 1)), .int (xs (6 * N + 2))]) C (r_X11_late e2) miX11_late lkL_144 dL_1038 rfl rfl (Nat.le_of_ble_eq_true rfl) (Nat.le_of_ble_eq_true rfl) (by omega) (by omega) rfl ?_
  refine lq_ieq (tgt := 1487) C dL_1041 (by decide) hr.symm ?_
  exact lq_widen (Nat.le_add_right _ 1) (Nat.le_add_right _ 6) (kk _ _ hc)
theorem lc_slack (C : lq_C l D cy p s m meth c b L xs) {N : Nat} {f : Nat → Int32} {M : Mem} (hN : N < 512) (hi : 6 * N + 5 < L) (hL : L ≤ 3072) (hC : Cpl N M) (h1 : n ≤ 500000) (h2 : k ≤ 6000000) (kk : ∀ (M2 : Mem) (f2 : Nat → Int32), Cpl (N + 1) M2 → lq_A l D cy ad p e s m below meth c b (n + 1) (k + 6) 1487 (lq_L ad b (6 * N)) [] (lay [oc f2] M2)) : lq_A l D cy ad p e s m below meth c b n k 1046 (lq_L ad b (6 * N)) [] (lay [oc f] M) := by
  obtain ⟨r, M1, e1, r2, M2, e2, hr, hc⟩ := st_slack hN hC (xs (6 * N + 1))
  refine lq_aload (x := ad 0) C 1 dL_1046 rfl rfl ?_
  refine lq_arg (j := 1) C dD_1047 0 4 rfl rfl rfl (by omega) hL ?_
  refine lq_call (st := []) (as := [.int (xs (6 * N + 1))]) C (r_X10_slack e1) miX10_slack lkL_145 dL_1053 rfl rfl (Nat.le_of_ble_eq_true rfl) (Nat.le_of_ble_eq_true rfl) (by omega) (by omega) rfl ?_
  refine lq_aload (x := ad 174) C 2 dL_1056 rfl rfl ?_
  refine lq_arg (j := 1) C dD_1057 0 4 rfl rfl rfl (by omega) hL ?_
  refine lq_call (st := [.int r]) (as := [.int (xs (6 * N + 1))]) C (r_X11_slack e2) miX11_slack lkL_148 dL_1063 rfl rfl (Nat.le_of_ble_eq_true rfl) (Nat.le_of_ble_eq_true rfl) (by omega) (by omega) rfl ?_
  refine lq_ieq (tgt := 1487) C dL_1066 (by decide) hr.symm ?_
  exact lq_widen (Nat.le_add_right _ 1) (Nat.le_add_right _ 6) (kk _ _ hc)
theorem lc_dies (C : lq_C l D cy p s m meth c b L xs) {N : Nat} {f : Nat → Int32} {M : Mem} (hN : N < 512) (hi : 6 * N + 5 < L) (hL : L ≤ 3072) (hC : Cpl N M) (h1 : n ≤ 500000) (h2 : k ≤ 6000000) (kk : ∀ (M2 : Mem) (f2 : Nat → Int32), Cpl (N + 1) M2 → lq_A l D cy ad p e s m below meth c b (n + 1) (k + 6) 1487 (lq_L ad b (6 * N)) [] (lay [oc f2] M2)) : lq_A l D cy ad p e s m below meth c b n k 1071 (lq_L ad b (6 * N)) [] (lay [oc f] M) := by
  obtain ⟨r, M1, e1, r2, M2, e2, hr, hc⟩ := st_dies hN hC (xs (6 * N + 1)) (xs (6 * N + 2)) (xs (6 * N + 3))
  refine lq_aload (x := ad 0) C 1 dL_1071 rfl rfl ?_
  refine lq_arg (j := 1) C dD_1072 0 4 rfl rfl rfl (by omega) hL ?_
  refine lq_arg (j := 2) C dD_1078 0 4 rfl rfl rfl (by omega) hL ?_
  refine lq_arg (j := 3) C dD_1084 0 4 rfl rfl rfl (by omega) hL ?_
  refine lq_call (st := []) (as := [.int (xs (6 * N + 1)), .int (xs (6 * N + 2)), .int (xs (6 * N + 3))]) C (r_X10_dies e1) miX10_dies lkL_149 dL_1090 rfl rfl (Nat.le_of_ble_eq_true rfl) (Nat.le_of_ble_eq_true rfl) (by omega) (by omega) rfl ?_
  refine lq_aload (x := ad 174) C 2 dL_1093 rfl rfl ?_
  refine lq_arg (j := 1) C dD_1094 0 4 rfl rfl rfl (by omega) hL ?_
  refine lq_arg (j := 2) C dD_1100 0 4 rfl rfl rfl (by omega) hL ?_
  refine lq_arg (j := 3) C dD_1106 0 4 rfl rfl rfl (by omega) hL ?_
  refine lq_call (st := [.int r]) (as := [.int (xs (6 * N + 1)), .int (xs (6 * N + 2)), .int (xs (6 * N + 3))]) C (r_X11_dies e2) miX11_dies lkL_153 dL_1112 rfl rfl (Nat.le_of_ble_eq_true rfl) (Nat.le_of_ble_eq_true rfl) (by omega) (by omega) rfl ?_
  refine lq_ieq (tgt := 1487) C dL_1115 (by decide) hr.symm ?_
  exact lq_widen (Nat.le_add_right _ 1) (Nat.le_add_right _ 6) (kk _ _ hc)
theorem lc_loss (C : lq_C l D cy p s m meth c b L xs) {N : Nat} {f : Nat → Int32} {M : Mem} (hN : N < 512) (hi : 6 * N + 5 < L) (hL : L ≤ 3072) (hC : Cpl N M) (h1 : n ≤ 500000) (h2 : k ≤ 6000000) (kk : ∀ (M2 : Mem) (f2 : Nat → Int32), Cpl (N + 1) M2 → lq_A l D cy ad p e s m below meth c b (n + 1) (k + 6) 1487 (lq_L ad b (6 * N)) [] (lay [oc f2] M2)) : lq_A l D cy ad p e s m below meth c b n k 1120 (lq_L ad b (6 * N)) [] (lay [oc f] M) := by
  obtain ⟨r, M1, e1, r2, M2, e2, hr, hc⟩ := st_loss hN hC (xs (6 * N + 1)) (xs (6 * N + 2))
  refine lq_aload (x := ad 0) C 1 dL_1120 rfl rfl ?_
  refine lq_arg (j := 1) C dD_1121 0 4 rfl rfl rfl (by omega) hL ?_
  refine lq_arg (j := 2) C dD_1127 0 4 rfl rfl rfl (by omega) hL ?_
  refine lq_call (st := []) (as := [.int (xs (6 * N + 1)), .int (xs (6 * N + 2))]) C (r_X10_loss e1) miX10_loss lkL_154 dL_1133 rfl rfl (Nat.le_of_ble_eq_true rfl) (Nat.le_of_ble_eq_true rfl) (by omega) (by omega) rfl ?_
  refine lq_aload (x := ad 174) C 2 dL_1136 rfl rfl ?_
  refine lq_arg (j := 1) C dD_1137 0 4 rfl rfl rfl (by omega) hL ?_
  refine lq_arg (j := 2) C dD_1143 0 4 rfl rfl rfl (by omega) hL ?_
  refine lq_call (st := [.int r]) (as := [.int (xs (6 * N + 1)), .int (xs (6 * N + 2))]) C (r_X11_loss e2) miX11_loss lkL_157 dL_1149 rfl rfl (Nat.le_of_ble_eq_true rfl) (Nat.le_of_ble_eq_true rfl) (by omega) (by omega) rfl ?_
  refine lq_ieq (tgt := 1487) C dL_1152 (by decide) hr.symm ?_
  exact lq_widen (Nat.le_add_right _ 1) (Nat.le_add_right _ 6) (kk _ _ hc)
theorem lc_pairs (C : lq_C l D cy p s m meth c b L xs) {N : Nat} {f : Nat → Int32} {M : Mem} (hN : N < 512) (hi : 6 * N + 5 < L) (hL : L ≤ 3072) (hC : Cpl N M) (h1 : n ≤ 500000) (h2 : k ≤ 6000000) (kk : ∀ (M2 : Mem) (f2 : Nat → Int32), Cpl (N + 1) M2 → lq_A l D cy ad p e s m below meth c b (n + 1) (k + 6) 1487 (lq_L ad b (6 * N)) [] (lay [oc f2] M2)) : lq_A l D cy ad p e s m below meth c b n k 1157 (lq_L ad b (6 * N)) [] (lay [oc f] M) := by
  obtain ⟨r, M1, e1, r2, M2, e2, hr, hc⟩ := st_pairs hN hC 
  refine lq_aload (x := ad 0) C 1 dL_1157 rfl rfl ?_
  refine lq_call (st := []) (as := []) C (r_X10_pairs e1) miX10_pairs lkL_158 dL_1158 rfl rfl (Nat.le_of_ble_eq_true rfl) (Nat.le_of_ble_eq_true rfl) (by omega) (by omega) rfl ?_
  refine lq_aload (x := ad 174) C 2 dL_1161 rfl rfl ?_
  refine lq_call (st := [.int r]) (as := []) C (r_X11_pairs e2) miX11_pairs lkL_161 dL_1162 rfl rfl (Nat.le_of_ble_eq_true rfl) (Nat.le_of_ble_eq_true rfl) (by omega) (by omega) rfl ?_
  refine lq_ieq (tgt := 1487) C dL_1165 (by decide) hr.symm ?_
  exact lq_widen (Nat.le_add_right _ 1) (Nat.le_add_right _ 6) (kk _ _ hc)
theorem lc_brief (C : lq_C l D cy p s m meth c b L xs) {N : Nat} {f : Nat → Int32} {M : Mem} (hN : N < 512) (hi : 6 * N + 5 < L) (hL : L ≤ 3072) (hC : Cpl N M) (h1 : n ≤ 500000) (h2 : k ≤ 6000000) (kk : ∀ (M2 : Mem) (f2 : Nat → Int32), Cpl (N + 1) M2 → lq_A l D cy ad p e s m below meth c b (n + 1) (k + 6) 1487 (lq_L ad b (6 * N)) [] (lay [oc f2] M2)) : lq_A l D cy ad p e s m below meth c b n k 1170 (lq_L ad b (6 * N)) [] (lay [oc f] M) := by
  obtain ⟨r, M1, e1, r2, M2, e2, hr, hc⟩ := st_brief hN hC (xs (6 * N + 1))
  refine lq_aload (x := ad 0) C 1 dL_1170 rfl rfl ?_
  refine lq_arg (j := 1) C dD_1171 0 4 rfl rfl rfl (by omega) hL ?_
  refine lq_call (st := []) (as := [.int (xs (6 * N + 1))]) C (r_X10_brief e1) miX10_brief lkL_162 dL_1177 rfl rfl (Nat.le_of_ble_eq_true rfl) (Nat.le_of_ble_eq_true rfl) (by omega) (by omega) rfl ?_
  refine lq_aload (x := ad 174) C 2 dL_1180 rfl rfl ?_
  refine lq_arg (j := 1) C dD_1181 0 4 rfl rfl rfl (by omega) hL ?_
  refine lq_call (st := [.int r]) (as := [.int (xs (6 * N + 1))]) C (r_X11_brief e2) miX11_brief lkL_165 dL_1187 rfl rfl (Nat.le_of_ble_eq_true rfl) (Nat.le_of_ble_eq_true rfl) (by omega) (by omega) rfl ?_
  refine lq_ieq (tgt := 1487) C dL_1190 (by decide) hr.symm ?_
  exact lq_widen (Nat.le_add_right _ 1) (Nat.le_add_right _ 6) (kk _ _ hc)
theorem lc_heard (C : lq_C l D cy p s m meth c b L xs) {N : Nat} {f : Nat → Int32} {M : Mem} (hN : N < 512) (hi : 6 * N + 5 < L) (hL : L ≤ 3072) (hC : Cpl N M) (h1 : n ≤ 500000) (h2 : k ≤ 6000000) (kk : ∀ (M2 : Mem) (f2 : Nat → Int32), Cpl (N + 1) M2 → lq_A l D cy ad p e s m below meth c b (n + 1) (k + 6) 1487 (lq_L ad b (6 * N)) [] (lay [oc f2] M2)) : lq_A l D cy ad p e s m below meth c b n k 1195 (lq_L ad b (6 * N)) [] (lay [oc f] M) := by
  obtain ⟨r, M1, e1, r2, M2, e2, hr, hc⟩ := st_heard hN hC (xs (6 * N + 1)) (xs (6 * N + 2)) (xs (6 * N + 3))
  refine lq_aload (x := ad 0) C 1 dL_1195 rfl rfl ?_
  refine lq_arg (j := 1) C dD_1196 0 4 rfl rfl rfl (by omega) hL ?_
  refine lq_arg (j := 2) C dD_1202 0 4 rfl rfl rfl (by omega) hL ?_
  refine lq_arg (j := 3) C dD_1208 0 4 rfl rfl rfl (by omega) hL ?_
  refine lq_call (st := []) (as := [.int (xs (6 * N + 1)), .int (xs (6 * N + 2)), .int (xs (6 * N + 3))]) C (r_X10_heard e1) miX10_heard lkL_166 dL_1214 rfl rfl (Nat.le_of_ble_eq_true rfl) (Nat.le_of_ble_eq_true rfl) (by omega) (by omega) rfl ?_
  refine lq_aload (x := ad 174) C 2 dL_1217 rfl rfl ?_
  refine lq_arg (j := 1) C dD_1218 0 4 rfl rfl rfl (by omega) hL ?_
  refine lq_arg (j := 2) C dD_1224 0 4 rfl rfl rfl (by omega) hL ?_
  refine lq_arg (j := 3) C dD_1230 0 4 rfl rfl rfl (by omega) hL ?_
  refine lq_call (st := [.int r]) (as := [.int (xs (6 * N + 1)), .int (xs (6 * N + 2)), .int (xs (6 * N + 3))]) C (r_X11_heard e2) miX11_heard lkL_169 dL_1236 rfl rfl (Nat.le_of_ble_eq_true rfl) (Nat.le_of_ble_eq_true rfl) (by omega) (by omega) rfl ?_
  refine lq_ieq (tgt := 1487) C dL_1239 (by decide) hr.symm ?_
  exact lq_widen (Nat.le_add_right _ 1) (Nat.le_add_right _ 6) (kk _ _ hc)
theorem lc_forget (C : lq_C l D cy p s m meth c b L xs) {N : Nat} {f : Nat → Int32} {M : Mem} (hN : N < 512) (hi : 6 * N + 5 < L) (hL : L ≤ 3072) (hC : Cpl N M) (h1 : n ≤ 500000) (h2 : k ≤ 6000000) (kk : ∀ (M2 : Mem) (f2 : Nat → Int32), Cpl (N + 1) M2 → lq_A l D cy ad p e s m below meth c b (n + 1) (k + 6) 1487 (lq_L ad b (6 * N)) [] (lay [oc f2] M2)) : lq_A l D cy ad p e s m below meth c b n k 1244 (lq_L ad b (6 * N)) [] (lay [oc f] M) := by
  obtain ⟨r, M1, e1, r2, M2, e2, hr, hc⟩ := st_forget hN hC 
  refine lq_aload (x := ad 0) C 1 dL_1244 rfl rfl ?_
  refine lq_call (st := []) (as := []) C (r_X10_forget e1) miX10_forget lkL_170 dL_1245 rfl rfl (Nat.le_of_ble_eq_true rfl) (Nat.le_of_ble_eq_true rfl) (by omega) (by omega) rfl ?_
  refine lq_aload (x := ad 174) C 2 dL_1248 rfl rfl ?_
  refine lq_call (st := [.int r]) (as := []) C (r_X11_forget e2) miX11_forget lkL_173 dL_1249 rfl rfl (Nat.le_of_ble_eq_true rfl) (Nat.le_of_ble_eq_true rfl) (by omega) (by omega) rfl ?_
  refine lq_ieq (tgt := 1487) C dL_1252 (by decide) hr.symm ?_
  exact lq_widen (Nat.le_add_right _ 1) (Nat.le_add_right _ 6) (kk _ _ hc)
theorem lc_fits (C : lq_C l D cy p s m meth c b L xs) {N : Nat} {f : Nat → Int32} {M : Mem} (hN : N < 512) (hi : 6 * N + 5 < L) (hL : L ≤ 3072) (hC : Cpl N M) (h1 : n ≤ 500000) (h2 : k ≤ 6000000) (kk : ∀ (M2 : Mem) (f2 : Nat → Int32), Cpl (N + 1) M2 → lq_A l D cy ad p e s m below meth c b (n + 1) (k + 6) 1487 (lq_L ad b (6 * N)) [] (lay [oc f2] M2)) : lq_A l D cy ad p e s m below meth c b n k 1257 (lq_L ad b (6 * N)) [] (lay [oc f] M) := by
  obtain ⟨r, M1, e1, r2, M2, e2, hr, hc⟩ := st_fits hN hC (xs (6 * N + 1))
  refine lq_aload (x := ad 0) C 1 dL_1257 rfl rfl ?_
  refine lq_arg (j := 1) C dD_1258 0 4 rfl rfl rfl (by omega) hL ?_
  refine lq_call (st := []) (as := [.int (xs (6 * N + 1))]) C (r_X10_fits e1) miX10_fits lkL_174 dL_1264 rfl rfl (Nat.le_of_ble_eq_true rfl) (Nat.le_of_ble_eq_true rfl) (by omega) (by omega) rfl ?_
  refine lq_aload (x := ad 174) C 2 dL_1267 rfl rfl ?_
  refine lq_arg (j := 1) C dD_1268 0 4 rfl rfl rfl (by omega) hL ?_
  refine lq_call (st := [.int r]) (as := [.int (xs (6 * N + 1))]) C (r_X11_fits e2) miX11_fits lkL_177 dL_1274 rfl rfl (Nat.le_of_ble_eq_true rfl) (Nat.le_of_ble_eq_true rfl) (by omega) (by omega) rfl ?_
  refine lq_ieq (tgt := 1487) C dL_1277 (by decide) hr.symm ?_
  exact lq_widen (Nat.le_add_right _ 1) (Nat.le_add_right _ 6) (kk _ _ hc)
theorem lc_began (C : lq_C l D cy p s m meth c b L xs) {N : Nat} {f : Nat → Int32} {M : Mem} (hN : N < 512) (hi : 6 * N + 5 < L) (hL : L ≤ 3072) (hC : Cpl N M) (h1 : n ≤ 500000) (h2 : k ≤ 6000000) (kk : ∀ (M2 : Mem) (f2 : Nat → Int32), Cpl (N + 1) M2 → lq_A l D cy ad p e s m below meth c b (n + 1) (k + 6) 1487 (lq_L ad b (6 * N)) [] (lay [oc f2] M2)) : lq_A l D cy ad p e s m below meth c b n k 1282 (lq_L ad b (6 * N)) [] (lay [oc f] M) := by
  obtain ⟨r, M1, e1, r2, M2, e2, hr, hc⟩ := st_began hN hC (xs (6 * N + 1))
  refine lq_aload (x := ad 0) C 1 dL_1282 rfl rfl ?_
  refine lq_arg (j := 1) C dD_1283 0 4 rfl rfl rfl (by omega) hL ?_
  refine lq_call (st := []) (as := [.int (xs (6 * N + 1))]) C (r_X10_began e1) miX10_began lkL_178 dL_1289 rfl rfl (Nat.le_of_ble_eq_true rfl) (Nat.le_of_ble_eq_true rfl) (by omega) (by omega) rfl ?_
  refine lq_aload (x := ad 174) C 2 dL_1292 rfl rfl ?_
  refine lq_arg (j := 1) C dD_1293 0 4 rfl rfl rfl (by omega) hL ?_
  refine lq_call (st := [.int r]) (as := [.int (xs (6 * N + 1))]) C (r_X11_began e2) miX11_began lkL_181 dL_1299 rfl rfl (Nat.le_of_ble_eq_true rfl) (Nat.le_of_ble_eq_true rfl) (by omega) (by omega) rfl ?_
  refine lq_ieq (tgt := 1487) C dL_1302 (by decide) hr.symm ?_
  exact lq_widen (Nat.le_add_right _ 1) (Nat.le_add_right _ 6) (kk _ _ hc)
theorem lc_season (C : lq_C l D cy p s m meth c b L xs) {N : Nat} {f : Nat → Int32} {M : Mem} (hN : N < 512) (hi : 6 * N + 5 < L) (hL : L ≤ 3072) (hC : Cpl N M) (h1 : n ≤ 500000) (h2 : k ≤ 6000000) (kk : ∀ (M2 : Mem) (f2 : Nat → Int32), Cpl (N + 1) M2 → lq_A l D cy ad p e s m below meth c b (n + 1) (k + 6) 1487 (lq_L ad b (6 * N)) [] (lay [oc f2] M2)) : lq_A l D cy ad p e s m below meth c b n k 1307 (lq_L ad b (6 * N)) [] (lay [oc f] M) := by
  obtain ⟨r, M1, e1, r2, M2, e2, hr, hc⟩ := st_season hN hC (xs (6 * N + 1)) (xs (6 * N + 2)) (xs (6 * N + 3))
  refine lq_aload (x := ad 0) C 1 dL_1307 rfl rfl ?_
  refine lq_arg (j := 1) C dD_1308 0 4 rfl rfl rfl (by omega) hL ?_
  refine lq_arg (j := 2) C dD_1314 0 4 rfl rfl rfl (by omega) hL ?_
  refine lq_arg (j := 3) C dD_1320 0 4 rfl rfl rfl (by omega) hL ?_
  refine lq_call (st := []) (as := [.int (xs (6 * N + 1)), .int (xs (6 * N + 2)), .int (xs (6 * N + 3))]) C (r_X10_season e1) miX10_season lkL_182 dL_1326 rfl rfl (Nat.le_of_ble_eq_true rfl) (Nat.le_of_ble_eq_true rfl) (by omega) (by omega) rfl ?_
  refine lq_aload (x := ad 174) C 2 dL_1329 rfl rfl ?_
  refine lq_arg (j := 1) C dD_1330 0 4 rfl rfl rfl (by omega) hL ?_
  refine lq_arg (j := 2) C dD_1336 0 4 rfl rfl rfl (by omega) hL ?_
  refine lq_arg (j := 3) C dD_1342 0 4 rfl rfl rfl (by omega) hL ?_
  refine lq_call (st := [.int r]) (as := [.int (xs (6 * N + 1)), .int (xs (6 * N + 2)), .int (xs (6 * N + 3))]) C (r_X11_season e2) miX11_season lkL_185 dL_1348 rfl rfl (Nat.le_of_ble_eq_true rfl) (Nat.le_of_ble_eq_true rfl) (by omega) (by omega) rfl ?_
  refine lq_ieq (tgt := 1487) C dL_1351 (by decide) hr.symm ?_
  exact lq_widen (Nat.le_add_right _ 1) (Nat.le_add_right _ 6) (kk _ _ hc)
theorem lc_keep (C : lq_C l D cy p s m meth c b L xs) {N : Nat} {f : Nat → Int32} {M : Mem} (hN : N < 512) (hi : 6 * N + 5 < L) (hL : L ≤ 3072) (hC : Cpl N M) (h1 : n ≤ 500000) (h2 : k ≤ 6000000) (kk : ∀ (M2 : Mem) (f2 : Nat → Int32), Cpl (N + 1) M2 → lq_A l D cy ad p e s m below meth c b (n + 1) (k + 6) 1487 (lq_L ad b (6 * N)) [] (lay [oc f2] M2)) : lq_A l D cy ad p e s m below meth c b n k 1356 (lq_L ad b (6 * N)) [] (lay [oc f] M) := by
  obtain ⟨r, M1, e1, r2, M2, e2, hr, hc⟩ := st_keep hN hC (xs (6 * N + 1))
  refine lq_aload (x := ad 0) C 1 dL_1356 rfl rfl ?_
  refine lq_arg (j := 1) C dD_1357 0 4 rfl rfl rfl (by omega) hL ?_
  refine lq_call (st := []) (as := [.int (xs (6 * N + 1))]) C (r_X10_keep e1) miX10_keep lkL_186 dL_1363 rfl rfl (Nat.le_of_ble_eq_true rfl) (Nat.le_of_ble_eq_true rfl) (by omega) (by omega) rfl ?_
  refine lq_aload (x := ad 174) C 2 dL_1366 rfl rfl ?_
  refine lq_arg (j := 1) C dD_1367 0 4 rfl rfl rfl (by omega) hL ?_
  refine lq_call (st := [.int r]) (as := [.int (xs (6 * N + 1))]) C (r_X11_keep e2) miX11_keep lkL_189 dL_1373 rfl rfl (Nat.le_of_ble_eq_true rfl) (Nat.le_of_ble_eq_true rfl) (by omega) (by omega) rfl ?_
  refine lq_ieq (tgt := 1487) C dL_1376 (by decide) hr.symm ?_
  exact lq_widen (Nat.le_add_right _ 1) (Nat.le_add_right _ 6) (kk _ _ hc)
theorem lc_again (C : lq_C l D cy p s m meth c b L xs) {N : Nat} {f : Nat → Int32} {M : Mem} (hN : N < 512) (hi : 6 * N + 5 < L) (hL : L ≤ 3072) (hC : Cpl N M) (h1 : n ≤ 500000) (h2 : k ≤ 6000000) (kk : ∀ (M2 : Mem) (f2 : Nat → Int32), Cpl (N + 1) M2 → lq_A l D cy ad p e s m below meth c b (n + 1) (k + 6) 1487 (lq_L ad b (6 * N)) [] (lay [oc f2] M2)) : lq_A l D cy ad p e s m below meth c b n k 1381 (lq_L ad b (6 * N)) [] (lay [oc f] M) := by
  obtain ⟨r, M1, e1, r2, M2, e2, hr, hc⟩ := st_again hN hC (xs (6 * N + 1))
  refine lq_aload (x := ad 0) C 1 dL_1381 rfl rfl ?_
  refine lq_arg (j := 1) C dD_1382 0 4 rfl rfl rfl (by omega) hL ?_
  refine lq_call (st := []) (as := [.int (xs (6 * N + 1))]) C (r_X10_again e1) miX10_again lkL_190 dL_1388 rfl rfl (Nat.le_of_ble_eq_true rfl) (Nat.le_of_ble_eq_true rfl) (by omega) (by omega) rfl ?_
  refine lq_aload (x := ad 174) C 2 dL_1391 rfl rfl ?_
  refine lq_arg (j := 1) C dD_1392 0 4 rfl rfl rfl (by omega) hL ?_
  refine lq_call (st := [.int r]) (as := [.int (xs (6 * N + 1))]) C (r_X11_again e2) miX11_again lkL_193 dL_1398 rfl rfl (Nat.le_of_ble_eq_true rfl) (Nat.le_of_ble_eq_true rfl) (by omega) (by omega) rfl ?_
  refine lq_ieq (tgt := 1487) C dL_1401 (by decide) hr.symm ?_
  exact lq_widen (Nat.le_add_right _ 1) (Nat.le_add_right _ 6) (kk _ _ hc)
theorem lc_count (C : lq_C l D cy p s m meth c b L xs) {N : Nat} {f : Nat → Int32} {M : Mem} (hN : N < 512) (hi : 6 * N + 5 < L) (hL : L ≤ 3072) (hC : Cpl N M) (h1 : n ≤ 500000) (h2 : k ≤ 6000000) (kk : ∀ (M2 : Mem) (f2 : Nat → Int32), Cpl (N + 1) M2 → lq_A l D cy ad p e s m below meth c b (n + 1) (k + 6) 1487 (lq_L ad b (6 * N)) [] (lay [oc f2] M2)) : lq_A l D cy ad p e s m below meth c b n k 1406 (lq_L ad b (6 * N)) [] (lay [oc f] M) := by
  obtain ⟨r, M1, e1, r2, M2, e2, hr, hc⟩ := st_count hN hC (xs (6 * N + 1))
  refine lq_aload (x := ad 0) C 1 dL_1406 rfl rfl ?_
  refine lq_arg (j := 1) C dD_1407 0 4 rfl rfl rfl (by omega) hL ?_
  refine lq_call (st := []) (as := [.int (xs (6 * N + 1))]) C (r_X10_count e1) miX10_count lkL_194 dL_1413 rfl rfl (Nat.le_of_ble_eq_true rfl) (Nat.le_of_ble_eq_true rfl) (by omega) (by omega) rfl ?_
  refine lq_aload (x := ad 174) C 2 dL_1416 rfl rfl ?_
  refine lq_arg (j := 1) C dD_1417 0 4 rfl rfl rfl (by omega) hL ?_
  refine lq_call (st := [.int r]) (as := [.int (xs (6 * N + 1))]) C (r_X11_count e2) miX11_count lkL_197 dL_1423 rfl rfl (Nat.le_of_ble_eq_true rfl) (Nat.le_of_ble_eq_true rfl) (by omega) (by omega) rfl ?_
  refine lq_ieq (tgt := 1487) C dL_1426 (by decide) hr.symm ?_
  exact lq_widen (Nat.le_add_right _ 1) (Nat.le_add_right _ 6) (kk _ _ hc)
theorem lc_row (C : lq_C l D cy p s m meth c b L xs) {N : Nat} {f : Nat → Int32} {M : Mem} (hN : N < 512) (hi : 6 * N + 5 < L) (hL : L ≤ 3072) (hC : Cpl N M) (h1 : n ≤ 500000) (h2 : k ≤ 6000000) (kk : ∀ (M2 : Mem) (f2 : Nat → Int32), Cpl (N + 1) M2 → lq_A l D cy ad p e s m below meth c b (n + 1) (k + 6) 1487 (lq_L ad b (6 * N)) [] (lay [oc f2] M2)) : lq_A l D cy ad p e s m below meth c b n k 1431 (lq_L ad b (6 * N)) [] (lay [oc f] M) := by
  obtain ⟨P, e1, r, M2, e2, hc, hP⟩ := st_row hN hC (xs (6 * N + 1))
  refine lq_aload (x := ad 0) C 1 dL_1431 rfl rfl ?_
  refine lq_arg (j := 1) C dD_1432 0 4 rfl rfl rfl (by omega) hL ?_
  refine lq_aload (x := ad 204) C 3 dL_1438 rfl rfl ?_
  refine lq_callH (np := 3) (as := [.ref 0, .int (xs (6 * N + 1)), .ref 204]) C (law_row (f := f) e1) gL_row (by decide +kernel) dL_1439 rfl (Nat.le_of_ble_eq_true rfl) (by omega) (by omega) rfl ?_
  refine lq_istore (lv' := (5, .int (thK P)) :: lq_L ad b (6 * N)) C dL_1442 (by decide) rfl ?_
  refine lq_aload (x := ad 174) C 3 dL_1444 rfl rfl ?_
  refine lq_arg (j := 1) C dD_1445 1 5 rfl rfl rfl (by omega) hL ?_
  refine lq_call (st := []) (as := [.int (xs (6 * N + 1))]) C (r_X11_row (X := [oc (thF f P)]) e2) miX11_row lkL_201 dL_1451 rfl rfl (Nat.le_of_ble_eq_true rfl) (Nat.le_of_ble_eq_true rfl) (by omega) (by omega) rfl ?_
  refine lq_istore (lv' := (6, .int r) :: (5, .int (thK P)) :: lq_L ad b (6 * N)) C dL_1454 (by decide) rfl ?_
  exact lq_tail C dT_1456 (by decide) hP (by omega) (by omega) (kk _ _ hc)
end LAWC
