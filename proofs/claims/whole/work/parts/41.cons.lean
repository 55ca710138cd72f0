/-! the constructors -/
section NX9
variable {l : Launch} {D : va_G} {cy : Nat → ClassId} {ad : Nat → Nat} {h : Nat} {Y : MRec} {Rm : Room} {Qf : List Frame → Array Value → State → (Nat → Prop) → State → Prop} {n k pc : Nat} {L : List (Nat × Value)} {st : List Value} {ms m2 ms0 T T' : Mm} {b j : Nat} {c : Cel}
theorem g_ms (e : ms = m2) (kk : RunG l D cy ad (some h) Y Rm Qf n k pc L st m2) : RunG l D cy ad (some h) Y Rm Qf n k pc L st ms := by subst e; exact kk
theorem gT (hl : ms0.length = b) (e : T[j]? = some c) : (ms0 ++ T)[b + j]? = some c := by
  subst hl
  rw [List.getElem?_append_right (by omega), Nat.add_sub_cancel_left]
  exact e
theorem gL {i : Nat} (e : ms[i]? = some c) : (ms ++ m2)[i]? = some c := by rw [List.getElem?_append_left (List.getElem?_eq_some_iff.mp e).1]; exact e
theorem gT0 (hl : ms0.length = b) (e : T[0]? = some c) : (ms0 ++ T)[b]? = some c := gT (j := 0) hl e
theorem sT (hl : ms0.length = b) (e : T.set j c = T') : (ms0 ++ T).set (b + j) c = ms0 ++ T' := by
  subst hl
  rw [List.set_append_right _ _ (by omega), Nat.add_sub_cancel_left, e]
theorem sT0 (hl : ms0.length = b) (e : T.set 0 c = T') : (ms0 ++ T).set b c = ms0 ++ T' := sT (j := 0) hl e
theorem lT {z : Nat} (hl : ms0.length = b) (e : b + T.length = z) : (ms0 ++ T).length = z := by rw [List.length_append, hl]; exact e
theorem h_getR {idx ci f i : Nat} {x : Nat} (hd : decode Y.2.1 pc = .ok (.getfield idx, 3)) (hf : FLk Y.1.cls idx ci f) (hr : isRf ci f = true) (hc : ms[i]? = some c) (hci : c.1 = ci) (hx : c.2.2.2 f = some x) (kk : RunG l D cy ad (some h) Y Rm Qf n k (pc + 3) L (.ref x :: st) ms) : RunG l D cy ad (some h) Y Rm Qf n k pc L (.ref i :: st) ms := g_getR hd hf hr hc hci (by rw [hx]; exact kk)
theorem h_new {idx ci : Nat} {q : vw_C} (hd : decode Y.2.1 pc = .ok (.new idx, 3)) (hq : vwCl[ci]? = some q) (hcl : Cond.classLink Y.1.cls idx q.1 ∈ wsA) (hin : Cond.instantiable q.1 q.2.2 ∈ wsA) (hini : Cond.initialized q.1 ∈ wsA) (hc : n + 1 ≤ Rm.cells) (hs : k + q.2.2 ≤ Rm.slots) (hl : ms.length = b) (kk : RunG l D cy ad (some h) Y Rm Qf (n + 1) (k + q.2.2) (pc + 3) L (.ref b :: st) (ms ++ [(ci, 0, fun _ => 0, fun _ => none)])) : RunG l D cy ad (some h) Y Rm Qf n k pc L st ms := g_new hd hq hcl hin hini hc hs (by rw [hl]; exact kk)
theorem h_newa {at' : ArrayType} {N : Nat} {x : Int32} (hd : decode Y.2.1 pc = .ok (.newarray at', 2)) (hk : kOf at' < 16) (harr : Cond.arrayClass (newarray.typeOf at') ∈ wsA) (hn : ¬ x < 0) (hN : x.toNatClampNeg = N) (hb : N ≤ 1000) (hc : n + 1 ≤ Rm.cells) (hs : k + N ≤ Rm.slots) (hl : ms.length = b) (kk : RunG l D cy ad (some h) Y Rm Qf (n + 1) (k + N) (pc + 2) L (.ref b :: st) (ms ++ [(kOf at', N, fun _ => 0, fun _ => none)])) : RunG l D cy ad (some h) Y Rm Qf n k pc L (.int x :: st) ms := g_newa hd hk harr hn hN hb hc hs (by rw [hl]; exact kk)
theorem h_newS {idx N : Nat} {x : Int32} (hd : decode Y.2.1 pc = .ok (.anewarray idx, 3)) (hcl : Cond.classLink Y.1.cls idx RX7 ∈ wsA) (hn : ¬ x < 0) (hN : x.toNatClampNeg = N) (hb : N ≤ 1000) (hc : n + 1 ≤ Rm.cells) (hs : k + N ≤ Rm.slots) (hl : ms.length = b) (kk : RunG l D cy ad (some h) Y Rm Qf (n + 1) (k + N) (pc + 3) L (.ref b :: st) (ms ++ [(16, N, fun _ => 0, fun _ => none)])) : RunG l D cy ad (some h) Y Rm Qf n k pc L (.int x :: st) ms := g_newS hd hcl hn hN hb hc hs (by rw [hl]; exact kk)
theorem h_mna {idx : Nat} (hd : decode Y.2.1 pc = .ok (.multianewarray idx 2, 4)) (hcl : Cond.classLink Y.1.cls idx ("[" ++ (FieldType.array .int).toString) ∈ wsA) (harr : Cond.arrayClass .int ∈ wsA) (hc : n + 7 ≤ Rm.cells) (hs : k + 42 ≤ Rm.slots) (hl : ms.length = b) (kk : RunG l D cy ad (some h) Y Rm Qf (n + 7) (k + 42) (pc + 4) L (.ref b :: st) (ms ++ mnaC b)) : RunG l D cy ad (some h) Y Rm Qf n k pc L (.int 6 :: .int 6 :: st) ms := g_mna hd hcl harr hc hs (by rw [hl]; exact kk)
end NX9
set_option maxRecDepth 100000 in
theorem w_obj : Cond.instanceMethod Lib.objectInit ∈ wsA ∧ Cond.code Lib.objectInit ⟨#[0xb1]⟩ 1 none ∈ wsA := ⟨(in_t1 26 rfl rfl), in_lw (by decide +kernel) (by decide +kernel)⟩
set_option maxRecDepth 100000 in
theorem ac_int : Cond.arrayClass (newarray.typeOf .int) ∈ wsA := in_t1 106 rfl rfl
set_option maxRecDepth 100000 in
theorem ac_char : Cond.arrayClass (newarray.typeOf .char) ∈ wsA := in_t1 51 rfl rfl
set_option maxRecDepth 100000 in
theorem ac_byte : Cond.arrayClass (newarray.typeOf .byte) ∈ wsA := in_t6 89 rfl rfl
set_option maxRecDepth 100000 in
theorem ac_boolean : Cond.arrayClass (newarray.typeOf .boolean) ∈ wsA := in_t6 88 rfl rfl
set_option maxRecDepth 100000 in
theorem cl_mna : Cond.classLink RX1 37 ("[" ++ (FieldType.array .int).toString) ∈ wsA := in_t1 58 rfl rfl
set_option maxRecDepth 100000 in
set_option maxHeartbeats 4000000 in
theorem r_clear {l : Launch} {D : va_G} {cy : Nat → ClassId} {ad : Nat → Nat} {h : Nat} {ms0 : Mm} {b : Nat} (hl : ms0.length = b) : Run l D cy ad (some h) YX7_clear 0 0 0 [.ref b] (ms0 ++ [(7, 0, fun _ => 0, va_up (va_up (va_up (va_up (fun _ => none) 4 (some (b + 1))) 5 (some (b + 2))) 6 (some (b + 3))) 7 (some (b + 4))), (14, 6, fun _ => 0, fun _ => none), (14, 6, fun _ => 0, fun _ => none), (14, 6, fun _ => 0, fun _ => none), (14, 6, fun _ => 0, fun _ => none)]) none (ms0 ++ [(7, 0, upd (upd (upd (upd (fun _ => 0) 0 0) 1 0) 2 0) 3 0, va_up (va_up (va_up (va_up (fun _ => none) 4 (some (b + 1))) 5 (some (b + 2))) 6 (some (b + 3))) 7 (some (b + 4))), (14, 6, upd (upd (upd (upd (upd (upd (fun _ => 0) 0 (-1)) 1 (-1)) 2 (-1)) 3 (-1)) 4 (-1)) 5 (-1), fun _ => none), (14, 6, upd (upd (upd (upd (upd (upd (fun _ => 0) 0 0) 1 0) 2 0) 3 0) 4 0) 5 0, fun _ => none), (14, 6, upd (upd (upd (upd (upd (upd (fun _ => 0) 0 0) 1 0) 2 0) 3 0) 4 0) 5 0, fun _ => none), (14, 6, upd (upd (upd (upd (upd (upd (fun _ => 0) 0 (-1)) 1 (-1)) 2 (-1)) 3 (-1)) 4 (-1)) 5 (-1), fun _ => none)]) := by
  refine Run.of 0 (miX7_clear).1 (Nat.le_of_ble_eq_true rfl) ?_
  refine g_aload_n (Y := YX7_clear) (pc := 0) 0 dX7_clear_0 rfl ?_
  refine g_iconst (Y := YX7_clear) (pc := 1) (v := 0) dX7_clear_1 (by decide) ?_
  refine g_putI (Y := YX7_clear) (pc := 2) (ci := 7) (f := 0) dX7_clear_2 ⟨(RX7, TX7, 8), rfl, by decide, (in_t1 193 rfl rfl)⟩ (Or.inl rfl) rfl (gT0 hl rfl) rfl ?_
  refine g_ms (m2 := ms0 ++ [(7, 0, upd (fun _ => 0) 0 0, va_up (va_up (va_up (va_up (fun _ => none) 4 (some (b + 1))) 5 (some (b + 2))) 6 (some (b + 3))) 7 (some (b + 4))), (14, 6, fun _ => 0, fun _ => none), (14, 6, fun _ => 0, fun _ => none), (14, 6, fun _ => 0, fun _ => none), (14, 6, fun _ => 0, fun _ => none)]) (sT0 hl rfl) ?_
  refine g_aload_n (Y := YX7_clear) (pc := 5) 0 dX7_clear_5 rfl ?_
  refine g_iconst (Y := YX7_clear) (pc := 6) (v := 0) dX7_clear_6 (by decide) ?_
  refine g_putI (Y := YX7_clear) (pc := 7) (ci := 7) (f := 1) dX7_clear_7 ⟨(RX7, TX7, 8), rfl, by decide, (in_t1 197 rfl rfl)⟩ (Or.inl rfl) rfl (gT0 hl rfl) rfl ?_
  refine g_ms (m2 := ms0 ++ [(7, 0, upd (upd (fun _ => 0) 0 0) 1 0, va_up (va_up (va_up (va_up (fun _ => none) 4 (some (b + 1))) 5 (some (b + 2))) 6 (some (b + 3))) 7 (some (b + 4))), (14, 6, fun _ => 0, fun _ => none), (14, 6, fun _ => 0, fun _ => none), (14, 6, fun _ => 0, fun _ => none), (14, 6, fun _ => 0, fun _ => none)]) (sT0 hl rfl) ?_
  refine g_aload_n (Y := YX7_clear) (pc := 10) 0 dX7_clear_10 rfl ?_
  refine g_iconst (Y := YX7_clear) (pc := 11) (v := 0) dX7_clear_11 (by decide) ?_
  refine g_putI (Y := YX7_clear) (pc := 12) (ci := 7) (f := 2) dX7_clear_12 ⟨(RX7, TX7, 8), rfl, by decide, (in_t1 199 rfl rfl)⟩ (Or.inl rfl) rfl (gT0 hl rfl) rfl ?_
  refine g_ms (m2 := ms0 ++ [(7, 0, upd (upd (upd (fun _ => 0) 0 0) 1 0) 2 0, va_up (va_up (va_up (va_up (fun _ => none) 4 (some (b + 1))) 5 (some (b + 2))) 6 (some (b + 3))) 7 (some (b + 4))), (14, 6, fun _ => 0, fun _ => none), (14, 6, fun _ => 0, fun _ => none), (14, 6, fun _ => 0, fun _ => none), (14, 6, fun _ => 0, fun _ => none)]) (sT0 hl rfl) ?_
  refine g_aload_n (Y := YX7_clear) (pc := 15) 0 dX7_clear_15 rfl ?_
  refine g_iconst (Y := YX7_clear) (pc := 16) (v := 0) dX7_clear_16 (by decide) ?_
  refine g_putI (Y := YX7_clear) (pc := 17) (ci := 7) (f := 3) dX7_clear_17 ⟨(RX7, TX7, 8), rfl, by decide, (in_t1 202 rfl rfl)⟩ (Or.inl rfl) rfl (gT0 hl rfl) rfl ?_
  refine g_ms (m2 := ms0 ++ [(7, 0, upd (upd (upd (upd (fun _ => 0) 0 0) 1 0) 2 0) 3 0, va_up (va_up (va_up (va_up (fun _ => none) 4 (some (b + 1))) 5 (some (b + 2))) 6 (some (b + 3))) 7 (some (b + 4))), (14, 6, fun _ => 0, fun _ => none), (14, 6, fun _ => 0, fun _ => none), (14, 6, fun _ => 0, fun _ => none), (14, 6, fun _ => 0, fun _ => none)]) (sT0 hl rfl) ?_
  refine g_iconst (Y := YX7_clear) (pc := 20) (v := 0) dX7_clear_20 (by decide) ?_
  refine g_istore_n (Y := YX7_clear) (pc := 21) (L' := [(1, .int 0), (0, .ref b)]) dX7_clear_21 (Nat.le_of_ble_eq_true rfl) rfl ?_
  refine g_iload_n (Y := YX7_clear) (pc := 22) 0 dX7_clear_22 rfl ?_
  refine g_bipush (Y := YX7_clear) (pc := 23) (v := 6) dX7_clear_23 (by decide) ?_
  refine g_icmp_ge (Y := YX7_clear) (pc := 25) (tgt := 62) dX7_clear_25 rfl (fun c9 => absurd (by decide) c9) (fun _ => ?_)
  refine g_aload_n (Y := YX7_clear) (pc := 28) 1 dX7_clear_28 rfl ?_
  refine h_getR (Y := YX7_clear) (pc := 29) (ci := 7) (f := 4) (x := (b + 1)) dX7_clear_29 ⟨(RX7, TX7, 8), rfl, by decide, (in_t1 205 rfl rfl)⟩ rfl (gT0 hl rfl) rfl rfl ?_
  refine g_iload_n (Y := YX7_clear) (pc := 32) 0 dX7_clear_32 rfl ?_
  refine g_iconst (Y := YX7_clear) (pc := 33) (v := (-1)) dX7_clear_33 (by decide) ?_
  refine g_iast (Y := YX7_clear) (pc := 34) dX7_clear_34 (gT (j := 1) hl rfl) rfl (by decide) (Nat.le_of_ble_eq_true rfl) ?_
  refine g_ms (m2 := ms0 ++ [(7, 0, upd (upd (upd (upd (fun _ => 0) 0 0) 1 0) 2 0) 3 0, va_up (va_up (va_up (va_up (fun _ => none) 4 (some (b + 1))) 5 (some (b + 2))) 6 (some (b + 3))) 7 (some (b + 4))), (14, 6, upd (fun _ => 0) 0 (-1), fun _ => none), (14, 6, fun _ => 0, fun _ => none), (14, 6, fun _ => 0, fun _ => none), (14, 6, fun _ => 0, fun _ => none)]) (sT (j := 1) hl rfl) ?_
  refine g_aload_n (Y := YX7_clear) (pc := 35) 1 dX7_clear_35 rfl ?_
  refine h_getR (Y := YX7_clear) (pc := 36) (ci := 7) (f := 5) (x := (b + 2)) dX7_clear_36 ⟨(RX7, TX7, 8), rfl, by decide, (in_t1 208 rfl rfl)⟩ rfl (gT0 hl rfl) rfl rfl ?_
  refine g_iload_n (Y := YX7_clear) (pc := 39) 0 dX7_clear_39 rfl ?_
  refine g_iconst (Y := YX7_clear) (pc := 40) (v := 0) dX7_clear_40 (by decide) ?_
  refine g_iast (Y := YX7_clear) (pc := 41) dX7_clear_41 (gT (j := 2) hl rfl) rfl (by decide) (Nat.le_of_ble_eq_true rfl) ?_
  refine g_ms (m2 := ms0 ++ [(7, 0, upd (upd (upd (upd (fun _ => 0) 0 0) 1 0) 2 0) 3 0, va_up (va_up (va_up (va_up (fun _ => none) 4 (some (b + 1))) 5 (some (b + 2))) 6 (some (b + 3))) 7 (some (b + 4))), (14, 6, upd (fun _ => 0) 0 (-1), fun _ => none), (14, 6, upd (fun _ => 0) 0 0, fun _ => none), (14, 6, fun _ => 0, fun _ => none), (14, 6, fun _ => 0, fun _ => none)]) (sT (j := 2) hl rfl) ?_
  refine g_aload_n (Y := YX7_clear) (pc := 42) 1 dX7_clear_42 rfl ?_
  refine h_getR (Y := YX7_clear) (pc := 43) (ci := 7) (f := 6) (x := (b + 3)) dX7_clear_43 ⟨(RX7, TX7, 8), rfl, by decide, (in_t1 211 rfl rfl)⟩ rfl (gT0 hl rfl) rfl rfl ?_
  refine g_iload_n (Y := YX7_clear) (pc := 46) 0 dX7_clear_46 rfl ?_
  refine g_iconst (Y := YX7_clear) (pc := 47) (v := 0) dX7_clear_47 (by decide) ?_
  refine g_iast (Y := YX7_clear) (pc := 48) dX7_clear_48 (gT (j := 3) hl rfl) rfl (by decide) (Nat.le_of_ble_eq_true rfl) ?_
  refine g_ms (m2 := ms0 ++ [(7, 0, upd (upd (upd (upd (fun _ => 0) 0 0) 1 0) 2 0) 3 0, va_up (va_up (va_up (va_up (fun _ => none) 4 (some (b + 1))) 5 (some (b + 2))) 6 (some (b + 3))) 7 (some (b + 4))), (14, 6, upd (fun _ => 0) 0 (-1), fun _ => none), (14, 6, upd (fun _ => 0) 0 0, fun _ => none), (14, 6, upd (fun _ => 0) 0 0, fun _ => none), (14, 6, fun _ => 0, fun _ => none)]) (sT (j := 3) hl rfl) ?_
  refine g_aload_n (Y := YX7_clear) (pc := 49) 1 dX7_clear_49 rfl ?_
  refine h_getR (Y := YX7_clear) (pc := 50) (ci := 7) (f := 7) (x := (b + 4)) dX7_clear_50 ⟨(RX7, TX7, 8), rfl, by decide, (in_t1 214 rfl rfl)⟩ rfl (gT0 hl rfl) rfl rfl ?_
  refine g_iload_n (Y := YX7_clear) (pc := 53) 0 dX7_clear_53 rfl ?_
  refine g_iconst (Y := YX7_clear) (pc := 54) (v := (-1)) dX7_clear_54 (by decide) ?_
  refine g_iast (Y := YX7_clear) (pc := 55) dX7_clear_55 (gT (j := 4) hl rfl) rfl (by decide) (Nat.le_of_ble_eq_true rfl) ?_
  refine g_ms (m2 := ms0 ++ [(7, 0, upd (upd (upd (upd (fun _ => 0) 0 0) 1 0) 2 0) 3 0, va_up (va_up (va_up (va_up (fun _ => none) 4 (some (b + 1))) 5 (some (b + 2))) 6 (some (b + 3))) 7 (some (b + 4))), (14, 6, upd (fun _ => 0) 0 (-1), fun _ => none), (14, 6, upd (fun _ => 0) 0 0, fun _ => none), (14, 6, upd (fun _ => 0) 0 0, fun _ => none), (14, 6, upd (fun _ => 0) 0 (-1), fun _ => none)]) (sT (j := 4) hl rfl) ?_
  refine g_iinc (Y := YX7_clear) (pc := 56) (j := 0) (v := 1) (L' := [(1, .int 1), (0, .ref b)]) dX7_clear_56 rfl (by decide) (Nat.le_of_ble_eq_true rfl) rfl ?_
  refine g_goto (Y := YX7_clear) (pc := 59) (tgt := 22) dX7_clear_59 rfl ?_
  refine g_iload_n (Y := YX7_clear) (pc := 22) 0 dX7_clear_22 rfl ?_
  refine g_bipush (Y := YX7_clear) (pc := 23) (v := 6) dX7_clear_23 (by decide) ?_
  refine g_icmp_ge (Y := YX7_clear) (pc := 25) (tgt := 62) dX7_clear_25 rfl (fun c9 => absurd (by decide) c9) (fun _ => ?_)
  refine g_aload_n (Y := YX7_clear) (pc := 28) 1 dX7_clear_28 rfl ?_
  refine h_getR (Y := YX7_clear) (pc := 29) (ci := 7) (f := 4) (x := (b + 1)) dX7_clear_29 ⟨(RX7, TX7, 8), rfl, by decide, (in_t1 205 rfl rfl)⟩ rfl (gT0 hl rfl) rfl rfl ?_
  refine g_iload_n (Y := YX7_clear) (pc := 32) 0 dX7_clear_32 rfl ?_
  refine g_iconst (Y := YX7_clear) (pc := 33) (v := (-1)) dX7_clear_33 (by decide) ?_
  refine g_iast (Y := YX7_clear) (pc := 34) dX7_clear_34 (gT (j := 1) hl rfl) rfl (by decide) (Nat.le_of_ble_eq_true rfl) ?_
  refine g_ms (m2 := ms0 ++ [(7, 0, upd (upd (upd (upd (fun _ => 0) 0 0) 1 0) 2 0) 3 0, va_up (va_up (va_up (va_up (fun _ => none) 4 (some (b + 1))) 5 (some (b + 2))) 6 (some (b + 3))) 7 (some (b + 4))), (14, 6, upd (upd (fun _ => 0) 0 (-1)) 1 (-1), fun _ => none), (14, 6, upd (fun _ => 0) 0 0, fun _ => none), (14, 6, upd (fun _ => 0) 0 0, fun _ => none), (14, 6, upd (fun _ => 0) 0 (-1), fun _ => none)]) (sT (j := 1) hl rfl) ?_
  refine g_aload_n (Y := YX7_clear) (pc := 35) 1 dX7_clear_35 rfl ?_
  refine h_getR (Y := YX7_clear) (pc := 36) (ci := 7) (f := 5) (x := (b + 2)) dX7_clear_36 ⟨(RX7, TX7, 8), rfl, by decide, (in_t1 208 rfl rfl)⟩ rfl (gT0 hl rfl) rfl rfl ?_
  refine g_iload_n (Y := YX7_clear) (pc := 39) 0 dX7_clear_39 rfl ?_
  refine g_iconst (Y := YX7_clear) (pc := 40) (v := 0) dX7_clear_40 (by decide) ?_
  refine g_iast (Y := YX7_clear) (pc := 41) dX7_clear_41 (gT (j := 2) hl rfl) rfl (by decide) (Nat.le_of_ble_eq_true rfl) ?_
  refine g_ms (m2 := ms0 ++ [(7, 0, upd (upd (upd (upd (fun _ => 0) 0 0) 1 0) 2 0) 3 0, va_up (va_up (va_up (va_up (fun _ => none) 4 (some (b + 1))) 5 (some (b + 2))) 6 (some (b + 3))) 7 (some (b + 4))), (14, 6, upd (upd (fun _ => 0) 0 (-1)) 1 (-1), fun _ => none), (14, 6, upd (upd (fun _ => 0) 0 0) 1 0, fun _ => none), (14, 6, upd (fun _ => 0) 0 0, fun _ => none), (14, 6, upd (fun _ => 0) 0 (-1), fun _ => none)]) (sT (j := 2) hl rfl) ?_
  refine g_aload_n (Y := YX7_clear) (pc := 42) 1 dX7_clear_42 rfl ?_
  refine h_getR (Y := YX7_clear) (pc := 43) (ci := 7) (f := 6) (x := (b + 3)) dX7_clear_43 ⟨(RX7, TX7, 8), rfl, by decide, (in_t1 211 rfl rfl)⟩ rfl (gT0 hl rfl) rfl rfl ?_
  refine g_iload_n (Y := YX7_clear) (pc := 46) 0 dX7_clear_46 rfl ?_
  refine g_iconst (Y := YX7_clear) (pc := 47) (v := 0) dX7_clear_47 (by decide) ?_
  refine g_iast (Y := YX7_clear) (pc := 48) dX7_clear_48 (gT (j := 3) hl rfl) rfl (by decide) (Nat.le_of_ble_eq_true rfl) ?_
  refine g_ms (m2 := ms0 ++ [(7, 0, upd (upd (upd (upd (fun _ => 0) 0 0) 1 0) 2 0) 3 0, va_up (va_up (va_up (va_up (fun _ => none) 4 (some (b + 1))) 5 (some (b + 2))) 6 (some (b + 3))) 7 (some (b + 4))), (14, 6, upd (upd (fun _ => 0) 0 (-1)) 1 (-1), fun _ => none), (14, 6, upd (upd (fun _ => 0) 0 0) 1 0, fun _ => none), (14, 6, upd (upd (fun _ => 0) 0 0) 1 0, fun _ => none), (14, 6, upd (fun _ => 0) 0 (-1), fun _ => none)]) (sT (j := 3) hl rfl) ?_
  refine g_aload_n (Y := YX7_clear) (pc := 49) 1 dX7_clear_49 rfl ?_
  refine h_getR (Y := YX7_clear) (pc := 50) (ci := 7) (f := 7) (x := (b + 4)) dX7_clear_50 ⟨(RX7, TX7, 8), rfl, by decide, (in_t1 214 rfl rfl)⟩ rfl (gT0 hl rfl) rfl rfl ?_
  refine g_iload_n (Y := YX7_clear) (pc := 53) 0 dX7_clear_53 rfl ?_
  refine g_iconst (Y := YX7_clear) (pc := 54) (v := (-1)) dX7_clear_54 (by decide) ?_
  refine g_iast (Y := YX7_clear) (pc := 55) dX7_clear_55 (gT (j := 4) hl rfl) rfl (by decide) (Nat.le_of_ble_eq_true rfl) ?_
  refine g_ms (m2 := ms0 ++ [(7, 0, upd (upd (upd (upd (fun _ => 0) 0 0) 1 0) 2 0) 3 0, va_up (va_up (va_up (va_up (fun _ => none) 4 (some (b + 1))) 5 (some (b + 2))) 6 (some (b + 3))) 7 (some (b + 4))), (14, 6, upd (upd (fun _ => 0) 0 (-1)) 1 (-1), fun _ => none), (14, 6, upd (upd (fun _ => 0) 0 0) 1 0, fun _ => none), (14, 6, upd (upd (fun _ => 0) 0 0) 1 0, fun _ => none), (14, 6, upd (upd (fun _ => 0) 0 (-1)) 1 (-1), fun _ => none)]) (sT (j := 4) hl rfl) ?_
  refine g_iinc (Y := YX7_clear) (pc := 56) (j := 0) (v := 2) (L' := [(1, .int 2), (0, .ref b)]) dX7_clear_56 rfl (by decide) (Nat.le_of_ble_eq_true rfl) rfl ?_
  refine g_goto (Y := YX7_clear) (pc := 59) (tgt := 22) dX7_clear_59 rfl ?_
  refine g_iload_n (Y := YX7_clear) (pc := 22) 0 dX7_clear_22 rfl ?_
  refine g_bipush (Y := YX7_clear) (pc := 23) (v := 6) dX7_clear_23 (by decide) ?_
  refine g_icmp_ge (Y := YX7_clear) (pc := 25) (tgt := 62) dX7_clear_25 rfl (fun c9 => absurd (by decide) c9) (fun _ => ?_)
  refine g_aload_n (Y := YX7_clear) (pc := 28) 1 dX7_clear_28 rfl ?_
  refine h_getR (Y := YX7_clear) (pc := 29) (ci := 7) (f := 4) (x := (b + 1)) dX7_clear_29 ⟨(RX7, TX7, 8), rfl, by decide, (in_t1 205 rfl rfl)⟩ rfl (gT0 hl rfl) rfl rfl ?_
  refine g_iload_n (Y := YX7_clear) (pc := 32) 0 dX7_clear_32 rfl ?_
  refine g_iconst (Y := YX7_clear) (pc := 33) (v := (-1)) dX7_clear_33 (by decide) ?_
  refine g_iast (Y := YX7_clear) (pc := 34) dX7_clear_34 (gT (j := 1) hl rfl) rfl (by decide) (Nat.le_of_ble_eq_true rfl) ?_
  refine g_ms (m2 := ms0 ++ [(7, 0, upd (upd (upd (upd (fun _ => 0) 0 0) 1 0) 2 0) 3 0, va_up (va_up (va_up (va_up (fun _ => none) 4 (some (b + 1))) 5 (some (b + 2))) 6 (some (b + 3))) 7 (some (b + 4))), (14, 6, upd (upd (upd (fun _ => 0) 0 (-1)) 1 (-1)) 2 (-1), fun _ => none), (14, 6, upd (upd (fun _ => 0) 0 0) 1 0, fun _ => none), (14, 6, upd (upd (fun _ => 0) 0 0) 1 0, fun _ => none), (14, 6, upd (upd (fun _ => 0) 0 (-1)) 1 (-1), fun _ => none)]) (sT (j := 1) hl rfl) ?_
  refine g_aload_n (Y := YX7_clear) (pc := 35) 1 dX7_clear_35 rfl ?_
  refine h_getR (Y := YX7_clear) (pc := 36) (ci := 7) (f := 5) (x := (b + 2)) dX7_clear_36 ⟨(RX7, TX7, 8), rfl, by decide, (in_t1 208 rfl rfl)⟩ rfl (gT0 hl rfl) rfl rfl ?_
  refine g_iload_n (Y := YX7_clear) (pc := 39) 0 dX7_clear_39 rfl ?_
  refine g_iconst (Y := YX7_clear) (pc := 40) (v := 0) dX7_clear_40 (by decide) ?_
  refine g_iast (Y := YX7_clear) (pc := 41) dX7_clear_41 (gT (j := 2) hl rfl) rfl (by decide) (Nat.le_of_ble_eq_true rfl) ?_
  refine g_ms (m2 := ms0 ++ [(7, 0, upd (upd (upd (upd (fun _ => 0) 0 0) 1 0) 2 0) 3 0, va_up (va_up (va_up (va_up (fun _ => none) 4 (some (b + 1))) 5 (some (b + 2))) 6 (some (b + 3))) 7 (some (b + 4))), (14, 6, upd (upd (upd (fun _ => 0) 0 (-1)) 1 (-1)) 2 (-1), fun _ => none), (14, 6, upd (upd (upd (fun _ => 0) 0 0) 1 0) 2 0, fun _ => none), (14, 6, upd (upd (fun _ => 0) 0 0) 1 0, fun _ => none), (14, 6, upd (upd (fun _ => 0) 0 (-1)) 1 (-1), fun _ => none)]) (sT (j := 2) hl rfl) ?_
  refine g_aload_n (Y := YX7_clear) (pc := 42) 1 dX7_clear_42 rfl ?_
  refine h_getR (Y := YX7_clear) (pc := 43) (ci := 7) (f := 6) (x := (b + 3)) dX7_clear_43 ⟨(RX7, TX7, 8), rfl, by decide, (in_t1 211 rfl rfl)⟩ rfl (gT0 hl rfl) rfl rfl ?_
  refine g_iload_n (Y := YX7_clear) (pc := 46) 0 dX7_clear_46 rfl ?_
  refine g_iconst (Y := YX7_clear) (pc := 47) (v := 0) dX7_clear_47 (by decide) ?_
  refine g_iast (Y := YX7_clear) (pc := 48) dX7_clear_48 (gT (j := 3) hl rfl) rfl (by decide) (Nat.le_of_ble_eq_true rfl) ?_
  refine g_ms (m2 := ms0 ++ [(7, 0, upd (upd (upd (upd (fun _ => 0) 0 0) 1 0) 2 0) 3 0, va_up (va_up (va_up (va_up (fun _ => none) 4 (some (b + 1))) 5 (some (b + 2))) 6 (some (b + 3))) 7 (some (b + 4))), (14, 6, upd (upd (upd (fun _ => 0) 0 (-1)) 1 (-1)) 2 (-1), fun _ => none), (14, 6, upd (upd (upd (fun _ => 0) 0 0) 1 0) 2 0, fun _ => none), (14, 6, upd (upd (upd (fun _ => 0) 0 0) 1 0) 2 0, fun _ => none), (14, 6, upd (upd (fun _ => 0) 0 (-1)) 1 (-1), fun _ => none)]) (sT (j := 3) hl rfl) ?_
  refine g_aload_n (Y := YX7_clear) (pc := 49) 1 dX7_clear_49 rfl ?_
  refine h_getR (Y := YX7_clear) (pc := 50) (ci := 7) (f := 7) (x := (b + 4)) dX7_clear_50 ⟨(RX7, TX7, 8), rfl, by decide, (in_t1 214 rfl rfl)⟩ rfl (gT0 hl rfl) rfl rfl ?_
  refine g_iload_n (Y := YX7_clear) (pc := 53) 0 dX7_clear_53 rfl ?_
  refine g_iconst (Y := YX7_clear) (pc := 54) (v := (-1)) dX7_clear_54 (by decide) ?_
  refine g_iast (Y := YX7_clear) (pc := 55) dX7_clear_55 (gT (j := 4) hl rfl) rfl (by decide) (Nat.le_of_ble_eq_true rfl) ?_
  refine g_ms (m2 := ms0 ++ [(7, 0, upd (upd (upd (upd (fun _ => 0) 0 0) 1 0) 2 0) 3 0, va_up (va_up (va_up (va_up (fun _ => none) 4 (some (b + 1))) 5 (some (b + 2))) 6 (some (b + 3))) 7 (some (b + 4))), (14, 6, upd (upd (upd (fun _ => 0) 0 (-1)) 1 (-1)) 2 (-1), fun _ => none), (14, 6, upd (upd (upd (fun _ => 0) 0 0) 1 0) 2 0, fun _ => none), (14, 6, upd (upd (upd (fun _ => 0) 0 0) 1 0) 2 0, fun _ => none), (14, 6, upd (upd (upd (fun _ => 0) 0 (-1)) 1 (-1)) 2 (-1), fun _ => none)]) (sT (j := 4) hl rfl) ?_
  refine g_iinc (Y := YX7_clear) (pc := 56) (j := 0) (v := 3) (L' := [(1, .int 3), (0, .ref b)]) dX7_clear_56 rfl (by decide) (Nat.le_of_ble_eq_true rfl) rfl ?_
  refine g_goto (Y := YX7_clear) (pc := 59) (tgt := 22) dX7_clear_59 rfl ?_
  refine g_iload_n (Y := YX7_clear) (pc := 22) 0 dX7_clear_22 rfl ?_
  refine g_bipush (Y := YX7_clear) (pc := 23) (v := 6) dX7_clear_23 (by decide) ?_
  refine g_icmp_ge (Y := YX7_clear) (pc := 25) (tgt := 62) dX7_clear_25 rfl (fun c9 => absurd (by decide) c9) (fun _ => ?_)
  refine g_aload_n (Y := YX7_clear) (pc := 28) 1 dX7_clear_28 rfl ?_
  refine h_getR (Y := YX7_clear) (pc := 29) (ci := 7) (f := 4) (x := (b + 1)) dX7_clear_29 ⟨(RX7, TX7, 8), rfl, by decide, (in_t1 205 rfl rfl)⟩ rfl (gT0 hl rfl) rfl rfl ?_
  refine g_iload_n (Y := YX7_clear) (pc := 32) 0 dX7_clear_32 rfl ?_
  refine g_iconst (Y := YX7_clear) (pc := 33) (v := (-1)) dX7_clear_33 (by decide) ?_
  refine g_iast (Y := YX7_clear) (pc := 34) dX7_clear_34 (gT (j := 1) hl rfl) rfl (by decide) (Nat.le_of_ble_eq_true rfl) ?_
  refine g_ms (m2 := ms0 ++ [(7, 0, upd (upd (upd (upd (fun _ => 0) 0 0) 1 0) 2 0) 3 0, va_up (va_up (va_up (va_up (fun _ => none) 4 (some (b + 1))) 5 (some (b + 2))) 6 (some (b + 3))) 7 (some (b + 4))), (14, 6, upd (upd (upd (upd (fun _ => 0) 0 (-1)) 1 (-1)) 2 (-1)) 3 (-1), fun _ => none), (14, 6, upd (upd (upd (fun _ => 0) 0 0) 1 0) 2 0, fun _ => none), (14, 6, upd (upd (upd (fun _ => 0) 0 0) 1 0) 2 0, fun _ => none), (14, 6, upd (upd (upd (fun _ => 0) 0 (-1)) 1 (-1)) 2 (-1), fun _ => none)]) (sT (j := 1) hl rfl) ?_
  refine g_aload_n (Y := YX7_clear) (pc := 35) 1 dX7_clear_35 rfl ?_
  refine h_getR (Y := YX7_clear) (pc := 36) (ci := 7) (f := 5) (x := (b + 2)) dX7_clear_36 ⟨(RX7, TX7, 8), rfl, by decide, (in_t1 208 rfl rfl)⟩ rfl (gT0 hl rfl) rfl rfl ?_
  refine g_iload_n (Y := YX7_clear) (pc := 39) 0 dX7_clear_39 rfl ?_
  refine g_iconst (Y := YX7_clear) (pc := 40) (v := 0) dX7_clear_40 (by decide) ?_
  refine g_iast (Y := YX7_clear) (pc := 41) dX7_clear_41 (gT (j := 2) hl rfl) rfl (by decide) (Nat.le_of_ble_eq_true rfl) ?_
  refine g_ms (m2 := ms0 ++ [(7, 0, upd (upd (upd (upd (fun _ => 0) 0 0) 1 0) 2 0) 3 0, va_up (va_up (va_up (va_up (fun _ => none) 4 (some (b + 1))) 5 (some (b + 2))) 6 (some (b + 3))) 7 (some (b + 4))), (14, 6, upd (upd (upd (upd (fun _ => 0) 0 (-1)) 1 (-1)) 2 (-1)) 3 (-1), fun _ => none), (14, 6, upd (upd (upd (upd (fun _ => 0) 0 0) 1 0) 2 0) 3 0, fun _ => none), (14, 6, upd (upd (upd (fun _ => 0) 0 0) 1 0) 2 0, fun _ => none), (14, 6, upd (upd (upd (fun _ => 0) 0 (-1)) 1 (-1)) 2 (-1), fun _ => none)]) (sT (j := 2) hl rfl) ?_
  refine g_aload_n (Y := YX7_clear) (pc := 42) 1 dX7_clear_42 rfl ?_
  refine h_getR (Y := YX7_clear) (pc := 43) (ci := 7) (f := 6) (x := (b + 3)) dX7_clear_43 ⟨(RX7, TX7, 8), rfl, by decide, (in_t1 211 rfl rfl)⟩ rfl (gT0 hl rfl) rfl rfl ?_
  refine g_iload_n (Y := YX7_clear) (pc := 46) 0 dX7_clear_46 rfl ?_
  refine g_iconst (Y := YX7_clear) (pc := 47) (v := 0) dX7_clear_47 (by decide) ?_
  refine g_iast (Y := YX7_clear) (pc := 48) dX7_clear_48 (gT (j := 3) hl rfl) rfl (by decide) (Nat.le_of_ble_eq_true rfl) ?_
  refine g_ms (m2 := ms0 ++ [(7, 0, upd (upd (upd (upd (fun _ => 0) 0 0) 1 0) 2 0) 3 0, va_up (va_up (va_up (va_up (fun _ => none) 4 (some (b + 1))) 5 (some (b + 2))) 6 (some (b + 3))) 7 (some (b + 4))), (14, 6, upd (upd (upd (upd (fun _ => 0) 0 (-1)) 1 (-1)) 2 (-1)) 3 (-1), fun _ => none), (14, 6, upd (upd (upd (upd (fun _ => 0) 0 0) 1 0) 2 0) 3 0, fun _ => none), (14, 6, upd (upd (upd (upd (fun _ => 0) 0 0) 1 0) 2 0) 3 0, fun _ => none), (14, 6, upd (upd (upd (fun _ => 0) 0 (-1)) 1 (-1)) 2 (-1), fun _ => none)]) (sT (j := 3) hl rfl) ?_
  refine g_aload_n (Y := YX7_clear) (pc := 49) 1 dX7_clear_49 rfl ?_
  refine h_getR (Y := YX7_clear) (pc := 50) (ci := 7) (f := 7) (x := (b + 4)) dX7_clear_50 ⟨(RX7, TX7, 8), rfl, by decide, (in_t1 214 rfl rfl)⟩ rfl (gT0 hl rfl) rfl rfl ?_
  refine g_iload_n (Y := YX7_clear) (pc := 53) 0 dX7_clear_53 rfl ?_
  refine g_iconst (Y := YX7_clear) (pc := 54) (v := (-1)) dX7_clear_54 (by decide) ?_
  refine g_iast (Y := YX7_clear) (pc := 55) dX7_clear_55 (gT (j := 4) hl rfl) rfl (by decide) (Nat.le_of_ble_eq_true rfl) ?_
  refine g_ms (m2 := ms0 ++ [(7, 0, upd (upd (upd (upd (fun _ => 0) 0 0) 1 0) 2 0) 3 0, va_up (va_up (va_up (va_up (fun _ => none) 4 (some (b + 1))) 5 (some (b + 2))) 6 (some (b + 3))) 7 (some (b + 4))), (14, 6, upd (upd (upd (upd (fun _ => 0) 0 (-1)) 1 (-1)) 2 (-1)) 3 (-1), fun _ => none), (14, 6, upd (upd (upd (upd (fun _ => 0) 0 0) 1 0) 2 0) 3 0, fun _ => none), (14, 6, upd (upd (upd (upd (fun _ => 0) 0 0) 1 0) 2 0) 3 0, fun _ => none), (14, 6, upd (upd (upd (upd (fun _ => 0) 0 (-1)) 1 (-1)) 2 (-1)) 3 (-1), fun _ => none)]) (sT (j := 4) hl rfl) ?_
  refine g_iinc (Y := YX7_clear) (pc := 56) (j := 0) (v := 4) (L' := [(1, .int 4), (0, .ref b)]) dX7_clear_56 rfl (by decide) (Nat.le_of_ble_eq_true rfl) rfl ?_
  refine g_goto (Y := YX7_clear) (pc := 59) (tgt := 22) dX7_clear_59 rfl ?_
  refine g_iload_n (Y := YX7_clear) (pc := 22) 0 dX7_clear_22 rfl ?_
  refine g_bipush (Y := YX7_clear) (pc := 23) (v := 6) dX7_clear_23 (by decide) ?_
  refine g_icmp_ge (Y := YX7_clear) (pc := 25) (tgt := 62) dX7_clear_25 rfl (fun c9 => absurd (by decide) c9) (fun _ => ?_)
  refine g_aload_n (Y := YX7_clear) (pc := 28) 1 dX7_clear_28 rfl ?_
  refine h_getR (Y := YX7_clear) (pc := 29) (ci := 7) (f := 4) (x := (b + 1)) dX7_clear_29 ⟨(RX7, TX7, 8), rfl, by decide, (in_t1 205 rfl rfl)⟩ rfl (gT0 hl rfl) rfl rfl ?_
  refine g_iload_n (Y := YX7_clear) (pc := 32) 0 dX7_clear_32 rfl ?_
  refine g_iconst (Y := YX7_clear) (pc := 33) (v := (-1)) dX7_clear_33 (by decide) ?_
  refine g_iast (Y := YX7_clear) (pc := 34) dX7_clear_34 (gT (j := 1) hl rfl) rfl (by decide) (Nat.le_of_ble_eq_true rfl) ?_
  refine g_ms (m2 := ms0 ++ [(7, 0, upd (upd (upd (upd (fun _ => 0) 0 0) 1 0) 2 0) 3 0, va_up (va_up (va_up (va_up (fun _ => none) 4 (some (b + 1))) 5 (some (b + 2))) 6 (some (b + 3))) 7 (some (b + 4))), (14, 6, upd (upd (upd (upd (upd (fun _ => 0) 0 (-1)) 1 (-1)) 2 (-1)) 3 (-1)) 4 (-1), fun _ => none), (14, 6, upd (upd (upd (upd (fun _ => 0) 0 0) 1 0) 2 0) 3 0, fun _ => none), (14, 6, upd (upd (upd (upd (fun _ => 0) 0 0) 1 0) 2 0) 3 0, fun _ => none), (14, 6, upd (upd (upd (upd (fun _ => 0) 0 (-1)) 1 (-1)) 2 (-1)) 3 (-1), fun _ => none)]) (sT (j := 1) hl rfl) ?_
  refine g_aload_n (Y := YX7_clear) (pc := 35) 1 dX7_clear_35 rfl ?_
  refine h_getR (Y := YX7_clear) (pc := 36) (ci := 7) (f := 5) (x := (b + 2)) dX7_clear_36 ⟨(RX7, TX7, 8), rfl, by decide, (in_t1 208 rfl rfl)⟩ rfl (gT0 hl rfl) rfl rfl ?_
  refine g_iload_n (Y := YX7_clear) (pc := 39) 0 dX7_clear_39 rfl ?_
  refine g_iconst (Y := YX7_clear) (pc := 40) (v := 0) dX7_clear_40 (by decide) ?_
  refine g_iast (Y := YX7_clear) (pc := 41) dX7_clear_41 (gT (j := 2) hl rfl) rfl (by decide) (Nat.le_of_ble_eq_true rfl) ?_
  refine g_ms (m2 := ms0 ++ [(7, 0, upd (upd (upd (upd (fun _ => 0) 0 0) 1 0) 2 0) 3 0, va_up (va_up (va_up (va_up (fun _ => none) 4 (some (b + 1))) 5 (some (b + 2))) 6 (some (b + 3))) 7 (some (b + 4))), (14, 6, upd (upd (upd (upd (upd (fun _ => 0) 0 (-1)) 1 (-1)) 2 (-1)) 3 (-1)) 4 (-1), fun _ => none), (14, 6, upd (upd (upd (upd (upd (fun _ => 0) 0 0) 1 0) 2 0) 3 0) 4 0, fun _ => none), (14, 6, upd (upd (upd (upd (fun _ => 0) 0 0) 1 0) 2 0) 3 0, fun _ => none), (14, 6, upd (upd (upd (upd (fun _ => 0) 0 (-1)) 1 (-1)) 2 (-1)) 3 (-1), fun _ => none)]) (sT (j := 2) hl rfl) ?_
  refine g_aload_n (Y := YX7_clear) (pc := 42) 1 dX7_clear_42 rfl ?_
  refine h_getR (Y := YX7_clear) (pc := 43) (ci := 7) (f := 6) (x := (b + 3)) dX7_clear_43 ⟨(RX7, TX7, 8), rfl, by decide, (in_t1 211 rfl rfl)⟩ rfl (gT0 hl rfl) rfl rfl ?_
  refine g_iload_n (Y := YX7_clear) (pc := 46) 0 dX7_clear_46 rfl ?_
  refine g_iconst (Y := YX7_clear) (pc := 47) (v := 0) dX7_clear_47 (by decide) ?_
  refine g_iast (Y := YX7_clear) (pc := 48) dX7_clear_48 (gT (j := 3) hl rfl) rfl (by decide) (Nat.le_of_ble_eq_true rfl) ?_
  refine g_ms (m2 := ms0 ++ [(7, 0, upd (upd (upd (upd (fun _ => 0) 0 0) 1 0) 2 0) 3 0, va_up (va_up (va_up (va_up (fun _ => none) 4 (some (b + 1))) 5 (some (b + 2))) 6 (some (b + 3))) 7 (some (b + 4))), (14, 6, upd (upd (upd (upd (upd (fun _ => 0) 0 (-1)) 1 (-1)) 2 (-1)) 3 (-1)) 4 (-1), fun _ => none), (14, 6, upd (upd (upd (upd (upd (fun _ => 0) 0 0) 1 0) 2 0) 3 0) 4 0, fun _ => none), (14, 6, upd (upd (upd (upd (upd (fun _ => 0) 0 0) 1 0) 2 0) 3 0) 4 0, fun _ => none), (14, 6, upd (upd (upd (upd (fun _ => 0) 0 (-1)) 1 (-1)) 2 (-1)) 3 (-1), fun _ => none)]) (sT (j := 3) hl rfl) ?_
  refine g_aload_n (Y := YX7_clear) (pc := 49) 1 dX7_clear_49 rfl ?_
  refine h_getR (Y := YX7_clear) (pc := 50) (ci := 7) (f := 7) (x := (b + 4)) dX7_clear_50 ⟨(RX7, TX7, 8), rfl, by decide, (in_t1 214 rfl rfl)⟩ rfl (gT0 hl rfl) rfl rfl ?_
  refine g_iload_n (Y := YX7_clear) (pc := 53) 0 dX7_clear_53 rfl ?_
  refine g_iconst (Y := YX7_clear) (pc := 54) (v := (-1)) dX7_clear_54 (by decide) ?_
  refine g_iast (Y := YX7_clear) (pc := 55) dX7_clear_55 (gT (j := 4) hl rfl) rfl (by decide) (Nat.le_of_ble_eq_true rfl) ?_
  refine g_ms (m2 := ms0 ++ [(7, 0, upd (upd (upd (upd (fun _ => 0) 0 0) 1 0) 2 0) 3 0, va_up (va_up (va_up (va_up (fun _ => none) 4 (some (b + 1))) 5 (some (b + 2))) 6 (some (b + 3))) 7 (some (b + 4))), (14, 6, upd (upd (upd (upd (upd (fun _ => 0) 0 (-1)) 1 (-1)) 2 (-1)) 3 (-1)) 4 (-1), fun _ => none), (14, 6, upd (upd (upd (upd (upd (fun _ => 0) 0 0) 1 0) 2 0) 3 0) 4 0, fun _ => none), (14, 6, upd (upd (upd (upd (upd (fun _ => 0) 0 0) 1 0) 2 0) 3 0) 4 0, fun _ => none), (14, 6, upd (upd (upd (upd (upd (fun _ => 0) 0 (-1)) 1 (-1)) 2 (-1)) 3 (-1)) 4 (-1), fun _ => none)]) (sT (j := 4) hl rfl) ?_
  refine g_iinc (Y := YX7_clear) (pc := 56) (j := 0) (v := 5) (L' := [(1, .int 5), (0, .ref b)]) dX7_clear_56 rfl (by decide) (Nat.le_of_ble_eq_true rfl) rfl ?_
  refine g_goto (Y := YX7_clear) (pc := 59) (tgt := 22) dX7_clear_59 rfl ?_
  refine g_iload_n (Y := YX7_clear) (pc := 22) 0 dX7_clear_22 rfl ?_
  refine g_bipush (Y := YX7_clear) (pc := 23) (v := 6) dX7_clear_23 (by decide) ?_
  refine g_icmp_ge (Y := YX7_clear) (pc := 25) (tgt := 62) dX7_clear_25 rfl (fun c9 => absurd (by decide) c9) (fun _ => ?_)
  refine g_aload_n (Y := YX7_clear) (pc := 28) 1 dX7_clear_28 rfl ?_
  refine h_getR (Y := YX7_clear) (pc := 29) (ci := 7) (f := 4) (x := (b + 1)) dX7_clear_29 ⟨(RX7, TX7, 8), rfl, by decide, (in_t1 205 rfl rfl)⟩ rfl (gT0 hl rfl) rfl rfl ?_
  refine g_iload_n (Y := YX7_clear) (pc := 32) 0 dX7_clear_32 rfl ?_
  refine g_iconst (Y := YX7_clear) (pc := 33) (v := (-1)) dX7_clear_33 (by decide) ?_
  refine g_iast (Y := YX7_clear) (pc := 34) dX7_clear_34 (gT (j := 1) hl rfl) rfl (by decide) (Nat.le_of_ble_eq_true rfl) ?_
  refine g_ms (m2 := ms0 ++ [(7, 0, upd (upd (upd (upd (fun _ => 0) 0 0) 1 0) 2 0) 3 0, va_up (va_up (va_up (va_up (fun _ => none) 4 (some (b + 1))) 5 (some (b + 2))) 6 (some (b + 3))) 7 (some (b + 4))), (14, 6, upd (upd (upd (upd (upd (upd (fun _ => 0) 0 (-1)) 1 (-1)) 2 (-1)) 3 (-1)) 4 (-1)) 5 (-1), fun _ => none), (14, 6, upd (upd (upd (upd (upd (fun _ => 0) 0 0) 1 0) 2 0) 3 0) 4 0, fun _ => none), (14, 6, upd (upd (upd (upd (upd (fun _ => 0) 0 0) 1 0) 2 0) 3 0) 4 0, fun _ => none), (14, 6, upd (upd (upd (upd (upd (fun _ => 0) 0 (-1)) 1 (-1)) 2 (-1)) 3 (-1)) 4 (-1), fun _ => none)]) (sT (j := 1) hl rfl) ?_
  refine g_aload_n (Y := YX7_clear) (pc := 35) 1 dX7_clear_35 rfl ?_
  refine h_getR (Y := YX7_clear) (pc := 36) (ci := 7) (f := 5) (x := (b + 2)) dX7_clear_36 ⟨(RX7, TX7, 8), rfl, by decide, (in_t1 208 rfl rfl)⟩ rfl (gT0 hl rfl) rfl rfl ?_
  refine g_iload_n (Y := YX7_clear) (pc := 39) 0 dX7_clear_39 rfl ?_
  refine g_iconst (Y := YX7_clear) (pc := 40) (v := 0) dX7_clear_40 (by decide) ?_
  refine g_iast (Y := YX7_clear) (pc := 41) dX7_clear_41 (gT (j := 2) hl rfl) rfl (by decide) (Nat.le_of_ble_eq_true rfl) ?_
  refine g_ms (m2 := ms0 ++ [(7, 0, upd (upd (upd (upd (fun _ => 0) 0 0) 1 0) 2 0) 3 0, va_up (va_up (va_up (va_up (fun _ => none) 4 (some (b + 1))) 5 (some (b + 2))) 6 (some (b + 3))) 7 (some (b + 4))), (14, 6, upd (upd (upd (upd (upd (upd (fun _ => 0) 0 (-1)) 1 (-1)) 2 (-1)) 3 (-1)) 4 (-1)) 5 (-1), fun _ => none), (14, 6, upd (upd (upd (upd (upd (upd (fun _ => 0) 0 0) 1 0) 2 0) 3 0) 4 0) 5 0, fun _ => none), (14, 6, upd (upd (upd (upd (upd (fun _ => 0) 0 0) 1 0) 2 0) 3 0) 4 0, fun _ => none), (14, 6, upd (upd (upd (upd (upd (fun _ => 0) 0 (-1)) 1 (-1)) 2 (-1)) 3 (-1)) 4 (-1), fun _ => none)]) (sT (j := 2) hl rfl) ?_
  refine g_aload_n (Y := YX7_clear) (pc := 42) 1 dX7_clear_42 rfl ?_
  refine h_getR (Y := YX7_clear) (pc := 43) (ci := 7) (f := 6) (x := (b + 3)) dX7_clear_43 ⟨(RX7, TX7, 8), rfl, by decide, (in_t1 211 rfl rfl)⟩ rfl (gT0 hl rfl) rfl rfl ?_
  refine g_iload_n (Y := YX7_clear) (pc := 46) 0 dX7_clear_46 rfl ?_
  refine g_iconst (Y := YX7_clear) (pc := 47) (v := 0) dX7_clear_47 (by decide) ?_
  refine g_iast (Y := YX7_clear) (pc := 48) dX7_clear_48 (gT (j := 3) hl rfl) rfl (by decide) (Nat.le_of_ble_eq_true rfl) ?_
  refine g_ms (m2 := ms0 ++ [(7, 0, upd (upd (upd (upd (fun _ => 0) 0 0) 1 0) 2 0) 3 0, va_up (va_up (va_up (va_up (fun _ => none) 4 (some (b + 1))) 5 (some (b + 2))) 6 (some (b + 3))) 7 (some (b + 4))), (14, 6, upd (upd (upd (upd (upd (upd (fun _ => 0) 0 (-1)) 1 (-1)) 2 (-1)) 3 (-1)) 4 (-1)) 5 (-1), fun _ => none), (14, 6, upd (upd (upd (upd (upd (upd (fun _ => 0) 0 0) 1 0) 2 0) 3 0) 4 0) 5 0, fun _ => none), (14, 6, upd (upd (upd (upd (upd (upd (fun _ => 0) 0 0) 1 0) 2 0) 3 0) 4 0) 5 0, fun _ => none), (14, 6, upd (upd (upd (upd (upd (fun _ => 0) 0 (-1)) 1 (-1)) 2 (-1)) 3 (-1)) 4 (-1), fun _ => none)]) (sT (j := 3) hl rfl) ?_
  refine g_aload_n (Y := YX7_clear) (pc := 49) 1 dX7_clear_49 rfl ?_
  refine h_getR (Y := YX7_clear) (pc := 50) (ci := 7) (f := 7) (x := (b + 4)) dX7_clear_50 ⟨(RX7, TX7, 8), rfl, by decide, (in_t1 214 rfl rfl)⟩ rfl (gT0 hl rfl) rfl rfl ?_
  refine g_iload_n (Y := YX7_clear) (pc := 53) 0 dX7_clear_53 rfl ?_
  refine g_iconst (Y := YX7_clear) (pc := 54) (v := (-1)) dX7_clear_54 (by decide) ?_
  refine g_iast (Y := YX7_clear) (pc := 55) dX7_clear_55 (gT (j := 4) hl rfl) rfl (by decide) (Nat.le_of_ble_eq_true rfl) ?_
  refine g_ms (m2 := ms0 ++ [(7, 0, upd (upd (upd (upd (fun _ => 0) 0 0) 1 0) 2 0) 3 0, va_up (va_up (va_up (va_up (fun _ => none) 4 (some (b + 1))) 5 (some (b + 2))) 6 (some (b + 3))) 7 (some (b + 4))), (14, 6, upd (upd (upd (upd (upd (upd (fun _ => 0) 0 (-1)) 1 (-1)) 2 (-1)) 3 (-1)) 4 (-1)) 5 (-1), fun _ => none), (14, 6, upd (upd (upd (upd (upd (upd (fun _ => 0) 0 0) 1 0) 2 0) 3 0) 4 0) 5 0, fun _ => none), (14, 6, upd (upd (upd (upd (upd (upd (fun _ => 0) 0 0) 1 0) 2 0) 3 0) 4 0) 5 0, fun _ => none), (14, 6, upd (upd (upd (upd (upd (upd (fun _ => 0) 0 (-1)) 1 (-1)) 2 (-1)) 3 (-1)) 4 (-1)) 5 (-1), fun _ => none)]) (sT (j := 4) hl rfl) ?_
  refine g_iinc (Y := YX7_clear) (pc := 56) (j := 0) (v := 6) (L' := [(1, .int 6), (0, .ref b)]) dX7_clear_56 rfl (by decide) (Nat.le_of_ble_eq_true rfl) rfl ?_
  refine g_goto (Y := YX7_clear) (pc := 59) (tgt := 22) dX7_clear_59 rfl ?_
  refine g_iload_n (Y := YX7_clear) (pc := 22) 0 dX7_clear_22 rfl ?_
  refine g_bipush (Y := YX7_clear) (pc := 23) (v := 6) dX7_clear_23 (by decide) ?_
  refine g_icmp_ge (Y := YX7_clear) (pc := 25) (tgt := 62) dX7_clear_25 rfl (fun _ => ?_) (fun c9 => absurd c9 (by decide))
  exact g_vret dX7_clear_62 rfl (Nat.le_of_ble_eq_true rfl) (Nat.le_of_ble_eq_true rfl)
abbrev YX7_init : MRec := (yX7_init, cX7_init, 1, none)
set_option maxRecDepth 100000 in
theorem mo_X7_init : MOK YX7_init 0 := ⟨(in_t1 187 rfl rfl), ini_X7, pl_X7, ⟨nh_X7.1, nh_X7.2, rfl⟩, by decide⟩
theorem dX7_init_0 : decode cX7_init 0 = .ok (.aload_n 0, 1) := by decide +kernel
theorem dX7_init_1 : decode cX7_init 1 = .ok (.invokespecial 3, 3) := by decide +kernel
theorem dX7_init_4 : decode cX7_init 4 = .ok (.aload_n 0, 1) := by decide +kernel
theorem dX7_init_5 : decode cX7_init 5 = .ok (.bipush 6, 2) := by decide +kernel
theorem dX7_init_7 : decode cX7_init 7 = .ok (.newarray .int, 2) := by decide +kernel
theorem dX7_init_9 : decode cX7_init 9 = .ok (.putfield 9, 3) := by decide +kernel
theorem dX7_init_12 : decode cX7_init 12 = .ok (.aload_n 0, 1) := by decide +kernel
theorem dX7_init_13 : decode cX7_init 13 = .ok (.bipush 6, 2) := by decide +kernel
theorem dX7_init_15 : decode cX7_init 15 = .ok (.newarray .int, 2) := by decide +kernel
theorem dX7_init_17 : decode cX7_init 17 = .ok (.putfield 15, 3) := by decide +kernel
theorem dX7_init_20 : decode cX7_init 20 = .ok (.aload_n 0, 1) := by decide +kernel
theorem dX7_init_21 : decode cX7_init 21 = .ok (.bipush 6, 2) := by decide +kernel
theorem dX7_init_23 : decode cX7_init 23 = .ok (.newarray .int, 2) := by decide +kernel
theorem dX7_init_25 : decode cX7_init 25 = .ok (.putfield 18, 3) := by decide +kernel
theorem dX7_init_28 : decode cX7_init 28 = .ok (.aload_n 0, 1) := by decide +kernel
theorem dX7_init_29 : decode cX7_init 29 = .ok (.bipush 6, 2) := by decide +kernel
theorem dX7_init_31 : decode cX7_init 31 = .ok (.newarray .int, 2) := by decide +kernel
theorem dX7_init_33 : decode cX7_init 33 = .ok (.putfield 21, 3) := by decide +kernel
theorem dX7_init_36 : decode cX7_init 36 = .ok (.aload_n 0, 1) := by decide +kernel
theorem dX7_init_37 : decode cX7_init 37 = .ok (.invokevirtual 24, 3) := by decide +kernel
theorem dX7_init_40 : decode cX7_init 40 = .ok (.return_, 1) := by decide +kernel
def stC (b : Nat) : Mm := [(7, 0, upd (upd (upd (upd (fun _ => 0) 0 0) 1 0) 2 0) 3 0, va_up (va_up (va_up (va_up (fun _ => none) 4 (some (b + 1))) 5 (some (b + 2))) 6 (some (b + 3))) 7 (some (b + 4))), (14, 6, upd (upd (upd (upd (upd (upd (fun _ => 0) 0 (-1)) 1 (-1)) 2 (-1)) 3 (-1)) 4 (-1)) 5 (-1), fun _ => none), (14, 6, upd (upd (upd (upd (upd (upd (fun _ => 0) 0 0) 1 0) 2 0) 3 0) 4 0) 5 0, fun _ => none), (14, 6, upd (upd (upd (upd (upd (upd (fun _ => 0) 0 0) 1 0) 2 0) 3 0) 4 0) 5 0, fun _ => none), (14, 6, upd (upd (upd (upd (upd (upd (fun _ => 0) 0 (-1)) 1 (-1)) 2 (-1)) 3 (-1)) 4 (-1)) 5 (-1), fun _ => none)]
set_option maxRecDepth 100000 in
set_option maxHeartbeats 4000000 in
theorem r_X7_init {l : Launch} {D : va_G} {cy : Nat → ClassId} {ad : Nat → Nat} {h : Nat} {ms0 : Mm} {b : Nat} (hl : ms0.length = b) : Run l D cy ad (some h) YX7_init 1 4 24 [.ref b] (ms0 ++ [(7, 0, fun _ => 0, fun _ => none)]) none (ms0 ++ stC b) := by
  refine Run.of 0 mo_X7_init (Nat.le_of_ble_eq_true rfl) ?_
  refine g_aload_n (Y := YX7_init) (pc := 0) 0 dX7_init_0 rfl ?_
  refine g_objInit (Y := YX7_init) (pc := 1) dX7_init_1 (in_t1 188 rfl rfl) w_obj (Nat.le_of_ble_eq_true rfl) (Nat.le_of_ble_eq_true rfl) (Nat.le_of_ble_eq_true rfl) ?_
  refine g_aload_n (Y := YX7_init) (pc := 4) 0 dX7_init_4 rfl ?_
  refine g_bipush (Y := YX7_init) (pc := 5) (v := 6) dX7_init_5 (by decide) ?_
  refine h_newa (Y := YX7_init) (pc := 7) (b := (b + 1)) (N := 6) dX7_init_7 (by decide) ac_int (by decide) rfl (Nat.le_of_ble_eq_true rfl) (Nat.le_of_ble_eq_true rfl) (Nat.le_of_ble_eq_true rfl) (lT hl rfl) ?_
  refine g_ms (m2 := ms0 ++ [(7, 0, fun _ => 0, fun _ => none), (14, 6, fun _ => 0, fun _ => none)]) (List.append_assoc _ _ _) ?_
  refine g_putRF (Y := YX7_init) (pc := 9) (ci := 7) (f := 4) dX7_init_9 ⟨(RX7, TX7, 8), rfl, by decide, (in_t1 205 rfl rfl)⟩ rfl (fun a => ⟨rfl, rfl⟩) rfl rfl ⟨_, rfl, rfl⟩ (gT0 hl rfl) rfl ?_
  refine g_ms (m2 := ms0 ++ [(7, 0, fun _ => 0, va_up (fun _ => none) 4 (some (b + 1))), (14, 6, fun _ => 0, fun _ => none)]) (sT0 hl rfl) ?_
  refine g_aload_n (Y := YX7_init) (pc := 12) 0 dX7_init_12 rfl ?_
  refine g_bipush (Y := YX7_init) (pc := 13) (v := 6) dX7_init_13 (by decide) ?_
  refine h_newa (Y := YX7_init) (pc := 15) (b := (b + 2)) (N := 6) dX7_init_15 (by decide) ac_int (by decide) rfl (Nat.le_of_ble_eq_true rfl) (Nat.le_of_ble_eq_true rfl) (Nat.le_of_ble_eq_true rfl) (lT hl rfl) ?_
  refine g_ms (m2 := ms0 ++ [(7, 0, fun _ => 0, va_up (fun _ => none) 4 (some (b + 1))), (14, 6, fun _ => 0, fun _ => none), (14, 6, fun _ => 0, fun _ => none)]) (List.append_assoc _ _ _) ?_
  refine g_putRF (Y := YX7_init) (pc := 17) (ci := 7) (f := 5) dX7_init_17 ⟨(RX7, TX7, 8), rfl, by decide, (in_t1 208 rfl rfl)⟩ rfl (fun a => ⟨rfl, rfl⟩) rfl rfl ⟨_, rfl, rfl⟩ (gT0 hl rfl) rfl ?_
  refine g_ms (m2 := ms0 ++ [(7, 0, fun _ => 0, va_up (va_up (fun _ => none) 4 (some (b + 1))) 5 (some (b + 2))), (14, 6, fun _ => 0, fun _ => none), (14, 6, fun _ => 0, fun _ => none)]) (sT0 hl rfl) ?_
  refine g_aload_n (Y := YX7_init) (pc := 20) 0 dX7_init_20 rfl ?_
  refine g_bipush (Y := YX7_init) (pc := 21) (v := 6) dX7_init_21 (by decide) ?_
  refine h_newa (Y := YX7_init) (pc := 23) (b := (b + 3)) (N := 6) dX7_init_23 (by decide) ac_int (by decide) rfl (Nat.le_of_ble_eq_true rfl) (Nat.le_of_ble_eq_true rfl) (Nat.le_of_ble_eq_true rfl) (lT hl rfl) ?_
  refine g_ms (m2 := ms0 ++ [(7, 0, fun _ => 0, va_up (va_up (fun _ => none) 4 (some (b + 1))) 5 (some (b + 2))), (14, 6, fun _ => 0, fun _ => none), (14, 6, fun _ => 0, fun _ => none), (14, 6, fun _ => 0, fun _ => none)]) (List.append_assoc _ _ _) ?_
  refine g_putRF (Y := YX7_init) (pc := 25) (ci := 7) (f := 6) dX7_init_25 ⟨(RX7, TX7, 8), rfl, by decide, (in_t1 211 rfl rfl)⟩ rfl (fun a => ⟨rfl, rfl⟩) rfl rfl ⟨_, rfl, rfl⟩ (gT0 hl rfl) rfl ?_
  refine g_ms (m2 := ms0 ++ [(7, 0, fun _ => 0, va_up (va_up (va_up (fun _ => none) 4 (some (b + 1))) 5 (some (b + 2))) 6 (some (b + 3))), (14, 6, fun _ => 0, fun _ => none), (14, 6, fun _ => 0, fun _ => none), (14, 6, fun _ => 0, fun _ => none)]) (sT0 hl rfl) ?_
  refine g_aload_n (Y := YX7_init) (pc := 28) 0 dX7_init_28 rfl ?_
  refine g_bipush (Y := YX7_init) (pc := 29) (v := 6) dX7_init_29 (by decide) ?_
  refine h_newa (Y := YX7_init) (pc := 31) (b := (b + 4)) (N := 6) dX7_init_31 (by decide) ac_int (by decide) rfl (Nat.le_of_ble_eq_true rfl) (Nat.le_of_ble_eq_true rfl) (Nat.le_of_ble_eq_true rfl) (lT hl rfl) ?_
  refine g_ms (m2 := ms0 ++ [(7, 0, fun _ => 0, va_up (va_up (va_up (fun _ => none) 4 (some (b + 1))) 5 (some (b + 2))) 6 (some (b + 3))), (14, 6, fun _ => 0, fun _ => none), (14, 6, fun _ => 0, fun _ => none), (14, 6, fun _ => 0, fun _ => none), (14, 6, fun _ => 0, fun _ => none)]) (List.append_assoc _ _ _) ?_
  refine g_putRF (Y := YX7_init) (pc := 33) (ci := 7) (f := 7) dX7_init_33 ⟨(RX7, TX7, 8), rfl, by decide, (in_t1 214 rfl rfl)⟩ rfl (fun a => ⟨rfl, rfl⟩) rfl rfl ⟨_, rfl, rfl⟩ (gT0 hl rfl) rfl ?_
  refine g_ms (m2 := ms0 ++ [(7, 0, fun _ => 0, va_up (va_up (va_up (va_up (fun _ => none) 4 (some (b + 1))) 5 (some (b + 2))) 6 (some (b + 3))) 7 (some (b + 4))), (14, 6, fun _ => 0, fun _ => none), (14, 6, fun _ => 0, fun _ => none), (14, 6, fun _ => 0, fun _ => none), (14, 6, fun _ => 0, fun _ => none)]) (sT0 hl rfl) ?_
  refine g_aload_n (Y := YX7_init) (pc := 36) 0 dX7_init_36 rfl ?_
  refine g_callV (Y := YX7_init) (pc := 37) (as := []) (st := []) (r1 := none) (r_clear hl) (miX7_clear).1 (in_t1 189 rfl rfl) (miX7_clear).2.1 (miX7_clear).2.2.1 dX7_init_37 (gT0 hl rfl) (q := (RX7, TX7, 8)) rfl rfl rfl (Nat.le_of_ble_eq_true rfl) (Nat.le_of_ble_eq_true rfl) (Nat.le_of_ble_eq_true rfl) (Nat.le_of_ble_eq_true rfl) (Nat.le_of_ble_eq_true rfl) rfl ?_
  exact g_vret dX7_init_40 rfl (Nat.le_of_ble_eq_true rfl) (Nat.le_of_ble_eq_true rfl)
abbrev YX8_init : MRec := (yX8_init, cX8_init, 1, none)
set_option maxRecDepth 100000 in
theorem mo_X8_init : MOK YX8_init 0 := ⟨(in_t1 32 rfl rfl), ini_X8, pl_X8, ⟨nh_X8.1, nh_X8.2, rfl⟩, by decide⟩
theorem dX8_init_0 : decode cX8_init 0 = .ok (.aload_n 0, 1) := by decide +kernel
theorem dX8_init_1 : decode cX8_init 1 = .ok (.invokespecial 3, 3) := by decide +kernel
theorem dX8_init_4 : decode cX8_init 4 = .ok (.aload_n 0, 1) := by decide +kernel
theorem dX8_init_5 : decode cX8_init 5 = .ok (.bipush 80, 2) := by decide +kernel
theorem dX8_init_7 : decode cX8_init 7 = .ok (.newarray .char, 2) := by decide +kernel
theorem dX8_init_9 : decode cX8_init 9 = .ok (.putfield 9, 3) := by decide +kernel
theorem dX8_init_12 : decode cX8_init 12 = .ok (.aload_n 0, 1) := by decide +kernel
theorem dX8_init_13 : decode cX8_init 13 = .ok (.iconst 0, 1) := by decide +kernel
theorem dX8_init_14 : decode cX8_init 14 = .ok (.putfield 15, 3) := by decide +kernel
theorem dX8_init_17 : decode cX8_init 17 = .ok (.aload_n 0, 1) := by decide +kernel
theorem dX8_init_18 : decode cX8_init 18 = .ok (.bipush 80, 2) := by decide +kernel
theorem dX8_init_20 : decode cX8_init 20 = .ok (.putfield 19, 3) := by decide +kernel
theorem dX8_init_23 : decode cX8_init 23 = .ok (.return_, 1) := by decide +kernel
def txC : Mm := [(8, 0, upd (upd (fun _ => 0) 1 0) 2 80, va_up (fun _ => none) 0 (some 2)), (13, 80, fun _ => 0, fun _ => none)]
set_option maxRecDepth 100000 in
set_option maxHeartbeats 4000000 in
theorem r_X8_init {l : Launch} {D : va_G} {cy : Nat → ClassId} {ad : Nat → Nat} {h : Nat} {ms0 : Mm} (hl : ms0.length = 1) : Run l D cy ad (some h) YX8_init 1 1 80 [.ref 1] (ms0 ++ [(8, 0, fun _ => 0, fun _ => none)]) none (ms0 ++ txC) := by
  refine Run.of 0 mo_X8_init (Nat.le_of_ble_eq_true rfl) ?_
  refine g_aload_n (Y := YX8_init) (pc := 0) 0 dX8_init_0 rfl ?_
  refine g_objInit (Y := YX8_init) (pc := 1) dX8_init_1 (in_t1 33 rfl rfl) w_obj (Nat.le_of_ble_eq_true rfl) (Nat.le_of_ble_eq_true rfl) (Nat.le_of_ble_eq_true rfl) ?_
  refine g_aload_n (Y := YX8_init) (pc := 4) 0 dX8_init_4 rfl ?_
  refine g_bipush (Y := YX8_init) (pc := 5) (v := 80) dX8_init_5 (by decide) ?_
  refine h_newa (Y := YX8_init) (pc := 7) (b := 2) (N := 80) dX8_init_7 (by decide) ac_char (by decide) rfl (Nat.le_of_ble_eq_true rfl) (Nat.le_of_ble_eq_true rfl) (Nat.le_of_ble_eq_true rfl) (lT hl rfl) ?_
  refine g_ms (m2 := ms0 ++ [(8, 0, fun _ => 0, fun _ => none), (13, 80, fun _ => 0, fun _ => none)]) (List.append_assoc _ _ _) ?_
  refine g_putRF (Y := YX8_init) (pc := 9) (ci := 8) (f := 0) dX8_init_9 ⟨(RX8, TX8, 3), rfl, by decide, (in_t1 34 rfl rfl)⟩ rfl (fun a => ⟨rfl, rfl⟩) rfl rfl ⟨_, rfl, rfl⟩ (gT0 hl rfl) rfl ?_
  refine g_ms (m2 := ms0 ++ [(8, 0, fun _ => 0, va_up (fun _ => none) 0 (some 2)), (13, 80, fun _ => 0, fun _ => none)]) (sT0 hl rfl) ?_
  refine g_aload_n (Y := YX8_init) (pc := 12) 0 dX8_init_12 rfl ?_
  refine g_iconst (Y := YX8_init) (pc := 13) (v := 0) dX8_init_13 (by decide) ?_
  refine g_putI (Y := YX8_init) (pc := 14) (ci := 8) (f := 1) dX8_init_14 ⟨(RX8, TX8, 3), rfl, by decide, (in_t1 36 rfl rfl)⟩ (Or.inl rfl) rfl (gT0 hl rfl) rfl ?_
  refine g_ms (m2 := ms0 ++ [(8, 0, upd (fun _ => 0) 1 0, va_up (fun _ => none) 0 (some 2)), (13, 80, fun _ => 0, fun _ => none)]) (sT0 hl rfl) ?_
  refine g_aload_n (Y := YX8_init) (pc := 17) 0 dX8_init_17 rfl ?_
  refine g_bipush (Y := YX8_init) (pc := 18) (v := 80) dX8_init_18 (by decide) ?_
  refine g_putI (Y := YX8_init) (pc := 20) (ci := 8) (f := 2) dX8_init_20 ⟨(RX8, TX8, 3), rfl, by decide, (in_t1 41 rfl rfl)⟩ (Or.inl rfl) rfl (gT0 hl rfl) rfl ?_
  refine g_ms (m2 := ms0 ++ [(8, 0, upd (upd (fun _ => 0) 1 0) 2 80, va_up (fun _ => none) 0 (some 2)), (13, 80, fun _ => 0, fun _ => none)]) (sT0 hl rfl) ?_
  exact g_vret dX8_init_23 rfl (Nat.le_of_ble_eq_true rfl) (Nat.le_of_ble_eq_true rfl)
abbrev YX3_init : MRec := (yX3_init, cX3_init, 1, none)
set_option maxRecDepth 100000 in
theorem mo_X3_init : MOK YX3_init 0 := ⟨(in_t1 64 rfl rfl), ini_X3, pl_X3, ⟨nh_X3.1, nh_X3.2, rfl⟩, by decide⟩
theorem dX3_init_0 : decode cX3_init 0 = .ok (.aload_n 0, 1) := by decide +kernel
theorem dX3_init_1 : decode cX3_init 1 = .ok (.invokespecial 3, 3) := by decide +kernel
theorem dX3_init_4 : decode cX3_init 4 = .ok (.aload_n 0, 1) := by decide +kernel
theorem dX3_init_5 : decode cX3_init 5 = .ok (.bipush 40, 2) := by decide +kernel
theorem dX3_init_7 : decode cX3_init 7 = .ok (.newarray .char, 2) := by decide +kernel
theorem dX3_init_9 : decode cX3_init 9 = .ok (.putfield 11, 3) := by decide +kernel
theorem dX3_init_12 : decode cX3_init 12 = .ok (.aload_n 0, 1) := by decide +kernel
theorem dX3_init_13 : decode cX3_init 13 = .ok (.iconst 0, 1) := by decide +kernel
theorem dX3_init_14 : decode cX3_init 14 = .ok (.putfield 15, 3) := by decide +kernel
theorem dX3_init_17 : decode cX3_init 17 = .ok (.aload_n 0, 1) := by decide +kernel
theorem dX3_init_18 : decode cX3_init 18 = .ok (.aload_n 0, 1) := by decide +kernel
theorem dX3_init_19 : decode cX3_init 19 = .ok (.getfield 11, 3) := by decide +kernel
theorem dX3_init_22 : decode cX3_init 22 = .ok (.putfield 19, 3) := by decide +kernel
theorem dX3_init_25 : decode cX3_init 25 = .ok (.return_, 1) := by decide +kernel
def lwC : Mm := [(3, 0, upd (fun _ => 0) 1 0, va_up (va_up (fun _ => none) 0 (some 24)) 2 (some 24)), (13, 40, fun _ => 0, fun _ => none)]
set_option maxRecDepth 100000 in
set_option maxHeartbeats 4000000 in
theorem r_X3_init {l : Launch} {D : va_G} {cy : Nat → ClassId} {ad : Nat → Nat} {h : Nat} {ms0 : Mm} (hl : ms0.length = 23) : Run l D cy ad (some h) YX3_init 1 1 40 [.ref 23] (ms0 ++ [(3, 0, fun _ => 0, fun _ => none)]) none (ms0 ++ lwC) := by
  refine Run.of 0 mo_X3_init (Nat.le_of_ble_eq_true rfl) ?_
  refine g_aload_n (Y := YX3_init) (pc := 0) 0 dX3_init_0 rfl ?_
  refine g_objInit (Y := YX3_init) (pc := 1) dX3_init_1 (in_t1 65 rfl rfl) w_obj (Nat.le_of_ble_eq_true rfl) (Nat.le_of_ble_eq_true rfl) (Nat.le_of_ble_eq_true rfl) ?_
  refine g_aload_n (Y := YX3_init) (pc := 4) 0 dX3_init_4 rfl ?_
  refine g_bipush (Y := YX3_init) (pc := 5) (v := 40) dX3_init_5 (by decide) ?_
  refine h_newa (Y := YX3_init) (pc := 7) (b := 24) (N := 40) dX3_init_7 (by decide) ac_char (by decide) rfl (Nat.le_of_ble_eq_true rfl) (Nat.le_of_ble_eq_true rfl) (Nat.le_of_ble_eq_true rfl) (lT hl rfl) ?_
  refine g_ms (m2 := ms0 ++ [(3, 0, fun _ => 0, fun _ => none), (13, 40, fun _ => 0, fun _ => none)]) (List.append_assoc _ _ _) ?_
  refine g_putRF (Y := YX3_init) (pc := 9) (ci := 3) (f := 0) dX3_init_9 ⟨(RX3, TX3, 13), rfl, by decide, (in_t1 66 rfl rfl)⟩ rfl (fun a => ⟨rfl, rfl⟩) rfl rfl ⟨_, rfl, rfl⟩ (gT0 hl rfl) rfl ?_
  refine g_ms (m2 := ms0 ++ [(3, 0, fun _ => 0, va_up (fun _ => none) 0 (some 24)), (13, 40, fun _ => 0, fun _ => none)]) (sT0 hl rfl) ?_
  refine g_aload_n (Y := YX3_init) (pc := 12) 0 dX3_init_12 rfl ?_
  refine g_iconst (Y := YX3_init) (pc := 13) (v := 0) dX3_init_13 (by decide) ?_
  refine g_putI (Y := YX3_init) (pc := 14) (ci := 3) (f := 1) dX3_init_14 ⟨(RX3, TX3, 13), rfl, by decide, (in_t1 67 rfl rfl)⟩ (Or.inl rfl) rfl (gT0 hl rfl) rfl ?_
  refine g_ms (m2 := ms0 ++ [(3, 0, upd (fun _ => 0) 1 0, va_up (fun _ => none) 0 (some 24)), (13, 40, fun _ => 0, fun _ => none)]) (sT0 hl rfl) ?_
  refine g_aload_n (Y := YX3_init) (pc := 17) 0 dX3_init_17 rfl ?_
  refine g_aload_n (Y := YX3_init) (pc := 18) 0 dX3_init_18 rfl ?_
  refine h_getR (Y := YX3_init) (pc := 19) (ci := 3) (f := 0) (x := 24) dX3_init_19 ⟨(RX3, TX3, 13), rfl, by decide, (in_t1 66 rfl rfl)⟩ rfl (gT0 hl rfl) rfl rfl ?_
  refine g_putR (Y := YX3_init) (pc := 22) (ci := 3) (f := 2) dX3_init_22 ⟨(RX3, TX3, 13), rfl, by decide, (in_t1 68 rfl rfl)⟩ rfl ⟨rfl, fun a => ⟨rfl, rfl⟩⟩ rfl (gT0 hl rfl) rfl ?_
  refine g_ms (m2 := ms0 ++ [(3, 0, upd (fun _ => 0) 1 0, va_up (va_up (fun _ => none) 0 (some 24)) 2 (some 24)), (13, 40, fun _ => 0, fun _ => none)]) (sT0 hl rfl) ?_
  exact g_vret dX3_init_25 rfl (Nat.le_of_ble_eq_true rfl) (Nat.le_of_ble_eq_true rfl)
abbrev YX1_init : MRec := (yX1_init, cX1_init, 1, none)
set_option maxRecDepth 100000 in
theorem mo_X1_init : MOK YX1_init 0 := ⟨(in_t1 56 rfl rfl), ini_X1, pl_X1, ⟨nh_X1.1, nh_X1.2, rfl⟩, by decide⟩
theorem dX1_init_0 : decode cX1_init 0 = .ok (.aload_n 0, 1) := by decide +kernel
theorem dX1_init_1 : decode cX1_init 1 = .ok (.invokespecial 3, 3) := by decide +kernel
theorem dX1_init_4 : decode cX1_init 4 = .ok (.aload_n 0, 1) := by decide +kernel
theorem dX1_init_5 : decode cX1_init 5 = .ok (.iconst 0, 1) := by decide +kernel
theorem dX1_init_6 : decode cX1_init 6 = .ok (.putfield 9, 3) := by decide +kernel
theorem dX1_init_9 : decode cX1_init 9 = .ok (.aload_n 0, 1) := by decide +kernel
theorem dX1_init_10 : decode cX1_init 10 = .ok (.iconst 0, 1) := by decide +kernel
theorem dX1_init_11 : decode cX1_init 11 = .ok (.putfield 15, 3) := by decide +kernel
theorem dX1_init_14 : decode cX1_init 14 = .ok (.aload_n 0, 1) := by decide +kernel
theorem dX1_init_15 : decode cX1_init 15 = .ok (.iconst 0, 1) := by decide +kernel
theorem dX1_init_16 : decode cX1_init 16 = .ok (.putfield 18, 3) := by decide +kernel
theorem dX1_init_19 : decode cX1_init 19 = .ok (.aload_n 0, 1) := by decide +kernel
theorem dX1_init_20 : decode cX1_init 20 = .ok (.bipush 6, 2) := by decide +kernel
theorem dX1_init_22 : decode cX1_init 22 = .ok (.newarray .int, 2) := by decide +kernel
theorem dX1_init_24 : decode cX1_init 24 = .ok (.putfield 21, 3) := by decide +kernel
theorem dX1_init_27 : decode cX1_init 27 = .ok (.aload_n 0, 1) := by decide +kernel
theorem dX1_init_28 : decode cX1_init 28 = .ok (.bipush 6, 2) := by decide +kernel
theorem dX1_init_30 : decode cX1_init 30 = .ok (.newarray .int, 2) := by decide +kernel
theorem dX1_init_32 : decode cX1_init 32 = .ok (.putfield 25, 3) := by decide +kernel
theorem dX1_init_35 : decode cX1_init 35 = .ok (.aload_n 0, 1) := by decide +kernel
theorem dX1_init_36 : decode cX1_init 36 = .ok (.bipush 6, 2) := by decide +kernel
theorem dX1_init_38 : decode cX1_init 38 = .ok (.newarray .int, 2) := by decide +kernel
theorem dX1_init_40 : decode cX1_init 40 = .ok (.putfield 28, 3) := by decide +kernel
theorem dX1_init_43 : decode cX1_init 43 = .ok (.aload_n 0, 1) := by decide +kernel
theorem dX1_init_44 : decode cX1_init 44 = .ok (.bipush 6, 2) := by decide +kernel
theorem dX1_init_46 : decode cX1_init 46 = .ok (.newarray .int, 2) := by decide +kernel
theorem dX1_init_48 : decode cX1_init 48 = .ok (.putfield 31, 3) := by decide +kernel
theorem dX1_init_51 : decode cX1_init 51 = .ok (.aload_n 0, 1) := by decide +kernel
theorem dX1_init_52 : decode cX1_init 52 = .ok (.bipush 6, 2) := by decide +kernel
theorem dX1_init_54 : decode cX1_init 54 = .ok (.newarray .int, 2) := by decide +kernel
theorem dX1_init_56 : decode cX1_init 56 = .ok (.putfield 34, 3) := by decide +kernel
theorem dX1_init_59 : decode cX1_init 59 = .ok (.aload_n 0, 1) := by decide +kernel
theorem dX1_init_60 : decode cX1_init 60 = .ok (.bipush 6, 2) := by decide +kernel
theorem dX1_init_62 : decode cX1_init 62 = .ok (.bipush 6, 2) := by decide +kernel
theorem dX1_init_64 : decode cX1_init 64 = .ok (.multianewarray 37 2, 4) := by decide +kernel
theorem dX1_init_68 : decode cX1_init 68 = .ok (.putfield 39, 3) := by decide +kernel
theorem dX1_init_71 : decode cX1_init 71 = .ok (.aload_n 0, 1) := by decide +kernel
theorem dX1_init_72 : decode cX1_init 72 = .ok (.bipush 6, 2) := by decide +kernel
theorem dX1_init_74 : decode cX1_init 74 = .ok (.bipush 6, 2) := by decide +kernel
theorem dX1_init_76 : decode cX1_init 76 = .ok (.multianewarray 37 2, 4) := by decide +kernel
theorem dX1_init_80 : decode cX1_init 80 = .ok (.putfield 42, 3) := by decide +kernel
theorem dX1_init_83 : decode cX1_init 83 = .ok (.aload_n 0, 1) := by decide +kernel
theorem dX1_init_84 : decode cX1_init 84 = .ok (.new 45, 3) := by decide +kernel
theorem dX1_init_87 : decode cX1_init 87 = .ok (.dup, 1) := by decide +kernel
theorem dX1_init_88 : decode cX1_init 88 = .ok (.invokespecial 47, 3) := by decide +kernel
theorem dX1_init_91 : decode cX1_init 91 = .ok (.putfield 48, 3) := by decide +kernel
theorem dX1_init_94 : decode cX1_init 94 = .ok (.return_, 1) := by decide +kernel
def hoC : Mm := ([(1, 0, upd (upd (upd (fun _ => 0) 0 0) 1 0) 2 0, va_up (va_up (va_up (va_up (va_up (va_up (va_up (va_up (fun _ => none) 3 (some 4)) 4 (some 5)) 5 (some 6)) 6 (some 7)) 7 (some 8)) 8 (some 9)) 9 (some 16)) 10 (some 23)), (14, 6, fun _ => 0, fun _ => none), (14, 6, fun _ => 0, fun _ => none), (14, 6, fun _ => 0, fun _ => none), (14, 6, fun _ => 0, fun _ => none), (14, 6, fun _ => 0, fun _ => none)] ++ mnaC 9 ++ mnaC 16 ++ lwC)
set_option maxRecDepth 100000 in
set_option maxHeartbeats 4000000 in
theorem r_X1_init {l : Launch} {D : va_G} {cy : Nat → ClassId} {ad : Nat → Nat} {h : Nat} {ms0 : Mm} (hl : ms0.length = 3) : Run l D cy ad (some h) YX1_init 2 21 167 [.ref 3] (ms0 ++ [(1, 0, fun _ => 0, fun _ => none)]) none (ms0 ++ hoC) := by
  refine Run.of 0 mo_X1_init (Nat.le_of_ble_eq_true rfl) ?_
  refine g_aload_n (Y := YX1_init) (pc := 0) 0 dX1_init_0 rfl ?_
  refine g_objInit (Y := YX1_init) (pc := 1) dX1_init_1 (in_t1 57 rfl rfl) w_obj (Nat.le_of_ble_eq_true rfl) (Nat.le_of_ble_eq_true rfl) (Nat.le_of_ble_eq_true rfl) ?_
  refine g_aload_n (Y := YX1_init) (pc := 4) 0 dX1_init_4 rfl ?_
  refine g_iconst (Y := YX1_init) (pc := 5) (v := 0) dX1_init_5 (by decide) ?_
  refine g_putI (Y := YX1_init) (pc := 6) (ci := 1) (f := 0) dX1_init_6 ⟨(RX1, TX1, 11), rfl, by decide, (in_t1 107 rfl rfl)⟩ (Or.inl rfl) rfl (gT0 hl rfl) rfl ?_
  refine g_ms (m2 := ms0 ++ [(1, 0, upd (fun _ => 0) 0 0, fun _ => none)]) (sT0 hl rfl) ?_
  refine g_aload_n (Y := YX1_init) (pc := 9) 0 dX1_init_9 rfl ?_
  refine g_iconst (Y := YX1_init) (pc := 10) (v := 0) dX1_init_10 (by decide) ?_
  refine g_putI (Y := YX1_init) (pc := 11) (ci := 1) (f := 1) dX1_init_11 ⟨(RX1, TX1, 11), rfl, by decide, (in_t1 110 rfl rfl)⟩ (Or.inl rfl) rfl (gT0 hl rfl) rfl ?_
  refine g_ms (m2 := ms0 ++ [(1, 0, upd (upd (fun _ => 0) 0 0) 1 0, fun _ => none)]) (sT0 hl rfl) ?_
  refine g_aload_n (Y := YX1_init) (pc := 14) 0 dX1_init_14 rfl ?_
  refine g_iconst (Y := YX1_init) (pc := 15) (v := 0) dX1_init_15 (by decide) ?_
  refine g_putI (Y := YX1_init) (pc := 16) (ci := 1) (f := 2) dX1_init_16 ⟨(RX1, TX1, 11), rfl, by decide, (in_t1 112 rfl rfl)⟩ (Or.inl rfl) rfl (gT0 hl rfl) rfl ?_
  refine g_ms (m2 := ms0 ++ [(1, 0, upd (upd (upd (fun _ => 0) 0 0) 1 0) 2 0, fun _ => none)]) (sT0 hl rfl) ?_
  refine g_aload_n (Y := YX1_init) (pc := 19) 0 dX1_init_19 rfl ?_
  refine g_bipush (Y := YX1_init) (pc := 20) (v := 6) dX1_init_20 (by decide) ?_
  refine h_newa (Y := YX1_init) (pc := 22) (b := 4) (N := 6) dX1_init_22 (by decide) ac_int (by decide) rfl (Nat.le_of_ble_eq_true rfl) (Nat.le_of_ble_eq_true rfl) (Nat.le_of_ble_eq_true rfl) (lT hl rfl) ?_
  refine g_ms (m2 := ms0 ++ [(1, 0, upd (upd (upd (fun _ => 0) 0 0) 1 0) 2 0, fun _ => none), (14, 6, fun _ => 0, fun _ => none)]) (List.append_assoc _ _ _) ?_
  refine g_putRF (Y := YX1_init) (pc := 24) (ci := 1) (f := 3) dX1_init_24 ⟨(RX1, TX1, 11), rfl, by decide, (in_t1 117 rfl rfl)⟩ rfl (fun a => ⟨rfl, rfl⟩) rfl rfl ⟨_, rfl, rfl⟩ (gT0 hl rfl) rfl ?_
  refine g_ms (m2 := ms0 ++ [(1, 0, upd (upd (upd (fun _ => 0) 0 0) 1 0) 2 0, va_up (fun _ => none) 3 (some 4)), (14, 6, fun _ => 0, fun _ => none)]) (sT0 hl rfl) ?_
  refine g_aload_n (Y := YX1_init) (pc := 27) 0 dX1_init_27 rfl ?_
  refine g_bipush (Y := YX1_init) (pc := 28) (v := 6) dX1_init_28 (by decide) ?_
  refine h_newa (Y := YX1_init) (pc := 30) (b := 5) (N := 6) dX1_init_30 (by decide) ac_int (by decide) rfl (Nat.le_of_ble_eq_true rfl) (Nat.le_of_ble_eq_true rfl) (Nat.le_of_ble_eq_true rfl) (lT hl rfl) ?_
  refine g_ms (m2 := ms0 ++ [(1, 0, upd (upd (upd (fun _ => 0) 0 0) 1 0) 2 0, va_up (fun _ => none) 3 (some 4)), (14, 6, fun _ => 0, fun _ => none), (14, 6, fun _ => 0, fun _ => none)]) (List.append_assoc _ _ _) ?_
  refine g_putRF (Y := YX1_init) (pc := 32) (ci := 1) (f := 4) dX1_init_32 ⟨(RX1, TX1, 11), rfl, by decide, (in_t1 121 rfl rfl)⟩ rfl (fun a => ⟨rfl, rfl⟩) rfl rfl ⟨_, rfl, rfl⟩ (gT0 hl rfl) rfl ?_
  refine g_ms (m2 := ms0 ++ [(1, 0, upd (upd (upd (fun _ => 0) 0 0) 1 0) 2 0, va_up (va_up (fun _ => none) 3 (some 4)) 4 (some 5)), (14, 6, fun _ => 0, fun _ => none), (14, 6, fun _ => 0, fun _ => none)]) (sT0 hl rfl) ?_
  refine g_aload_n (Y := YX1_init) (pc := 35) 0 dX1_init_35 rfl ?_
  refine g_bipush (Y := YX1_init) (pc := 36) (v := 6) dX1_init_36 (by decide) ?_
  refine h_newa (Y := YX1_init) (pc := 38) (b := 6) (N := 6) dX1_init_38 (by decide) ac_int (by decide) rfl (Nat.le_of_ble_eq_true rfl) (Nat.le_of_ble_eq_true rfl) (Nat.le_of_ble_eq_true rfl) (lT hl rfl) ?_
  refine g_ms (m2 := ms0 ++ [(1, 0, upd (upd (upd (fun _ => 0) 0 0) 1 0) 2 0, va_up (va_up (fun _ => none) 3 (some 4)) 4 (some 5)), (14, 6, fun _ => 0, fun _ => none), (14, 6, fun _ => 0, fun _ => none), (14, 6, fun _ => 0, fun _ => none)]) (List.append_assoc _ _ _) ?_
  refine g_putRF (Y := YX1_init) (pc := 40) (ci := 1) (f := 5) dX1_init_40 ⟨(RX1, TX1, 11), rfl, by decide, (in_t1 125 rfl rfl)⟩ rfl (fun a => ⟨rfl, rfl⟩) rfl rfl ⟨_, rfl, rfl⟩ (gT0 hl rfl) rfl ?_
  refine g_ms (m2 := ms0 ++ [(1, 0, upd (upd (upd (fun _ => 0) 0 0) 1 0) 2 0, va_up (va_up (va_up (fun _ => none) 3 (some 4)) 4 (some 5)) 5 (some 6)), (14, 6, fun _ => 0, fun _ => none), (14, 6, fun _ => 0, fun _ => none), (14, 6, fun _ => 0, fun _ => none)]) (sT0 hl rfl) ?_
  refine g_aload_n (Y := YX1_init) (pc := 43) 0 dX1_init_43 rfl ?_
  refine g_bipush (Y := YX1_init) (pc := 44) (v := 6) dX1_init_44 (by decide) ?_
  refine h_newa (Y := YX1_init) (pc := 46) (b := 7) (N := 6) dX1_init_46 (by decide) ac_int (by decide) rfl (Nat.le_of_ble_eq_true rfl) (Nat.le_of_ble_eq_true rfl) (Nat.le_of_ble_eq_true rfl) (lT hl rfl) ?_
  refine g_ms (m2 := ms0 ++ [(1, 0, upd (upd (upd (fun _ => 0) 0 0) 1 0) 2 0, va_up (va_up (va_up (fun _ => none) 3 (some 4)) 4 (some 5)) 5 (some 6)), (14, 6, fun _ => 0, fun _ => none), (14, 6, fun _ => 0, fun _ => none), (14, 6, fun _ => 0, fun _ => none), (14, 6, fun _ => 0, fun _ => none)]) (List.append_assoc _ _ _) ?_
  refine g_putRF (Y := YX1_init) (pc := 48) (ci := 1) (f := 6) dX1_init_48 ⟨(RX1, TX1, 11), rfl, by decide, (in_t1 129 rfl rfl)⟩ rfl (fun a => ⟨rfl, rfl⟩) rfl rfl ⟨_, rfl, rfl⟩ (gT0 hl rfl) rfl ?_
  refine g_ms (m2 := ms0 ++ [(1, 0, upd (upd (upd (fun _ => 0) 0 0) 1 0) 2 0, va_up (va_up (va_up (va_up (fun _ => none) 3 (some 4)) 4 (some 5)) 5 (some 6)) 6 (some 7)), (14, 6, fun _ => 0, fun _ => none), (14, 6, fun _ => 0, fun _ => none), (14, 6, fun _ => 0, fun _ => none), (14, 6, fun _ => 0, fun _ => none)]) (sT0 hl rfl) ?_
  refine g_aload_n (Y := YX1_init) (pc := 51) 0 dX1_init_51 rfl ?_
  refine g_bipush (Y := YX1_init) (pc := 52) (v := 6) dX1_init_52 (by decide) ?_
  refine h_newa (Y := YX1_init) (pc := 54) (b := 8) (N := 6) dX1_init_54 (by decide) ac_int (by decide) rfl (Nat.le_of_ble_eq_true rfl) (Nat.le_of_ble_eq_true rfl) (Nat.le_of_ble_eq_true rfl) (lT hl rfl) ?_
  refine g_ms (m2 := ms0 ++ [(1, 0, upd (upd (upd (fun _ => 0) 0 0) 1 0) 2 0, va_up (va_up (va_up (va_up (fun _ => none) 3 (some 4)) 4 (some 5)) 5 (some 6)) 6 (some 7)), (14, 6, fun _ => 0, fun _ => none), (14, 6, fun _ => 0, fun _ => none), (14, 6, fun _ => 0, fun _ => none), (14, 6, fun _ => 0, fun _ => none), (14, 6, fun _ => 0, fun _ => none)]) (List.append_assoc _ _ _) ?_
  refine g_putRF (Y := YX1_init) (pc := 56) (ci := 1) (f := 7) dX1_init_56 ⟨(RX1, TX1, 11), rfl, by decide, (in_t1 133 rfl rfl)⟩ rfl (fun a => ⟨rfl, rfl⟩) rfl rfl ⟨_, rfl, rfl⟩ (gT0 hl rfl) rfl ?_
  refine g_ms (m2 := ms0 ++ [(1, 0, upd (upd (upd (fun _ => 0) 0 0) 1 0) 2 0, va_up (va_up (va_up (va_up (va_up (fun _ => none) 3 (some 4)) 4 (some 5)) 5 (some 6)) 6 (some 7)) 7 (some 8)), (14, 6, fun _ => 0, fun _ => none), (14, 6, fun _ => 0, fun _ => none), (14, 6, fun _ => 0, fun _ => none), (14, 6, fun _ => 0, fun _ => none), (14, 6, fun _ => 0, fun _ => none)]) (sT0 hl rfl) ?_
  refine g_aload_n (Y := YX1_init) (pc := 59) 0 dX1_init_59 rfl ?_
  refine g_bipush (Y := YX1_init) (pc := 60) (v := 6) dX1_init_60 (by decide) ?_
  refine g_bipush (Y := YX1_init) (pc := 62) (v := 6) dX1_init_62 (by decide) ?_
  refine h_mna (Y := YX1_init) (pc := 64) (b := 9) dX1_init_64 cl_mna ac_int (Nat.le_of_ble_eq_true rfl) (Nat.le_of_ble_eq_true rfl) (lT hl rfl) ?_
  refine g_ms (m2 := ms0 ++ ([(1, 0, upd (upd (upd (fun _ => 0) 0 0) 1 0) 2 0, va_up (va_up (va_up (va_up (va_up (fun _ => none) 3 (some 4)) 4 (some 5)) 5 (some 6)) 6 (some 7)) 7 (some 8)), (14, 6, fun _ => 0, fun _ => none), (14, 6, fun _ => 0, fun _ => none), (14, 6, fun _ => 0, fun _ => none), (14, 6, fun _ => 0, fun _ => none), (14, 6, fun _ => 0, fun _ => none)] ++ mnaC 9)) (List.append_assoc _ _ _) ?_
  refine g_putRF (Y := YX1_init) (pc := 68) (ci := 1) (f := 8) dX1_init_68 ⟨(RX1, TX1, 11), rfl, by decide, (in_t1 136 rfl rfl)⟩ rfl (fun a => ⟨rfl, rfl⟩) rfl rfl ⟨_, rfl, rfl⟩ (gT0 hl rfl) rfl ?_
  refine g_ms (m2 := ms0 ++ ([(1, 0, upd (upd (upd (fun _ => 0) 0 0) 1 0) 2 0, va_up (va_up (va_up (va_up (va_up (va_up (fun _ => none) 3 (some 4)) 4 (some 5)) 5 (some 6)) 6 (some 7)) 7 (some 8)) 8 (some 9)), (14, 6, fun _ => 0, fun _ => none), (14, 6, fun _ => 0, fun _ => none), (14, 6, fun _ => 0, fun _ => none), (14, 6, fun _ => 0, fun _ => none), (14, 6, fun _ => 0, fun _ => none)] ++ mnaC 9)) (sT0 hl rfl) ?_
  refine g_aload_n (Y := YX1_init) (pc := 71) 0 dX1_init_71 rfl ?_
  refine g_bipush (Y := YX1_init) (pc := 72) (v := 6) dX1_init_72 (by decide) ?_
  refine g_bipush (Y := YX1_init) (pc := 74) (v := 6) dX1_init_74 (by decide) ?_
  refine h_mna (Y := YX1_init) (pc := 76) (b := 16) dX1_init_76 cl_mna ac_int (Nat.le_of_ble_eq_true rfl) (Nat.le_of_ble_eq_true rfl) (lT hl rfl) ?_
  refine g_ms (m2 := ms0 ++ ([(1, 0, upd (upd (upd (fun _ => 0) 0 0) 1 0) 2 0, va_up (va_up (va_up (va_up (va_up (va_up (fun _ => none) 3 (some 4)) 4 (some 5)) 5 (some 6)) 6 (some 7)) 7 (some 8)) 8 (some 9)), (14, 6, fun _ => 0, fun _ => none), (14, 6, fun _ => 0, fun _ => none), (14, 6, fun _ => 0, fun _ => none), (14, 6, fun _ => 0, fun _ => none), (14, 6, fun _ => 0, fun _ => none)] ++ mnaC 9 ++ mnaC 16)) (List.append_assoc _ _ _) ?_
  refine g_putRF (Y := YX1_init) (pc := 80) (ci := 1) (f := 9) dX1_init_80 ⟨(RX1, TX1, 11), rfl, by decide, (in_t1 140 rfl rfl)⟩ rfl (fun a => ⟨rfl, rfl⟩) rfl rfl ⟨_, rfl, rfl⟩ (gT0 hl rfl) rfl ?_
  refine g_ms (m2 := ms0 ++ ([(1, 0, upd (upd (upd (fun _ => 0) 0 0) 1 0) 2 0, va_up (va_up (va_up (va_up (va_up (va_up (va_up (fun _ => none) 3 (some 4)) 4 (some 5)) 5 (some 6)) 6 (some 7)) 7 (some 8)) 8 (some 9)) 9 (some 16)), (14, 6, fun _ => 0, fun _ => none), (14, 6, fun _ => 0, fun _ => none), (14, 6, fun _ => 0, fun _ => none), (14, 6, fun _ => 0, fun _ => none), (14, 6, fun _ => 0, fun _ => none)] ++ mnaC 9 ++ mnaC 16)) (sT0 hl rfl) ?_
  refine g_aload_n (Y := YX1_init) (pc := 83) 0 dX1_init_83 rfl ?_
  refine h_new (Y := YX1_init) (pc := 84) (ci := 3) (q := (RX3, TX3, 13)) (b := 23) dX1_init_84 rfl (in_t1 60 rfl rfl) (in_t1 61 rfl rfl) ini_X3 (Nat.le_of_ble_eq_true rfl) (Nat.le_of_ble_eq_true rfl) (lT hl rfl) ?_
  refine g_dup (Y := YX1_init) (pc := 87) dX1_init_87 rfl ?_
  refine g_callI (Y := YX1_init) (pc := 88) (as := []) (st := [.ref 23, .ref 3]) (r_X3_init (ms0 := ms0 ++ ([(1, 0, upd (upd (upd (fun _ => 0) 0 0) 1 0) 2 0, va_up (va_up (va_up (va_up (va_up (va_up (va_up (fun _ => none) 3 (some 4)) 4 (some 5)) 5 (some 6)) 6 (some 7)) 7 (some 8)) 8 (some 9)) 9 (some 16)), (14, 6, fun _ => 0, fun _ => none), (14, 6, fun _ => 0, fun _ => none), (14, 6, fun _ => 0, fun _ => none), (14, 6, fun _ => 0, fun _ => none), (14, 6, fun _ => 0, fun _ => none)] ++ mnaC 9 ++ mnaC 16)) (lT hl rfl)) mo_X3_init rfl rfl (in_t1 62 rfl rfl) (in_t1 63 rfl rfl) dX1_init_88 rfl (Nat.le_of_ble_eq_true rfl) (Nat.le_of_ble_eq_true rfl) (Nat.le_of_ble_eq_true rfl) (Nat.le_of_ble_eq_true rfl) (Nat.le_of_ble_eq_true rfl) rfl ?_
  refine g_ms (m2 := ms0 ++ ([(1, 0, upd (upd (upd (fun _ => 0) 0 0) 1 0) 2 0, va_up (va_up (va_up (va_up (va_up (va_up (va_up (fun _ => none) 3 (some 4)) 4 (some 5)) 5 (some 6)) 6 (some 7)) 7 (some 8)) 8 (some 9)) 9 (some 16)), (14, 6, fun _ => 0, fun _ => none), (14, 6, fun _ => 0, fun _ => none), (14, 6, fun _ => 0, fun _ => none), (14, 6, fun _ => 0, fun _ => none), (14, 6, fun _ => 0, fun _ => none)] ++ mnaC 9 ++ mnaC 16 ++ lwC)) (List.append_assoc _ _ _) ?_
  refine g_putRF (Y := YX1_init) (pc := 91) (ci := 1) (f := 10) dX1_init_91 ⟨(RX1, TX1, 11), rfl, by decide, (in_t1 142 rfl rfl)⟩ rfl (fun a => ⟨rfl, rfl⟩) rfl rfl ⟨_, rfl, rfl⟩ (gT0 hl rfl) rfl ?_
  refine g_ms (m2 := ms0 ++ ([(1, 0, upd (upd (upd (fun _ => 0) 0 0) 1 0) 2 0, va_up (va_up (va_up (va_up (va_up (va_up (va_up (va_up (fun _ => none) 3 (some 4)) 4 (some 5)) 5 (some 6)) 6 (some 7)) 7 (some 8)) 8 (some 9)) 9 (some 16)) 10 (some 23)), (14, 6, fun _ => 0, fun _ => none), (14, 6, fun _ => 0, fun _ => none), (14, 6, fun _ => 0, fun _ => none), (14, 6, fun _ => 0, fun _ => none), (14, 6, fun _ => 0, fun _ => none)] ++ mnaC 9 ++ mnaC 16 ++ lwC)) (sT0 hl rfl) ?_
  exact g_vret dX1_init_94 rfl (Nat.le_of_ble_eq_true rfl) (Nat.le_of_ble_eq_true rfl)
abbrev YX4_init : MRec := (yX4_init, cX4_init, 3, none)
set_option maxRecDepth 100000 in
theorem mo_X4_init : MOK YX4_init 2 := ⟨(in_t1 171 rfl rfl), ini_X4, pl_X4, ⟨nh_X4.1, nh_X4.2, rfl⟩, by decide⟩
theorem dX4_init_0 : decode cX4_init 0 = .ok (.aload_n 0, 1) := by decide +kernel
theorem dX4_init_1 : decode cX4_init 1 = .ok (.invokespecial 3, 3) := by decide +kernel
theorem dX4_init_4 : decode cX4_init 4 = .ok (.aload_n 0, 1) := by decide +kernel
theorem dX4_init_5 : decode cX4_init 5 = .ok (.aload_n 1, 1) := by decide +kernel
theorem dX4_init_6 : decode cX4_init 6 = .ok (.putfield 9, 3) := by decide +kernel
theorem dX4_init_9 : decode cX4_init 9 = .ok (.aload_n 0, 1) := by decide +kernel
theorem dX4_init_10 : decode cX4_init 10 = .ok (.aload_n 2, 1) := by decide +kernel
theorem dX4_init_11 : decode cX4_init 11 = .ok (.putfield 15, 3) := by decide +kernel
theorem dX4_init_14 : decode cX4_init 14 = .ok (.aload_n 0, 1) := by decide +kernel
theorem dX4_init_15 : decode cX4_init 15 = .ok (.iconst 0, 1) := by decide +kernel
theorem dX4_init_16 : decode cX4_init 16 = .ok (.putfield 19, 3) := by decide +kernel
theorem dX4_init_19 : decode cX4_init 19 = .ok (.return_, 1) := by decide +kernel
def liC : Mm := [(4, 0, upd (fun _ => 0) 2 0, va_up (va_up (fun _ => none) 0 (some 1)) 1 (some 3))]
set_option maxRecDepth 100000 in
set_option maxHeartbeats 4000000 in
theorem r_X4_init {l : Launch} {D : va_G} {cy : Nat → ClassId} {ad : Nat → Nat} {h : Nat} {ms0 : Mm} (hl : ms0.length = 25) : Run l D cy ad (some h) YX4_init 1 0 0 [.ref 25, .ref 1, .ref 3] (ms0 ++ [(4, 0, fun _ => 0, fun _ => none)]) none (ms0 ++ liC) := by
  refine Run.of 2 mo_X4_init (Nat.le_of_ble_eq_true rfl) ?_
  refine g_aload_n (Y := YX4_init) (pc := 0) 0 dX4_init_0 rfl ?_
  refine g_objInit (Y := YX4_init) (pc := 1) dX4_init_1 (in_t1 172 rfl rfl) w_obj (Nat.le_of_ble_eq_true rfl) (Nat.le_of_ble_eq_true rfl) (Nat.le_of_ble_eq_true rfl) ?_
  refine g_aload_n (Y := YX4_init) (pc := 4) 0 dX4_init_4 rfl ?_
  refine g_aload_n (Y := YX4_init) (pc := 5) 1 dX4_init_5 rfl ?_
  refine g_putRF (Y := YX4_init) (pc := 6) (ci := 4) (f := 0) dX4_init_6 ⟨(RX4, TX4, 3), rfl, by decide, (in_t1 173 rfl rfl)⟩ rfl (fun a => ⟨rfl, rfl⟩) rfl rfl ⟨_, rfl, rfl⟩ (gT0 hl rfl) rfl ?_
  refine g_ms (m2 := ms0 ++ [(4, 0, fun _ => 0, va_up (fun _ => none) 0 (some 1))]) (sT0 hl rfl) ?_
  refine g_aload_n (Y := YX4_init) (pc := 9) 0 dX4_init_9 rfl ?_
  refine g_aload_n (Y := YX4_init) (pc := 10) 2 dX4_init_10 rfl ?_
  refine g_putRF (Y := YX4_init) (pc := 11) (ci := 4) (f := 1) dX4_init_11 ⟨(RX4, TX4, 3), rfl, by decide, (in_t1 174 rfl rfl)⟩ rfl (fun a => ⟨rfl, rfl⟩) rfl rfl ⟨_, rfl, rfl⟩ (gT0 hl rfl) rfl ?_
  refine g_ms (m2 := ms0 ++ [(4, 0, fun _ => 0, va_up (va_up (fun _ => none) 0 (some 1)) 1 (some 3))]) (sT0 hl rfl) ?_
  refine g_aload_n (Y := YX4_init) (pc := 14) 0 dX4_init_14 rfl ?_
  refine g_iconst (Y := YX4_init) (pc := 15) (v := 0) dX4_init_15 (by decide) ?_
  refine g_putI (Y := YX4_init) (pc := 16) (ci := 4) (f := 2) dX4_init_16 ⟨(RX4, TX4, 3), rfl, by decide, (in_t1 175 rfl rfl)⟩ (Or.inl rfl) rfl (gT0 hl rfl) rfl ?_
  refine g_ms (m2 := ms0 ++ [(4, 0, upd (fun _ => 0) 2 0, va_up (va_up (fun _ => none) 0 (some 1)) 1 (some 3))]) (sT0 hl rfl) ?_
  exact g_vret dX4_init_19 rfl (Nat.le_of_ble_eq_true rfl) (Nat.le_of_ble_eq_true rfl)
abbrev YX6_init : MRec := (yX6_init, cX6_init, 2, none)
set_option maxRecDepth 100000 in
theorem mo_X6_init : MOK YX6_init 0 := ⟨(in_t1 238 rfl rfl), ini_X6, pl_X6, ⟨nh_X6.1, nh_X6.2, rfl⟩, by decide⟩
theorem dX6_init_0 : decode cX6_init 0 = .ok (.aload_n 0, 1) := by decide +kernel
theorem dX6_init_1 : decode cX6_init 1 = .ok (.invokespecial 3, 3) := by decide +kernel
theorem dX6_init_4 : decode cX6_init 4 = .ok (.aload_n 0, 1) := by decide +kernel
theorem dX6_init_5 : decode cX6_init 5 = .ok (.bipush 12, 2) := by decide +kernel
theorem dX6_init_7 : decode cX6_init 7 = .ok (.anewarray 9, 3) := by decide +kernel
theorem dX6_init_10 : decode cX6_init 10 = .ok (.putfield 11, 3) := by decide +kernel
theorem dX6_init_13 : decode cX6_init 13 = .ok (.iconst 0, 1) := by decide +kernel
theorem dX6_init_14 : decode cX6_init 14 = .ok (.istore_n 1, 1) := by decide +kernel
theorem dX6_init_15 : decode cX6_init 15 = .ok (.iload_n 1, 1) := by decide +kernel
theorem dX6_init_16 : decode cX6_init 16 = .ok (.bipush 12, 2) := by decide +kernel
theorem dX6_init_18 : decode cX6_init 18 = .ok (.if_icmp .ge 22, 3) := by decide +kernel
theorem dX6_init_21 : decode cX6_init 21 = .ok (.aload_n 0, 1) := by decide +kernel
theorem dX6_init_22 : decode cX6_init 22 = .ok (.getfield 11, 3) := by decide +kernel
theorem dX6_init_25 : decode cX6_init 25 = .ok (.iload_n 1, 1) := by decide +kernel
theorem dX6_init_26 : decode cX6_init 26 = .ok (.new 9, 3) := by decide +kernel
theorem dX6_init_29 : decode cX6_init 29 = .ok (.dup, 1) := by decide +kernel
theorem dX6_init_30 : decode cX6_init 30 = .ok (.invokespecial 17, 3) := by decide +kernel
theorem dX6_init_33 : decode cX6_init 33 = .ok (.aastore, 1) := by decide +kernel
theorem dX6_init_34 : decode cX6_init 34 = .ok (.iinc 1 1, 3) := by decide +kernel
theorem dX6_init_37 : decode cX6_init 37 = .ok (.goto (-22), 3) := by decide +kernel
theorem dX6_init_40 : decode cX6_init 40 = .ok (.aload_n 0, 1) := by decide +kernel
theorem dX6_init_41 : decode cX6_init 41 = .ok (.iconst 0, 1) := by decide +kernel
theorem dX6_init_42 : decode cX6_init 42 = .ok (.putfield 18, 3) := by decide +kernel
theorem dX6_init_45 : decode cX6_init 45 = .ok (.aload_n 0, 1) := by decide +kernel
theorem dX6_init_46 : decode cX6_init 46 = .ok (.iconst 0, 1) := by decide +kernel
theorem dX6_init_47 : decode cX6_init 47 = .ok (.putfield 22, 3) := by decide +kernel
theorem dX6_init_50 : decode cX6_init 50 = .ok (.return_, 1) := by decide +kernel
def paC : Mm := ([(6, 0, upd (upd (fun _ => 0) 1 0) 2 0, va_up (fun _ => none) 0 (some 47)), (16, 12, fun _ => 0, va_up (va_up (va_up (va_up (va_up (va_up (va_up (va_up (va_up (va_up (va_up (va_up (fun _ => none) 0 (some 48)) 1 (some 53)) 2 (some 58)) 3 (some 63)) 4 (some 68)) 5 (some 73)) 6 (some 78)) 7 (some 83)) 8 (some 88)) 9 (some 93)) 10 (some 98)) 11 (some 103))] ++ stC 48 ++ stC 53 ++ stC 58 ++ stC 63 ++ stC 68 ++ stC 73 ++ stC 78 ++ stC 83 ++ stC 88 ++ stC 93 ++ stC 98 ++ stC 103)
set_option maxRecDepth 100000 in
set_option maxHeartbeats 4000000 in
theorem r_X6_init {l : Launch} {D : va_G} {cy : Nat → ClassId} {ad : Nat → Nat} {h : Nat} {ms0 : Mm} (hl : ms0.length = 46) : Run l D cy ad (some h) YX6_init 2 61 396 [.ref 46] (ms0 ++ [(6, 0, fun _ => 0, fun _ => none)]) none (ms0 ++ paC) := by
  refine Run.of 0 mo_X6_init (Nat.le_of_ble_eq_true rfl) ?_
  refine g_aload_n (Y := YX6_init) (pc := 0) 0 dX6_init_0 rfl ?_
  refine g_objInit (Y := YX6_init) (pc := 1) dX6_init_1 (in_t1 239 rfl rfl) w_obj (Nat.le_of_ble_eq_true rfl) (Nat.le_of_ble_eq_true rfl) (Nat.le_of_ble_eq_true rfl) ?_
  refine g_aload_n (Y := YX6_init) (pc := 4) 0 dX6_init_4 rfl ?_
  refine g_bipush (Y := YX6_init) (pc := 5) (v := 12) dX6_init_5 (by decide) ?_
  refine h_newS (Y := YX6_init) (pc := 7) (b := 47) (N := 12) dX6_init_7 (in_t2 0 rfl rfl) (by decide) rfl (Nat.le_of_ble_eq_true rfl) (Nat.le_of_ble_eq_true rfl) (Nat.le_of_ble_eq_true rfl) (lT hl rfl) ?_
  refine g_ms (m2 := ms0 ++ [(6, 0, fun _ => 0, fun _ => none), (16, 12, fun _ => 0, fun _ => none)]) (List.append_assoc _ _ _) ?_
  refine g_putRF (Y := YX6_init) (pc := 10) (ci := 6) (f := 0) dX6_init_10 ⟨(RX6, TX6, 3), rfl, by decide, (in_t2 3 rfl rfl)⟩ rfl (fun a => ⟨rfl, rfl⟩) rfl rfl ⟨_, rfl, rfl⟩ (gT0 hl rfl) rfl ?_
  refine g_ms (m2 := ms0 ++ [(6, 0, fun _ => 0, va_up (fun _ => none) 0 (some 47)), (16, 12, fun _ => 0, fun _ => none)]) (sT0 hl rfl) ?_
  refine g_iconst (Y := YX6_init) (pc := 13) (v := 0) dX6_init_13 (by decide) ?_
  refine g_istore_n (Y := YX6_init) (pc := 14) (L' := [(1, .int 0), (0, .ref 46)]) dX6_init_14 (Nat.le_of_ble_eq_true rfl) rfl ?_
  refine g_iload_n (Y := YX6_init) (pc := 15) 0 dX6_init_15 rfl ?_
  refine g_bipush (Y := YX6_init) (pc := 16) (v := 12) dX6_init_16 (by decide) ?_
  refine g_icmp_ge (Y := YX6_init) (pc := 18) (tgt := 40) dX6_init_18 rfl (fun c9 => absurd (by decide) c9) (fun _ => ?_)
  refine g_aload_n (Y := YX6_init) (pc := 21) 1 dX6_init_21 rfl ?_
  refine h_getR (Y := YX6_init) (pc := 22) (ci := 6) (f := 0) (x := 47) dX6_init_22 ⟨(RX6, TX6, 3), rfl, by decide, (in_t2 3 rfl rfl)⟩ rfl (gT0 hl rfl) rfl rfl ?_
  refine g_iload_n (Y := YX6_init) (pc := 25) 0 dX6_init_25 rfl ?_
  refine h_new (Y := YX6_init) (pc := 26) (ci := 7) (q := (RX7, TX7, 8)) (b := 48) dX6_init_26 rfl (in_t2 0 rfl rfl) (in_t1 184 rfl rfl) ini_X7 (Nat.le_of_ble_eq_true rfl) (Nat.le_of_ble_eq_true rfl) (lT hl rfl) ?_
  refine g_dup (Y := YX6_init) (pc := 29) dX6_init_29 rfl ?_
  refine g_callI (Y := YX6_init) (pc := 30) (as := []) (st := [.ref 48, .int 0, .ref 47]) (r_X7_init (ms0 := ms0 ++ [(6, 0, fun _ => 0, va_up (fun _ => none) 0 (some 47)), (16, 12, fun _ => 0, fun _ => none)]) (b := 48) (lT hl rfl)) mo_X7_init rfl rfl (in_t2 2 rfl rfl) (in_t1 186 rfl rfl) dX6_init_30 rfl (Nat.le_of_ble_eq_true rfl) (Nat.le_of_ble_eq_true rfl) (Nat.le_of_ble_eq_true rfl) (Nat.le_of_ble_eq_true rfl) (Nat.le_of_ble_eq_true rfl) rfl ?_
  refine g_ms (m2 := ms0 ++ ([(6, 0, fun _ => 0, va_up (fun _ => none) 0 (some 47)), (16, 12, fun _ => 0, fun _ => none)] ++ stC 48)) (List.append_assoc _ _ _) ?_
  refine g_aastS (Y := YX6_init) (pc := 33) dX6_init_33 (gT (j := 1) hl rfl) rfl (gT (j := 2) hl rfl) rfl (by decide) (Nat.le_of_ble_eq_true rfl) ?_
  refine g_ms (m2 := ms0 ++ ([(6, 0, fun _ => 0, va_up (fun _ => none) 0 (some 47)), (16, 12, fun _ => 0, va_up (fun _ => none) 0 (some 48))] ++ stC 48)) (sT (j := 1) hl rfl) ?_
  refine g_iinc (Y := YX6_init) (pc := 34) (j := 0) (v := 1) (L' := [(1, .int 1), (0, .ref 46)]) dX6_init_34 rfl (by decide) (Nat.le_of_ble_eq_true rfl) rfl ?_
  refine g_goto (Y := YX6_init) (pc := 37) (tgt := 15) dX6_init_37 rfl ?_
  refine g_iload_n (Y := YX6_init) (pc := 15) 0 dX6_init_15 rfl ?_
  refine g_bipush (Y := YX6_init) (pc := 16) (v := 12) dX6_init_16 (by decide) ?_
  refine g_icmp_ge (Y := YX6_init) (pc := 18) (tgt := 40) dX6_init_18 rfl (fun c9 => absurd (by decide) c9) (fun _ => ?_)
  refine g_aload_n (Y := YX6_init) (pc := 21) 1 dX6_init_21 rfl ?_
  refine h_getR (Y := YX6_init) (pc := 22) (ci := 6) (f := 0) (x := 47) dX6_init_22 ⟨(RX6, TX6, 3), rfl, by decide, (in_t2 3 rfl rfl)⟩ rfl (gT0 hl rfl) rfl rfl ?_
  refine g_iload_n (Y := YX6_init) (pc := 25) 0 dX6_init_25 rfl ?_
  refine h_new (Y := YX6_init) (pc := 26) (ci := 7) (q := (RX7, TX7, 8)) (b := 53) dX6_init_26 rfl (in_t2 0 rfl rfl) (in_t1 184 rfl rfl) ini_X7 (Nat.le_of_ble_eq_true rfl) (Nat.le_of_ble_eq_true rfl) (lT hl rfl) ?_
  refine g_dup (Y := YX6_init) (pc := 29) dX6_init_29 rfl ?_
  refine g_callI (Y := YX6_init) (pc := 30) (as := []) (st := [.ref 53, .int 1, .ref 47]) (r_X7_init (ms0 := ms0 ++ ([(6, 0, fun _ => 0, va_up (fun _ => none) 0 (some 47)), (16, 12, fun _ => 0, va_up (fun _ => none) 0 (some 48))] ++ stC 48)) (b := 53) (lT hl rfl)) mo_X7_init rfl rfl (in_t2 2 rfl rfl) (in_t1 186 rfl rfl) dX6_init_30 rfl (Nat.le_of_ble_eq_true rfl) (Nat.le_of_ble_eq_true rfl) (Nat.le_of_ble_eq_true rfl) (Nat.le_of_ble_eq_true rfl) (Nat.le_of_ble_eq_true rfl) rfl ?_
  refine g_ms (m2 := ms0 ++ ([(6, 0, fun _ => 0, va_up (fun _ => none) 0 (some 47)), (16, 12, fun _ => 0, va_up (fun _ => none) 0 (some 48))] ++ stC 48 ++ stC 53)) (List.append_assoc _ _ _) ?_
  refine g_aastS (Y := YX6_init) (pc := 33) dX6_init_33 (gT (j := 1) hl rfl) rfl (gT (j := 7) hl rfl) rfl (by decide) (Nat.le_of_ble_eq_true rfl) ?_
  refine g_ms (m2 := ms0 ++ ([(6, 0, fun _ => 0, va_up (fun _ => none) 0 (some 47)), (16, 12, fun _ => 0, va_up (va_up (fun _ => none) 0 (some 48)) 1 (some 53))] ++ stC 48 ++ stC 53)) (sT (j := 1) hl rfl) ?_
  refine g_iinc (Y := YX6_init) (pc := 34) (j := 0) (v := 2) (L' := [(1, .int 2), (0, .ref 46)]) dX6_init_34 rfl (by decide) (Nat.le_of_ble_eq_true rfl) rfl ?_
  refine g_goto (Y := YX6_init) (pc := 37) (tgt := 15) dX6_init_37 rfl ?_
  refine g_iload_n (Y := YX6_init) (pc := 15) 0 dX6_init_15 rfl ?_
  refine g_bipush (Y := YX6_init) (pc := 16) (v := 12) dX6_init_16 (by decide) ?_
  refine g_icmp_ge (Y := YX6_init) (pc := 18) (tgt := 40) dX6_init_18 rfl (fun c9 => absurd (by decide) c9) (fun _ => ?_)
  refine g_aload_n (Y := YX6_init) (pc := 21) 1 dX6_init_21 rfl ?_
  refine h_getR (Y := YX6_init) (pc := 22) (ci := 6) (f := 0) (x := 47) dX6_init_22 ⟨(RX6, TX6, 3), rfl, by decide, (in_t2 3 rfl rfl)⟩ rfl (gT0 hl rfl) rfl rfl ?_
  refine g_iload_n (Y := YX6_init) (pc := 25) 0 dX6_init_25 rfl ?_
  refine h_new (Y := YX6_init) (pc := 26) (ci := 7) (q := (RX7, TX7, 8)) (b := 58) dX6_init_26 rfl (in_t2 0 rfl rfl) (in_t1 184 rfl rfl) ini_X7 (Nat.le_of_ble_eq_true rfl) (Nat.le_of_ble_eq_true rfl) (lT hl rfl) ?_
  refine g_dup (Y := YX6_init) (pc := 29) dX6_init_29 rfl ?_
  refine g_callI (Y := YX6_init) (pc := 30) (as := []) (st := [.ref 58, .int 2, .ref 47]) (r_X7_init (ms0 := ms0 ++ ([(6, 0, fun _ => 0, va_up (fun _ => none) 0 (some 47)), (16, 12, fun _ => 0, va_up (va_up (fun _ => none) 0 (some 48)) 1 (some 53))] ++ stC 48 ++ stC 53)) (b := 58) (lT hl rfl)) mo_X7_init rfl rfl (in_t2 2 rfl rfl) (in_t1 186 rfl rfl) dX6_init_30 rfl (Nat.le_of_ble_eq_true rfl) (Nat.le_of_ble_eq_true rfl) (Nat.le_of_ble_eq_true rfl) (Nat.le_of_ble_eq_true rfl) (Nat.le_of_ble_eq_true rfl) rfl ?_
  refine g_ms (m2 := ms0 ++ ([(6, 0, fun _ => 0, va_up (fun _ => none) 0 (some 47)), (16, 12, fun _ => 0, va_up (va_up (fun _ => none) 0 (some 48)) 1 (some 53))] ++ stC 48 ++ stC 53 ++ stC 58)) (List.append_assoc _ _ _) ?_
  refine g_aastS (Y := YX6_init) (pc := 33) dX6_init_33 (gT (j := 1) hl rfl) rfl (gT (j := 12) hl rfl) rfl (by decide) (Nat.le_of_ble_eq_true rfl) ?_
  refine g_ms (m2 := ms0 ++ ([(6, 0, fun _ => 0, va_up (fun _ => none) 0 (some 47)), (16, 12, fun _ => 0, va_up (va_up (va_up (fun _ => none) 0 (some 48)) 1 (some 53)) 2 (some 58))] ++ stC 48 ++ stC 53 ++ stC 58)) (sT (j := 1) hl rfl) ?_
  refine g_iinc (Y := YX6_init) (pc := 34) (j := 0) (v := 3) (L' := [(1, .int 3), (0, .ref 46)]) dX6_init_34 rfl (by decide) (Nat.le_of_ble_eq_true rfl) rfl ?_
  refine g_goto (Y := YX6_init) (pc := 37) (tgt := 15) dX6_init_37 rfl ?_
  refine g_iload_n (Y := YX6_init) (pc := 15) 0 dX6_init_15 rfl ?_
  refine g_bipush (Y := YX6_init) (pc := 16) (v := 12) dX6_init_16 (by decide) ?_
  refine g_icmp_ge (Y := YX6_init) (pc := 18) (tgt := 40) dX6_init_18 rfl (fun c9 => absurd (by decide) c9) (fun _ => ?_)
  refine g_aload_n (Y := YX6_init) (pc := 21) 1 dX6_init_21 rfl ?_
  refine h_getR (Y := YX6_init) (pc := 22) (ci := 6) (f := 0) (x := 47) dX6_init_22 ⟨(RX6, TX6, 3), rfl, by decide, (in_t2 3 rfl rfl)⟩ rfl (gT0 hl rfl) rfl rfl ?_
  refine g_iload_n (Y := YX6_init) (pc := 25) 0 dX6_init_25 rfl ?_
  refine h_new (Y := YX6_init) (pc := 26) (ci := 7) (q := (RX7, TX7, 8)) (b := 63) dX6_init_26 rfl (in_t2 0 rfl rfl) (in_t1 184 rfl rfl) ini_X7 (Nat.le_of_ble_eq_true rfl) (Nat.le_of_ble_eq_true rfl) (lT hl rfl) ?_
  refine g_dup (Y := YX6_init) (pc := 29) dX6_init_29 rfl ?_
  refine g_callI (Y := YX6_init) (pc := 30) (as := []) (st := [.ref 63, .int 3, .ref 47]) (r_X7_init (ms0 := ms0 ++ ([(6, 0, fun _ => 0, va_up (fun _ => none) 0 (some 47)), (16, 12, fun _ => 0, va_up (va_up (va_up (fun _ => none) 0 (some 48)) 1 (some 53)) 2 (some 58))] ++ stC 48 ++ stC 53 ++ stC 58)) (b := 63) (lT hl rfl)) mo_X7_init rfl rfl (in_t2 2 rfl rfl) (in_t1 186 rfl rfl) dX6_init_30 rfl (Nat.le_of_ble_eq_true rfl) (Nat.le_of_ble_eq_true rfl) (Nat.le_of_ble_eq_true rfl) (Nat.le_of_ble_eq_true rfl) (Nat.le_of_ble_eq_true rfl) rfl ?_
  refine g_ms (m2 := ms0 ++ ([(6, 0, fun _ => 0, va_up (fun _ => none) 0 (some 47)), (16, 12, fun _ => 0, va_up (va_up (va_up (fun _ => none) 0 (some 48)) 1 (some 53)) 2 (some 58))] ++ stC 48 ++ stC 53 ++ stC 58 ++ stC 63)) (List.append_assoc _ _ _) ?_
  refine g_aastS (Y := YX6_init) (pc := 33) dX6_init_33 (gT (j := 1) hl rfl) rfl (gT (j := 17) hl rfl) rfl (by decide) (Nat.le_of_ble_eq_true rfl) ?_
  refine g_ms (m2 := ms0 ++ ([(6, 0, fun _ => 0, va_up (fun _ => none) 0 (some 47)), (16, 12, fun _ => 0, va_up (va_up (va_up (va_up (fun _ => none) 0 (some 48)) 1 (some 53)) 2 (some 58)) 3 (some 63))] ++ stC 48 ++ stC 53 ++ stC 58 ++ stC 63)) (sT (j := 1) hl rfl) ?_
  refine g_iinc (Y := YX6_init) (pc := 34) (j := 0) (v := 4) (L' := [(1, .int 4), (0, .ref 46)]) dX6_init_34 rfl (by decide) (Nat.le_of_ble_eq_true rfl) rfl ?_
  refine g_goto (Y := YX6_init) (pc := 37) (tgt := 15) dX6_init_37 rfl ?_
  refine g_iload_n (Y := YX6_init) (pc := 15) 0 dX6_init_15 rfl ?_
  refine g_bipush (Y := YX6_init) (pc := 16) (v := 12) dX6_init_16 (by decide) ?_
  refine g_icmp_ge (Y := YX6_init) (pc := 18) (tgt := 40) dX6_init_18 rfl (fun c9 => absurd (by decide) c9) (fun _ => ?_)
  refine g_aload_n (Y := YX6_init) (pc := 21) 1 dX6_init_21 rfl ?_
  refine h_getR (Y := YX6_init) (pc := 22) (ci := 6) (f := 0) (x := 47) dX6_init_22 ⟨(RX6, TX6, 3), rfl, by decide, (in_t2 3 rfl rfl)⟩ rfl (gT0 hl rfl) rfl rfl ?_
  refine g_iload_n (Y := YX6_init) (pc := 25) 0 dX6_init_25 rfl ?_
  refine h_new (Y := YX6_init) (pc := 26) (ci := 7) (q := (RX7, TX7, 8)) (b := 68) dX6_init_26 rfl (in_t2 0 rfl rfl) (in_t1 184 rfl rfl) ini_X7 (Nat.le_of_ble_eq_true rfl) (Nat.le_of_ble_eq_true rfl) (lT hl rfl) ?_
  refine g_dup (Y := YX6_init) (pc := 29) dX6_init_29 rfl ?_
  refine g_callI (Y := YX6_init) (pc := 30) (as := []) (st := [.ref 68, .int 4, .ref 47]) (r_X7_init (ms0 := ms0 ++ ([(6, 0, fun _ => 0, va_up (fun _ => none) 0 (some 47)), (16, 12, fun _ => 0, va_up (va_up (va_up (va_up (fun _ => none) 0 (some 48)) 1 (some 53)) 2 (some 58)) 3 (some 63))] ++ stC 48 ++ stC 53 ++ stC 58 ++ stC 63)) (b := 68) (lT hl rfl)) mo_X7_init rfl rfl (in_t2 2 rfl rfl) (in_t1 186 rfl rfl) dX6_init_30 rfl (Nat.le_of_ble_eq_true rfl) (Nat.le_of_ble_eq_true rfl) (Nat.le_of_ble_eq_true rfl) (Nat.le_of_ble_eq_true rfl) (Nat.le_of_ble_eq_true rfl) rfl ?_
  refine g_ms (m2 := ms0 ++ ([(6, 0, fun _ => 0, va_up (fun _ => none) 0 (some 47)), (16, 12, fun _ => 0, va_up (va_up (va_up (va_up (fun _ => none) 0 (some 48)) 1 (some 53)) 2 (some 58)) 3 (some 63))] ++ stC 48 ++ stC 53 ++ stC 58 ++ stC 63 ++ stC 68)) (List.append_assoc _ _ _) ?_
  refine g_aastS (Y := YX6_init) (pc := 33) dX6_init_33 (gT (j := 1) hl rfl) rfl (gT (j := 22) hl rfl) rfl (by decide) (Nat.le_of_ble_eq_true rfl) ?_
  refine g_ms (m2 := ms0 ++ ([(6, 0, fun _ => 0, va_up (fun _ => none) 0 (some 47)), (16, 12, fun _ => 0, va_up (va_up (va_up (va_up (va_up (fun _ => none) 0 (some 48)) 1 (some 53)) 2 (some 58)) 3 (some 63)) 4 (some 68))] ++ stC 48 ++ stC 53 ++ stC 58 ++ stC 63 ++ stC 68)) (sT (j := 1) hl rfl) ?_
  refine g_iinc (Y := YX6_init) (pc := 34) (j := 0) (v := 5) (L' := [(1, .int 5), (0, .ref 46)]) dX6_init_34 rfl (by decide) (Nat.le_of_ble_eq_true rfl) rfl ?_
  refine g_goto (Y := YX6_init) (pc := 37) (tgt := 15) dX6_init_37 rfl ?_
  refine g_iload_n (Y := YX6_init) (pc := 15) 0 dX6_init_15 rfl ?_
  refine g_bipush (Y := YX6_init) (pc := 16) (v := 12) dX6_init_16 (by decide) ?_
  refine g_icmp_ge (Y := YX6_init) (pc := 18) (tgt := 40) dX6_init_18 rfl (fun c9 => absurd (by decide) c9) (fun _ => ?_)
  refine g_aload_n (Y := YX6_init) (pc := 21) 1 dX6_init_21 rfl ?_
  refine h_getR (Y := YX6_init) (pc := 22) (ci := 6) (f := 0) (x := 47) dX6_init_22 ⟨(RX6, TX6, 3), rfl, by decide, (in_t2 3 rfl rfl)⟩ rfl (gT0 hl rfl) rfl rfl ?_
  refine g_iload_n (Y := YX6_init) (pc := 25) 0 dX6_init_25 rfl ?_
  refine h_new (Y := YX6_init) (pc := 26) (ci := 7) (q := (RX7, TX7, 8)) (b := 73) dX6_init_26 rfl (in_t2 0 rfl rfl) (in_t1 184 rfl rfl) ini_X7 (Nat.le_of_ble_eq_true rfl) (Nat.le_of_ble_eq_true rfl) (lT hl rfl) ?_
  refine g_dup (Y := YX6_init) (pc := 29) dX6_init_29 rfl ?_
  refine g_callI (Y := YX6_init) (pc := 30) (as := []) (st := [.ref 73, .int 5, .ref 47]) (r_X7_init (ms0 := ms0 ++ ([(6, 0, fun _ => 0, va_up (fun _ => none) 0 (some 47)), (16, 12, fun _ => 0, va_up (va_up (va_up (va_up (va_up (fun _ => none) 0 (some 48)) 1 (some 53)) 2 (some 58)) 3 (some 63)) 4 (some 68))] ++ stC 48 ++ stC 53 ++ stC 58 ++ stC 63 ++ stC 68)) (b := 73) (lT hl rfl)) mo_X7_init rfl rfl (in_t2 2 rfl rfl) (in_t1 186 rfl rfl) dX6_init_30 rfl (Nat.le_of_ble_eq_true rfl) (Nat.le_of_ble_eq_true rfl) (Nat.le_of_ble_eq_true rfl) (Nat.le_of_ble_eq_true rfl) (Nat.le_of_ble_eq_true rfl) rfl ?_
  refine g_ms (m2 := ms0 ++ ([(6, 0, fun _ => 0, va_up (fun _ => none) 0 (some 47)), (16, 12, fun _ => 0, va_up (va_up (va_up (va_up (va_up (fun _ => none) 0 (some 48)) 1 (some 53)) 2 (some 58)) 3 (some 63)) 4 (some 68))] ++ stC 48 ++ stC 53 ++ stC 58 ++ stC 63 ++ stC 68 ++ stC 73)) (List.append_assoc _ _ _) ?_
  refine g_aastS (Y := YX6_init) (pc := 33) dX6_init_33 (gT (j := 1) hl rfl) rfl (gT (j := 27) hl rfl) rfl (by decide) (Nat.le_of_ble_eq_true rfl) ?_
  refine g_ms (m2 := ms0 ++ ([(6, 0, fun _ => 0, va_up (fun _ => none) 0 (some 47)), (16, 12, fun _ => 0, va_up (va_up (va_up (va_up (va_up (va_up (fun _ => none) 0 (some 48)) 1 (some 53)) 2 (some 58)) 3 (some 63)) 4 (some 68)) 5 (some 73))] ++ stC 48 ++ stC 53 ++ stC 58 ++ stC 63 ++ stC 68 ++ stC 73)) (sT (j := 1) hl rfl) ?_
  refine g_iinc (Y := YX6_init) (pc := 34) (j := 0) (v := 6) (L' := [(1, .int 6), (0, .ref 46)]) dX6_init_34 rfl (by decide) (Nat.le_of_ble_eq_true rfl) rfl ?_
  refine g_goto (Y := YX6_init) (pc := 37) (tgt := 15) dX6_init_37 rfl ?_
  refine g_iload_n (Y := YX6_init) (pc := 15) 0 dX6_init_15 rfl ?_
  refine g_bipush (Y := YX6_init) (pc := 16) (v := 12) dX6_init_16 (by decide) ?_
  refine g_icmp_ge (Y := YX6_init) (pc := 18) (tgt := 40) dX6_init_18 rfl (fun c9 => absurd (by decide) c9) (fun _ => ?_)
  refine g_aload_n (Y := YX6_init) (pc := 21) 1 dX6_init_21 rfl ?_
  refine h_getR (Y := YX6_init) (pc := 22) (ci := 6) (f := 0) (x := 47) dX6_init_22 ⟨(RX6, TX6, 3), rfl, by decide, (in_t2 3 rfl rfl)⟩ rfl (gT0 hl rfl) rfl rfl ?_
  refine g_iload_n (Y := YX6_init) (pc := 25) 0 dX6_init_25 rfl ?_
  refine h_new (Y := YX6_init) (pc := 26) (ci := 7) (q := (RX7, TX7, 8)) (b := 78) dX6_init_26 rfl (in_t2 0 rfl rfl) (in_t1 184 rfl rfl) ini_X7 (Nat.le_of_ble_eq_true rfl) (Nat.le_of_ble_eq_true rfl) (lT hl rfl) ?_
  refine g_dup (Y := YX6_init) (pc := 29) dX6_init_29 rfl ?_
  refine g_callI (Y := YX6_init) (pc := 30) (as := []) (st := [.ref 78, .int 6, .ref 47]) (r_X7_init (ms0 := ms0 ++ ([(6, 0, fun _ => 0, va_up (fun _ => none) 0 (some 47)), (16, 12, fun _ => 0, va_up (va_up (va_up (va_up (va_up (va_up (fun _ => none) 0 (some 48)) 1 (some 53)) 2 (some 58)) 3 (some 63)) 4 (some 68)) 5 (some 73))] ++ stC 48 ++ stC 53 ++ stC 58 ++ stC 63 ++ stC 68 ++ stC 73)) (b := 78) (lT hl rfl)) mo_X7_init rfl rfl (in_t2 2 rfl rfl) (in_t1 186 rfl rfl) dX6_init_30 rfl (Nat.le_of_ble_eq_true rfl) (Nat.le_of_ble_eq_true rfl) (Nat.le_of_ble_eq_true rfl) (Nat.le_of_ble_eq_true rfl) (Nat.le_of_ble_eq_true rfl) rfl ?_
  refine g_ms (m2 := ms0 ++ ([(6, 0, fun _ => 0, va_up (fun _ => none) 0 (some 47)), (16, 12, fun _ => 0, va_up (va_up (va_up (va_up (va_up (va_up (fun _ => none) 0 (some 48)) 1 (some 53)) 2 (some 58)) 3 (some 63)) 4 (some 68)) 5 (some 73))] ++ stC 48 ++ stC 53 ++ stC 58 ++ stC 63 ++ stC 68 ++ stC 73 ++ stC 78)) (List.append_assoc _ _ _) ?_
  refine g_aastS (Y := YX6_init) (pc := 33) dX6_init_33 (gT (j := 1) hl rfl) rfl (gT (j := 32) hl rfl) rfl (by decide) (Nat.le_of_ble_eq_true rfl) ?_
  refine g_ms (m2 := ms0 ++ ([(6, 0, fun _ => 0, va_up (fun _ => none) 0 (some 47)), (16, 12, fun _ => 0, va_up (va_up (va_up (va_up (va_up (va_up (va_up (fun _ => none) 0 (some 48)) 1 (some 53)) 2 (some 58)) 3 (some 63)) 4 (some 68)) 5 (some 73)) 6 (some 78))] ++ stC 48 ++ stC 53 ++ stC 58 ++ stC 63 ++ stC 68 ++ stC 73 ++ stC 78)) (sT (j := 1) hl rfl) ?_
  refine g_iinc (Y := YX6_init) (pc := 34) (j := 0) (v := 7) (L' := [(1, .int 7), (0, .ref 46)]) dX6_init_34 rfl (by decide) (Nat.le_of_ble_eq_true rfl) rfl ?_
  refine g_goto (Y := YX6_init) (pc := 37) (tgt := 15) dX6_init_37 rfl ?_
  refine g_iload_n (Y := YX6_init) (pc := 15) 0 dX6_init_15 rfl ?_
  refine g_bipush (Y := YX6_init) (pc := 16) (v := 12) dX6_init_16 (by decide) ?_
  refine g_icmp_ge (Y := YX6_init) (pc := 18) (tgt := 40) dX6_init_18 rfl (fun c9 => absurd (by decide) c9) (fun _ => ?_)
  refine g_aload_n (Y := YX6_init) (pc := 21) 1 dX6_init_21 rfl ?_
  refine h_getR (Y := YX6_init) (pc := 22) (ci := 6) (f := 0) (x := 47) dX6_init_22 ⟨(RX6, TX6, 3), rfl, by decide, (in_t2 3 rfl rfl)⟩ rfl (gT0 hl rfl) rfl rfl ?_
  refine g_iload_n (Y := YX6_init) (pc := 25) 0 dX6_init_25 rfl ?_
  refine h_new (Y := YX6_init) (pc := 26) (ci := 7) (q := (RX7, TX7, 8)) (b := 83) dX6_init_26 rfl (in_t2 0 rfl rfl) (in_t1 184 rfl rfl) ini_X7 (Nat.le_of_ble_eq_true rfl) (Nat.le_of_ble_eq_true rfl) (lT hl rfl) ?_
  refine g_dup (Y := YX6_init) (pc := 29) dX6_init_29 rfl ?_
  refine g_callI (Y := YX6_init) (pc := 30) (as := []) (st := [.ref 83, .int 7, .ref 47]) (r_X7_init (ms0 := ms0 ++ ([(6, 0, fun _ => 0, va_up (fun _ => none) 0 (some 47)), (16, 12, fun _ => 0, va_up (va_up (va_up (va_up (va_up (va_up (va_up (fun _ => none) 0 (some 48)) 1 (some 53)) 2 (some 58)) 3 (some 63)) 4 (some 68)) 5 (some 73)) 6 (some 78))] ++ stC 48 ++ stC 53 ++ stC 58 ++ stC 63 ++ stC 68 ++ stC 73 ++ stC 78)) (b := 83) (lT hl rfl)) mo_X7_init rfl rfl (in_t2 2 rfl rfl) (in_t1 186 rfl rfl) dX6_init_30 rfl (Nat.le_of_ble_eq_true rfl) (Nat.le_of_ble_eq_true rfl) (Nat.le_of_ble_eq_true rfl) (Nat.le_of_ble_eq_true rfl) (Nat.le_of_ble_eq_true rfl) rfl ?_
  refine g_ms (m2 := ms0 ++ ([(6, 0, fun _ => 0, va_up (fun _ => none) 0 (some 47)), (16, 12, fun _ => 0, va_up (va_up (va_up (va_up (va_up (va_up (va_up (fun _ => none) 0 (some 48)) 1 (some 53)) 2 (some 58)) 3 (some 63)) 4 (some 68)) 5 (some 73)) 6 (some 78))] ++ stC 48 ++ stC 53 ++ stC 58 ++ stC 63 ++ stC 68 ++ stC 73 ++ stC 78 ++ stC 83)) (List.append_assoc _ _ _) ?_
  refine g_aastS (Y := YX6_init) (pc := 33) dX6_init_33 (gT (j := 1) hl rfl) rfl (gT (j := 37) hl rfl) rfl (by decide) (Nat.le_of_ble_eq_true rfl) ?_
  refine g_ms (m2 := ms0 ++ ([(6, 0, fun _ => 0, va_up (fun _ => none) 0 (some 47)), (16, 12, fun _ => 0, va_up (va_up (va_up (va_up (va_up (va_up (va_up (va_up (fun _ => none) 0 (some 48)) 1 (some 53)) 2 (some 58)) 3 (some 63)) 4 (some 68)) 5 (some 73)) 6 (some 78)) 7 (some 83))] ++ stC 48 ++ stC 53 ++ stC 58 ++ stC 63 ++ stC 68 ++ stC 73 ++ stC 78 ++ stC 83)) (sT (j := 1) hl rfl) ?_
  refine g_iinc (Y := YX6_init) (pc := 34) (j := 0) (v := 8) (L' := [(1, .int 8), (0, .ref 46)]) dX6_init_34 rfl (by decide) (Nat.le_of_ble_eq_true rfl) rfl ?_
  refine g_goto (Y := YX6_init) (pc := 37) (tgt := 15) dX6_init_37 rfl ?_
  refine g_iload_n (Y := YX6_init) (pc := 15) 0 dX6_init_15 rfl ?_
  refine g_bipush (Y := YX6_init) (pc := 16) (v := 12) dX6_init_16 (by decide) ?_
  refine g_icmp_ge (Y := YX6_init) (pc := 18) (tgt := 40) dX6_init_18 rfl (fun c9 => absurd (by decide) c9) (fun _ => ?_)
  refine g_aload_n (Y := YX6_init) (pc := 21) 1 dX6_init_21 rfl ?_
  refine h_getR (Y := YX6_init) (pc := 22) (ci := 6) (f := 0) (x := 47) dX6_init_22 ⟨(RX6, TX6, 3), rfl, by decide, (in_t2 3 rfl rfl)⟩ rfl (gT0 hl rfl) rfl rfl ?_
  refine g_iload_n (Y := YX6_init) (pc := 25) 0 dX6_init_25 rfl ?_
  refine h_new (Y := YX6_init) (pc := 26) (ci := 7) (q := (RX7, TX7, 8)) (b := 88) dX6_init_26 rfl (in_t2 0 rfl rfl) (in_t1 184 rfl rfl) ini_X7 (Nat.le_of_ble_eq_true rfl) (Nat.le_of_ble_eq_true rfl) (lT hl rfl) ?_
  refine g_dup (Y := YX6_init) (pc := 29) dX6_init_29 rfl ?_
  refine g_callI (Y := YX6_init) (pc := 30) (as := []) (st := [.ref 88, .int 8, .ref 47]) (r_X7_init (ms0 := ms0 ++ ([(6, 0, fun _ => 0, va_up (fun _ => none) 0 (some 47)), (16, 12, fun _ => 0, va_up (va_up (va_up (va_up (va_up (va_up (va_up (va_up (fun _ => none) 0 (some 48)) 1 (some 53)) 2 (some 58)) 3 (some 63)) 4 (some 68)) 5 (some 73)) 6 (some 78)) 7 (some 83))] ++ stC 48 ++ stC 53 ++ stC 58 ++ stC 63 ++ stC 68 ++ stC 73 ++ stC 78 ++ stC 83)) (b := 88) (lT hl rfl)) mo_X7_init rfl rfl (in_t2 2 rfl rfl) (in_t1 186 rfl rfl) dX6_init_30 rfl (Nat.le_of_ble_eq_true rfl) (Nat.le_of_ble_eq_true rfl) (Nat.le_of_ble_eq_true rfl) (Nat.le_of_ble_eq_true rfl) (Nat.le_of_ble_eq_true rfl) rfl ?_
  refine g_ms (m2 := ms0 ++ ([(6, 0, fun _ => 0, va_up (fun _ => none) 0 (some 47)), (16, 12, fun _ => 0, va_up (va_up (va_up (va_up (va_up (va_up (va_up (va_up (fun _ => none) 0 (some 48)) 1 (some 53)) 2 (some 58)) 3 (some 63)) 4 (some 68)) 5 (some 73)) 6 (some 78)) 7 (some 83))] ++ stC 48 ++ stC 53 ++ stC 58 ++ stC 63 ++ stC 68 ++ stC 73 ++ stC 78 ++ stC 83 ++ stC 88)) (List.append_assoc _ _ _) ?_
  refine g_aastS (Y := YX6_init) (pc := 33) dX6_init_33 (gT (j := 1) hl rfl) rfl (gT (j := 42) hl rfl) rfl (by decide) (Nat.le_of_ble_eq_true rfl) ?_
  refine g_ms (m2 := ms0 ++ ([(6, 0, fun _ => 0, va_up (fun _ => none) 0 (some 47)), (16, 12, fun _ => 0, va_up (va_up (va_up (va_up (va_up (va_up (va_up (va_up (va_up (fun _ => none) 0 (some 48)) 1 (some 53)) 2 (some 58)) 3 (some 63)) 4 (some 68)) 5 (some 73)) 6 (some 78)) 7 (some 83)) 8 (some 88))] ++ stC 48 ++ stC 53 ++ stC 58 ++ stC 63 ++ stC 68 ++ stC 73 ++ stC 78 ++ stC 83 ++ stC 88)) (sT (j := 1) hl rfl) ?_
  refine g_iinc (Y := YX6_init) (pc := 34) (j := 0) (v := 9) (L' := [(1, .int 9), (0, .ref 46)]) dX6_init_34 rfl (by decide) (Nat.le_of_ble_eq_true rfl) rfl ?_
  refine g_goto (Y := YX6_init) (pc := 37) (tgt := 15) dX6_init_37 rfl ?_
  refine g_iload_n (Y := YX6_init) (pc := 15) 0 dX6_init_15 rfl ?_
  refine g_bipush (Y := YX6_init) (pc := 16) (v := 12) dX6_init_16 (by decide) ?_
  refine g_icmp_ge (Y := YX6_init) (pc := 18) (tgt := 40) dX6_init_18 rfl (fun c9 => absurd (by decide) c9) (fun _ => ?_)
  refine g_aload_n (Y := YX6_init) (pc := 21) 1 dX6_init_21 rfl ?_
  refine h_getR (Y := YX6_init) (pc := 22) (ci := 6) (f := 0) (x := 47) dX6_init_22 ⟨(RX6, TX6, 3), rfl, by decide, (in_t2 3 rfl rfl)⟩ rfl (gT0 hl rfl) rfl rfl ?_
  refine g_iload_n (Y := YX6_init) (pc := 25) 0 dX6_init_25 rfl ?_
  refine h_new (Y := YX6_init) (pc := 26) (ci := 7) (q := (RX7, TX7, 8)) (b := 93) dX6_init_26 rfl (in_t2 0 rfl rfl) (in_t1 184 rfl rfl) ini_X7 (Nat.le_of_ble_eq_true rfl) (Nat.le_of_ble_eq_true rfl) (lT hl rfl) ?_
  refine g_dup (Y := YX6_init) (pc := 29) dX6_init_29 rfl ?_
  refine g_callI (Y := YX6_init) (pc := 30) (as := []) (st := [.ref 93, .int 9, .ref 47]) (r_X7_init (ms0 := ms0 ++ ([(6, 0, fun _ => 0, va_up (fun _ => none) 0 (some 47)), (16, 12, fun _ => 0, va_up (va_up (va_up (va_up (va_up (va_up (va_up (va_up (va_up (fun _ => none) 0 (some 48)) 1 (some 53)) 2 (some 58)) 3 (some 63)) 4 (some 68)) 5 (some 73)) 6 (some 78)) 7 (some 83)) 8 (some 88))] ++ stC 48 ++ stC 53 ++ stC 58 ++ stC 63 ++ stC 68 ++ stC 73 ++ stC 78 ++ stC 83 ++ stC 88)) (b := 93) (lT hl rfl)) mo_X7_init rfl rfl (in_t2 2 rfl rfl) (in_t1 186 rfl rfl) dX6_init_30 rfl (Nat.le_of_ble_eq_true rfl) (Nat.le_of_ble_eq_true rfl) (Nat.le_of_ble_eq_true rfl) (Nat.le_of_ble_eq_true rfl) (Nat.le_of_ble_eq_true rfl) rfl ?_
  refine g_ms (m2 := ms0 ++ ([(6, 0, fun _ => 0, va_up (fun _ => none) 0 (some 47)), (16, 12, fun _ => 0, va_up (va_up (va_up (va_up (va_up (va_up (va_up (va_up (va_up (fun _ => none) 0 (some 48)) 1 (some 53)) 2 (some 58)) 3 (some 63)) 4 (some 68)) 5 (some 73)) 6 (some 78)) 7 (some 83)) 8 (some 88))] ++ stC 48 ++ stC 53 ++ stC 58 ++ stC 63 ++ stC 68 ++ stC 73 ++ stC 78 ++ stC 83 ++ stC 88 ++ stC 93)) (List.append_assoc _ _ _) ?_
  refine g_aastS (Y := YX6_init) (pc := 33) dX6_init_33 (gT (j := 1) hl rfl) rfl (gT (j := 47) hl rfl) rfl (by decide) (Nat.le_of_ble_eq_true rfl) ?_
  refine g_ms (m2 := ms0 ++ ([(6, 0, fun _ => 0, va_up (fun _ => none) 0 (some 47)), (16, 12, fun _ => 0, va_up (va_up (va_up (va_up (va_up (va_up (va_up (va_up (va_up (va_up (fun _ => none) 0 (some 48)) 1 (some 53)) 2 (some 58)) 3 (some 63)) 4 (some 68)) 5 (some 73)) 6 (some 78)) 7 (some 83)) 8 (some 88)) 9 (some 93))] ++ stC 48 ++ stC 53 ++ stC 58 ++ stC 63 ++ stC 68 ++ stC 73 ++ stC 78 ++ stC 83 ++ stC 88 ++ stC 93)) (sT (j := 1) hl rfl) ?_
  refine g_iinc (Y := YX6_init) (pc := 34) (j := 0) (v := 10) (L' := [(1, .int 10), (0, .ref 46)]) dX6_init_34 rfl (by decide) (Nat.le_of_ble_eq_true rfl) rfl ?_
  refine g_goto (Y := YX6_init) (pc := 37) (tgt := 15) dX6_init_37 rfl ?_
  refine g_iload_n (Y := YX6_init) (pc := 15) 0 dX6_init_15 rfl ?_
  refine g_bipush (Y := YX6_init) (pc := 16) (v := 12) dX6_init_16 (by decide) ?_
  refine g_icmp_ge (Y := YX6_init) (pc := 18) (tgt := 40) dX6_init_18 rfl (fun c9 => absurd (by decide) c9) (fun _ => ?_)
  refine g_aload_n (Y := YX6_init) (pc := 21) 1 dX6_init_21 rfl ?_
  refine h_getR (Y := YX6_init) (pc := 22) (ci := 6) (f := 0) (x := 47) dX6_init_22 ⟨(RX6, TX6, 3), rfl, by decide, (in_t2 3 rfl rfl)⟩ rfl (gT0 hl rfl) rfl rfl ?_
  refine g_iload_n (Y := YX6_init) (pc := 25) 0 dX6_init_25 rfl ?_
  refine h_new (Y := YX6_init) (pc := 26) (ci := 7) (q := (RX7, TX7, 8)) (b := 98) dX6_init_26 rfl (in_t2 0 rfl rfl) (in_t1 184 rfl rfl) ini_X7 (Nat.le_of_ble_eq_true rfl) (Nat.le_of_ble_eq_true rfl) (lT hl rfl) ?_
  refine g_dup (Y := YX6_init) (pc := 29) dX6_init_29 rfl ?_
  refine g_callI (Y := YX6_init) (pc := 30) (as := []) (st := [.ref 98, .int 10, .ref 47]) (r_X7_init (ms0 := ms0 ++ ([(6, 0, fun _ => 0, va_up (fun _ => none) 0 (some 47)), (16, 12, fun _ => 0, va_up (va_up (va_up (va_up (va_up (va_up (va_up (va_up (va_up (va_up (fun _ => none) 0 (some 48)) 1 (some 53)) 2 (some 58)) 3 (some 63)) 4 (some 68)) 5 (some 73)) 6 (some 78)) 7 (some 83)) 8 (some 88)) 9 (some 93))] ++ stC 48 ++ stC 53 ++ stC 58 ++ stC 63 ++ stC 68 ++ stC 73 ++ stC 78 ++ stC 83 ++ stC 88 ++ stC 93)) (b := 98) (lT hl rfl)) mo_X7_init rfl rfl (in_t2 2 rfl rfl) (in_t1 186 rfl rfl) dX6_init_30 rfl (Nat.le_of_ble_eq_true rfl) (Nat.le_of_ble_eq_true rfl) (Nat.le_of_ble_eq_true rfl) (Nat.le_of_ble_eq_true rfl) (Nat.le_of_ble_eq_true rfl) rfl ?_
  refine g_ms (m2 := ms0 ++ ([(6, 0, fun _ => 0, va_up (fun _ => none) 0 (some 47)), (16, 12, fun _ => 0, va_up (va_up (va_up (va_up (va_up (va_up (va_up (va_up (va_up (va_up (fun _ => none) 0 (some 48)) 1 (some 53)) 2 (some 58)) 3 (some 63)) 4 (some 68)) 5 (some 73)) 6 (some 78)) 7 (some 83)) 8 (some 88)) 9 (some 93))] ++ stC 48 ++ stC 53 ++ stC 58 ++ stC 63 ++ stC 68 ++ stC 73 ++ stC 78 ++ stC 83 ++ stC 88 ++ stC 93 ++ stC 98)) (List.append_assoc _ _ _) ?_
  refine g_aastS (Y := YX6_init) (pc := 33) dX6_init_33 (gT (j := 1) hl rfl) rfl (gT (j := 52) hl rfl) rfl (by decide) (Nat.le_of_ble_eq_true rfl) ?_
  refine g_ms (m2 := ms0 ++ ([(6, 0, fun _ => 0, va_up (fun _ => none) 0 (some 47)), (16, 12, fun _ => 0, va_up (va_up (va_up (va_up (va_up (va_up (va_up (va_up (va_up (va_up (va_up (fun _ => none) 0 (some 48)) 1 (some 53)) 2 (some 58)) 3 (some 63)) 4 (some 68)) 5 (some 73)) 6 (some 78)) 7 (some 83)) 8 (some 88)) 9 (some 93)) 10 (some 98))] ++ stC 48 ++ stC 53 ++ stC 58 ++ stC 63 ++ stC 68 ++ stC 73 ++ stC 78 ++ stC 83 ++ stC 88 ++ stC 93 ++ stC 98)) (sT (j := 1) hl rfl) ?_
  refine g_iinc (Y := YX6_init) (pc := 34) (j := 0) (v := 11) (L' := [(1, .int 11), (0, .ref 46)]) dX6_init_34 rfl (by decide) (Nat.le_of_ble_eq_true rfl) rfl ?_
  refine g_goto (Y := YX6_init) (pc := 37) (tgt := 15) dX6_init_37 rfl ?_
  refine g_iload_n (Y := YX6_init) (pc := 15) 0 dX6_init_15 rfl ?_
  refine g_bipush (Y := YX6_init) (pc := 16) (v := 12) dX6_init_16 (by decide) ?_
  refine g_icmp_ge (Y := YX6_init) (pc := 18) (tgt := 40) dX6_init_18 rfl (fun c9 => absurd (by decide) c9) (fun _ => ?_)
  refine g_aload_n (Y := YX6_init) (pc := 21) 1 dX6_init_21 rfl ?_
  refine h_getR (Y := YX6_init) (pc := 22) (ci := 6) (f := 0) (x := 47) dX6_init_22 ⟨(RX6, TX6, 3), rfl, by decide, (in_t2 3 rfl rfl)⟩ rfl (gT0 hl rfl) rfl rfl ?_
  refine g_iload_n (Y := YX6_init) (pc := 25) 0 dX6_init_25 rfl ?_
  refine h_new (Y := YX6_init) (pc := 26) (ci := 7) (q := (RX7, TX7, 8)) (b := 103) dX6_init_26 rfl (in_t2 0 rfl rfl) (in_t1 184 rfl rfl) ini_X7 (Nat.le_of_ble_eq_true rfl) (Nat.le_of_ble_eq_true rfl) (lT hl rfl) ?_
  refine g_dup (Y := YX6_init) (pc := 29) dX6_init_29 rfl ?_
  refine g_callI (Y := YX6_init) (pc := 30) (as := []) (st := [.ref 103, .int 11, .ref 47]) (r_X7_init (ms0 := ms0 ++ ([(6, 0, fun _ => 0, va_up (fun _ => none) 0 (some 47)), (16, 12, fun _ => 0, va_up (va_up (va_up (va_up (va_up (va_up (va_up (va_up (va_up (va_up (va_up (fun _ => none) 0 (some 48)) 1 (some 53)) 2 (some 58)) 3 (some 63)) 4 (some 68)) 5 (some 73)) 6 (some 78)) 7 (some 83)) 8 (some 88)) 9 (some 93)) 10 (some 98))] ++ stC 48 ++ stC 53 ++ stC 58 ++ stC 63 ++ stC 68 ++ stC 73 ++ stC 78 ++ stC 83 ++ stC 88 ++ stC 93 ++ stC 98)) (b := 103) (lT hl rfl)) mo_X7_init rfl rfl (in_t2 2 rfl rfl) (in_t1 186 rfl rfl) dX6_init_30 rfl (Nat.le_of_ble_eq_true rfl) (Nat.le_of_ble_eq_true rfl) (Nat.le_of_ble_eq_true rfl) (Nat.le_of_ble_eq_true rfl) (Nat.le_of_ble_eq_true rfl) rfl ?_
  refine g_ms (m2 := ms0 ++ ([(6, 0, fun _ => 0, va_up (fun _ => none) 0 (some 47)), (16, 12, fun _ => 0, va_up (va_up (va_up (va_up (va_up (va_up (va_up (va_up (va_up (va_up (va_up (fun _ => none) 0 (some 48)) 1 (some 53)) 2 (some 58)) 3 (some 63)) 4 (some 68)) 5 (some 73)) 6 (some 78)) 7 (some 83)) 8 (some 88)) 9 (some 93)) 10 (some 98))] ++ stC 48 ++ stC 53 ++ stC 58 ++ stC 63 ++ stC 68 ++ stC 73 ++ stC 78 ++ stC 83 ++ stC 88 ++ stC 93 ++ stC 98 ++ stC 103)) (List.append_assoc _ _ _) ?_
  refine g_aastS (Y := YX6_init) (pc := 33) dX6_init_33 (gT (j := 1) hl rfl) rfl (gT (j := 57) hl rfl) rfl (by decide) (Nat.le_of_ble_eq_true rfl) ?_
  refine g_ms (m2 := ms0 ++ ([(6, 0, fun _ => 0, va_up (fun _ => none) 0 (some 47)), (16, 12, fun _ => 0, va_up (va_up (va_up (va_up (va_up (va_up (va_up (va_up (va_up (va_up (va_up (va_up (fun _ => none) 0 (some 48)) 1 (some 53)) 2 (some 58)) 3 (some 63)) 4 (some 68)) 5 (some 73)) 6 (some 78)) 7 (some 83)) 8 (some 88)) 9 (some 93)) 10 (some 98)) 11 (some 103))] ++ stC 48 ++ stC 53 ++ stC 58 ++ stC 63 ++ stC 68 ++ stC 73 ++ stC 78 ++ stC 83 ++ stC 88 ++ stC 93 ++ stC 98 ++ stC 103)) (sT (j := 1) hl rfl) ?_
  refine g_iinc (Y := YX6_init) (pc := 34) (j := 0) (v := 12) (L' := [(1, .int 12), (0, .ref 46)]) dX6_init_34 rfl (by decide) (Nat.le_of_ble_eq_true rfl) rfl ?_
  refine g_goto (Y := YX6_init) (pc := 37) (tgt := 15) dX6_init_37 rfl ?_
  refine g_iload_n (Y := YX6_init) (pc := 15) 0 dX6_init_15 rfl ?_
  refine g_bipush (Y := YX6_init) (pc := 16) (v := 12) dX6_init_16 (by decide) ?_
  refine g_icmp_ge (Y := YX6_init) (pc := 18) (tgt := 40) dX6_init_18 rfl (fun _ => ?_) (fun c9 => absurd c9 (by decide))
  refine g_aload_n (Y := YX6_init) (pc := 40) 1 dX6_init_40 rfl ?_
  refine g_iconst (Y := YX6_init) (pc := 41) (v := 0) dX6_init_41 (by decide) ?_
  refine g_putI (Y := YX6_init) (pc := 42) (ci := 6) (f := 1) dX6_init_42 ⟨(RX6, TX6, 3), rfl, by decide, (in_t2 4 rfl rfl)⟩ (Or.inl rfl) rfl (gT0 hl rfl) rfl ?_
  refine g_ms (m2 := ms0 ++ ([(6, 0, upd (fun _ => 0) 1 0, va_up (fun _ => none) 0 (some 47)), (16, 12, fun _ => 0, va_up (va_up (va_up (va_up (va_up (va_up (va_up (va_up (va_up (va_up (va_up (va_up (fun _ => none) 0 (some 48)) 1 (some 53)) 2 (some 58)) 3 (some 63)) 4 (some 68)) 5 (some 73)) 6 (some 78)) 7 (some 83)) 8 (some 88)) 9 (some 93)) 10 (some 98)) 11 (some 103))] ++ stC 48 ++ stC 53 ++ stC 58 ++ stC 63 ++ stC 68 ++ stC 73 ++ stC 78 ++ stC 83 ++ stC 88 ++ stC 93 ++ stC 98 ++ stC 103)) (sT0 hl rfl) ?_
  refine g_aload_n (Y := YX6_init) (pc := 45) 1 dX6_init_45 rfl ?_
  refine g_iconst (Y := YX6_init) (pc := 46) (v := 0) dX6_init_46 (by decide) ?_
  refine g_putI (Y := YX6_init) (pc := 47) (ci := 6) (f := 2) dX6_init_47 ⟨(RX6, TX6, 3), rfl, by decide, (in_t2 5 rfl rfl)⟩ (Or.inl rfl) rfl (gT0 hl rfl) rfl ?_
  refine g_ms (m2 := ms0 ++ ([(6, 0, upd (upd (fun _ => 0) 1 0) 2 0, va_up (fun _ => none) 0 (some 47)), (16, 12, fun _ => 0, va_up (va_up (va_up (va_up (va_up (va_up (va_up (va_up (va_up (va_up (va_up (va_up (fun _ => none) 0 (some 48)) 1 (some 53)) 2 (some 58)) 3 (some 63)) 4 (some 68)) 5 (some 73)) 6 (some 78)) 7 (some 83)) 8 (some 88)) 9 (some 93)) 10 (some 98)) 11 (some 103))] ++ stC 48 ++ stC 53 ++ stC 58 ++ stC 63 ++ stC 68 ++ stC 73 ++ stC 78 ++ stC 83 ++ stC 88 ++ stC 93 ++ stC 98 ++ stC 103)) (sT0 hl rfl) ?_
  exact g_vret dX6_init_50 rfl (Nat.le_of_ble_eq_true rfl) (Nat.le_of_ble_eq_true rfl)
abbrev YX0_init : MRec := (yX0_init, cX0_init, 1, none)
set_option maxRecDepth 100000 in
theorem mo_X0_init : MOK YX0_init 0 := ⟨(in_t2 18 rfl rfl), ini_X0, pl_X0, ⟨nh_X0.1, nh_X0.2, rfl⟩, by decide⟩
theorem dX0_init_0 : decode cX0_init 0 = .ok (.aload_n 0, 1) := by decide +kernel
theorem dX0_init_1 : decode cX0_init 1 = .ok (.invokespecial 3, 3) := by decide +kernel
theorem dX0_init_4 : decode cX0_init 4 = .ok (.aload_n 0, 1) := by decide +kernel
theorem dX0_init_5 : decode cX0_init 5 = .ok (.bipush 12, 2) := by decide +kernel
theorem dX0_init_7 : decode cX0_init 7 = .ok (.newarray .int, 2) := by decide +kernel
theorem dX0_init_9 : decode cX0_init 9 = .ok (.putfield 9, 3) := by decide +kernel
theorem dX0_init_12 : decode cX0_init 12 = .ok (.aload_n 0, 1) := by decide +kernel
theorem dX0_init_13 : decode cX0_init 13 = .ok (.bipush 12, 2) := by decide +kernel
theorem dX0_init_15 : decode cX0_init 15 = .ok (.newarray .int, 2) := by decide +kernel
theorem dX0_init_17 : decode cX0_init 17 = .ok (.putfield 15, 3) := by decide +kernel
theorem dX0_init_20 : decode cX0_init 20 = .ok (.aload_n 0, 1) := by decide +kernel
theorem dX0_init_21 : decode cX0_init 21 = .ok (.bipush 12, 2) := by decide +kernel
theorem dX0_init_23 : decode cX0_init 23 = .ok (.newarray .int, 2) := by decide +kernel
theorem dX0_init_25 : decode cX0_init 25 = .ok (.putfield 18, 3) := by decide +kernel
theorem dX0_init_28 : decode cX0_init 28 = .ok (.aload_n 0, 1) := by decide +kernel
theorem dX0_init_29 : decode cX0_init 29 = .ok (.iconst 0, 1) := by decide +kernel
theorem dX0_init_30 : decode cX0_init 30 = .ok (.putfield 21, 3) := by decide +kernel
theorem dX0_init_33 : decode cX0_init 33 = .ok (.return_, 1) := by decide +kernel
def heC : Mm := [(0, 0, upd (fun _ => 0) 3 0, va_up (va_up (va_up (fun _ => none) 0 (some 121)) 1 (some 122)) 2 (some 123)), (14, 12, fun _ => 0, fun _ => none), (14, 12, fun _ => 0, fun _ => none), (14, 12, fun _ => 0, fun _ => none)]
set_option maxRecDepth 100000 in
set_option maxHeartbeats 4000000 in
theorem r_X0_init {l : Launch} {D : va_G} {cy : Nat → ClassId} {ad : Nat → Nat} {h : Nat} {ms0 : Mm} (hl : ms0.length = 120) : Run l D cy ad (some h) YX0_init 1 3 36 [.ref 120] (ms0 ++ [(0, 0, fun _ => 0, fun _ => none)]) none (ms0 ++ heC) := by
  refine Run.of 0 mo_X0_init (Nat.le_of_ble_eq_true rfl) ?_
  refine g_aload_n (Y := YX0_init) (pc := 0) 0 dX0_init_0 rfl ?_
  refine g_objInit (Y := YX0_init) (pc := 1) dX0_init_1 (in_t2 19 rfl rfl) w_obj (Nat.le_of_ble_eq_true rfl) (Nat.le_of_ble_eq_true rfl) (Nat.le_of_ble_eq_true rfl) ?_
  refine g_aload_n (Y := YX0_init) (pc := 4) 0 dX0_init_4 rfl ?_
  refine g_bipush (Y := YX0_init) (pc := 5) (v := 12) dX0_init_5 (by decide) ?_
  refine h_newa (Y := YX0_init) (pc := 7) (b := 121) (N := 12) dX0_init_7 (by decide) ac_int (by decide) rfl (Nat.le_of_ble_eq_true rfl) (Nat.le_of_ble_eq_true rfl) (Nat.le_of_ble_eq_true rfl) (lT hl rfl) ?_
  refine g_ms (m2 := ms0 ++ [(0, 0, fun _ => 0, fun _ => none), (14, 12, fun _ => 0, fun _ => none)]) (List.append_assoc _ _ _) ?_
  refine g_putRF (Y := YX0_init) (pc := 9) (ci := 0) (f := 0) dX0_init_9 ⟨(RX0, TX0, 4), rfl, by decide, (in_t2 20 rfl rfl)⟩ rfl (fun a => ⟨rfl, rfl⟩) rfl rfl ⟨_, rfl, rfl⟩ (gT0 hl rfl) rfl ?_
  refine g_ms (m2 := ms0 ++ [(0, 0, fun _ => 0, va_up (fun _ => none) 0 (some 121)), (14, 12, fun _ => 0, fun _ => none)]) (sT0 hl rfl) ?_
  refine g_aload_n (Y := YX0_init) (pc := 12) 0 dX0_init_12 rfl ?_
  refine g_bipush (Y := YX0_init) (pc := 13) (v := 12) dX0_init_13 (by decide) ?_
  refine h_newa (Y := YX0_init) (pc := 15) (b := 122) (N := 12) dX0_init_15 (by decide) ac_int (by decide) rfl (Nat.le_of_ble_eq_true rfl) (Nat.le_of_ble_eq_true rfl) (Nat.le_of_ble_eq_true rfl) (lT hl rfl) ?_
  refine g_ms (m2 := ms0 ++ [(0, 0, fun _ => 0, va_up (fun _ => none) 0 (some 121)), (14, 12, fun _ => 0, fun _ => none), (14, 12, fun _ => 0, fun _ => none)]) (List.append_assoc _ _ _) ?_
  refine g_putRF (Y := YX0_init) (pc := 17) (ci := 0) (f := 1) dX0_init_17 ⟨(RX0, TX0, 4), rfl, by decide, (in_t2 21 rfl rfl)⟩ rfl (fun a => ⟨rfl, rfl⟩) rfl rfl ⟨_, rfl, rfl⟩ (gT0 hl rfl) rfl ?_
  refine g_ms (m2 := ms0 ++ [(0, 0, fun _ => 0, va_up (va_up (fun _ => none) 0 (some 121)) 1 (some 122)), (14, 12, fun _ => 0, fun _ => none), (14, 12, fun _ => 0, fun _ => none)]) (sT0 hl rfl) ?_
  refine g_aload_n (Y := YX0_init) (pc := 20) 0 dX0_init_20 rfl ?_
  refine g_bipush (Y := YX0_init) (pc := 21) (v := 12) dX0_init_21 (by decide) ?_
  refine h_newa (Y := YX0_init) (pc := 23) (b := 123) (N := 12) dX0_init_23 (by decide) ac_int (by decide) rfl (Nat.le_of_ble_eq_true rfl) (Nat.le_of_ble_eq_true rfl) (Nat.le_of_ble_eq_true rfl) (lT hl rfl) ?_
  refine g_ms (m2 := ms0 ++ [(0, 0, fun _ => 0, va_up (va_up (fun _ => none) 0 (some 121)) 1 (some 122)), (14, 12, fun _ => 0, fun _ => none), (14, 12, fun _ => 0, fun _ => none), (14, 12, fun _ => 0, fun _ => none)]) (List.append_assoc _ _ _) ?_
  refine g_putRF (Y := YX0_init) (pc := 25) (ci := 0) (f := 2) dX0_init_25 ⟨(RX0, TX0, 4), rfl, by decide, (in_t2 22 rfl rfl)⟩ rfl (fun a => ⟨rfl, rfl⟩) rfl rfl ⟨_, rfl, rfl⟩ (gT0 hl rfl) rfl ?_
  refine g_ms (m2 := ms0 ++ [(0, 0, fun _ => 0, va_up (va_up (va_up (fun _ => none) 0 (some 121)) 1 (some 122)) 2 (some 123)), (14, 12, fun _ => 0, fun _ => none), (14, 12, fun _ => 0, fun _ => none), (14, 12, fun _ => 0, fun _ => none)]) (sT0 hl rfl) ?_
  refine g_aload_n (Y := YX0_init) (pc := 28) 0 dX0_init_28 rfl ?_
  refine g_iconst (Y := YX0_init) (pc := 29) (v := 0) dX0_init_29 (by decide) ?_
  refine g_putI (Y := YX0_init) (pc := 30) (ci := 0) (f := 3) dX0_init_30 ⟨(RX0, TX0, 4), rfl, by decide, (in_t2 23 rfl rfl)⟩ (Or.inl rfl) rfl (gT0 hl rfl) rfl ?_
  refine g_ms (m2 := ms0 ++ [(0, 0, upd (fun _ => 0) 3 0, va_up (va_up (va_up (fun _ => none) 0 (some 121)) 1 (some 122)) 2 (some 123)), (14, 12, fun _ => 0, fun _ => none), (14, 12, fun _ => 0, fun _ => none), (14, 12, fun _ => 0, fun _ => none)]) (sT0 hl rfl) ?_
  exact g_vret dX0_init_33 rfl (Nat.le_of_ble_eq_true rfl) (Nat.le_of_ble_eq_true rfl)
abbrev YX5_init : MRec := (yX5_init, cX5_init, 1, none)
set_option maxRecDepth 100000 in
theorem mo_X5_init : MOK YX5_init 0 := ⟨(in_t2 38 rfl rfl), ini_X5, pl_X5, ⟨nh_X5.1, nh_X5.2, rfl⟩, by decide⟩
theorem dX5_init_0 : decode cX5_init 0 = .ok (.aload_n 0, 1) := by decide +kernel
theorem dX5_init_1 : decode cX5_init 1 = .ok (.invokespecial 3, 3) := by decide +kernel
theorem dX5_init_4 : decode cX5_init 4 = .ok (.aload_n 0, 1) := by decide +kernel
theorem dX5_init_5 : decode cX5_init 5 = .ok (.bipush 6, 2) := by decide +kernel
theorem dX5_init_7 : decode cX5_init 7 = .ok (.newarray .int, 2) := by decide +kernel
theorem dX5_init_9 : decode cX5_init 9 = .ok (.putfield 9, 3) := by decide +kernel
theorem dX5_init_12 : decode cX5_init 12 = .ok (.aload_n 0, 1) := by decide +kernel
theorem dX5_init_13 : decode cX5_init 13 = .ok (.iconst 0, 1) := by decide +kernel
theorem dX5_init_14 : decode cX5_init 14 = .ok (.putfield 15, 3) := by decide +kernel
theorem dX5_init_17 : decode cX5_init 17 = .ok (.return_, 1) := by decide +kernel
def orC (b : Nat) : Mm := [(5, 0, upd (fun _ => 0) 1 0, va_up (fun _ => none) 0 (some (b + 1))), (14, 6, fun _ => 0, fun _ => none)]
set_option maxRecDepth 100000 in
set_option maxHeartbeats 4000000 in
theorem r_X5_init {l : Launch} {D : va_G} {cy : Nat → ClassId} {ad : Nat → Nat} {h : Nat} {ms0 : Mm} {b : Nat} (hl : ms0.length = b) : Run l D cy ad (some h) YX5_init 1 1 6 [.ref b] (ms0 ++ [(5, 0, fun _ => 0, fun _ => none)]) none (ms0 ++ orC b) := by
  refine Run.of 0 mo_X5_init (Nat.le_of_ble_eq_true rfl) ?_
  refine g_aload_n (Y := YX5_init) (pc := 0) 0 dX5_init_0 rfl ?_
  refine g_objInit (Y := YX5_init) (pc := 1) dX5_init_1 (in_t2 39 rfl rfl) w_obj (Nat.le_of_ble_eq_true rfl) (Nat.le_of_ble_eq_true rfl) (Nat.le_of_ble_eq_true rfl) ?_
  refine g_aload_n (Y := YX5_init) (pc := 4) 0 dX5_init_4 rfl ?_
  refine g_bipush (Y := YX5_init) (pc := 5) (v := 6) dX5_init_5 (by decide) ?_
  refine h_newa (Y := YX5_init) (pc := 7) (b := (b + 1)) (N := 6) dX5_init_7 (by decide) ac_int (by decide) rfl (Nat.le_of_ble_eq_true rfl) (Nat.le_of_ble_eq_true rfl) (Nat.le_of_ble_eq_true rfl) (lT hl rfl) ?_
  refine g_ms (m2 := ms0 ++ [(5, 0, fun _ => 0, fun _ => none), (14, 6, fun _ => 0, fun _ => none)]) (List.append_assoc _ _ _) ?_
  refine g_putRF (Y := YX5_init) (pc := 9) (ci := 5) (f := 0) dX5_init_9 ⟨(RX5, TX5, 2), rfl, by decide, (in_t2 40 rfl rfl)⟩ rfl (fun a => ⟨rfl, rfl⟩) rfl rfl ⟨_, rfl, rfl⟩ (gT0 hl rfl) rfl ?_
  refine g_ms (m2 := ms0 ++ [(5, 0, fun _ => 0, va_up (fun _ => none) 0 (some (b + 1))), (14, 6, fun _ => 0, fun _ => none)]) (sT0 hl rfl) ?_
  refine g_aload_n (Y := YX5_init) (pc := 12) 0 dX5_init_12 rfl ?_
  refine g_iconst (Y := YX5_init) (pc := 13) (v := 0) dX5_init_13 (by decide) ?_
  refine g_putI (Y := YX5_init) (pc := 14) (ci := 5) (f := 1) dX5_init_14 ⟨(RX5, TX5, 2), rfl, by decide, (in_t2 43 rfl rfl)⟩ (Or.inl rfl) rfl (gT0 hl rfl) rfl ?_
  refine g_ms (m2 := ms0 ++ [(5, 0, upd (fun _ => 0) 1 0, va_up (fun _ => none) 0 (some (b + 1))), (14, 6, fun _ => 0, fun _ => none)]) (sT0 hl rfl) ?_
  exact g_vret dX5_init_17 rfl (Nat.le_of_ble_eq_true rfl) (Nat.le_of_ble_eq_true rfl)
abbrev YX9_init : MRec := (yX9_init, cX9_init, 4, none)
set_option maxRecDepth 100000 in
theorem mo_X9_init : MOK YX9_init 2 := ⟨(in_t2 55 rfl rfl), ini_X9, pl_X9, ⟨nh_X9.1, nh_X9.2, rfl⟩, by decide⟩
theorem dX9_init_0 : decode cX9_init 0 = .ok (.aload_n 0, 1) := by decide +kernel
theorem dX9_init_1 : decode cX9_init 1 = .ok (.invokespecial 3, 3) := by decide +kernel
theorem dX9_init_4 : decode cX9_init 4 = .ok (.aload_n 0, 1) := by decide +kernel
theorem dX9_init_5 : decode cX9_init 5 = .ok (.aload_n 1, 1) := by decide +kernel
theorem dX9_init_6 : decode cX9_init 6 = .ok (.putfield 9, 3) := by decide +kernel
theorem dX9_init_9 : decode cX9_init 9 = .ok (.aload_n 0, 1) := by decide +kernel
theorem dX9_init_10 : decode cX9_init 10 = .ok (.aload_n 2, 1) := by decide +kernel
theorem dX9_init_11 : decode cX9_init 11 = .ok (.putfield 15, 3) := by decide +kernel
theorem dX9_init_14 : decode cX9_init 14 = .ok (.aload_n 0, 1) := by decide +kernel
theorem dX9_init_15 : decode cX9_init 15 = .ok (.bipush 7, 2) := by decide +kernel
theorem dX9_init_17 : decode cX9_init 17 = .ok (.anewarray 19, 3) := by decide +kernel
theorem dX9_init_20 : decode cX9_init 20 = .ok (.putfield 21, 3) := by decide +kernel
theorem dX9_init_23 : decode cX9_init 23 = .ok (.iconst 0, 1) := by decide +kernel
theorem dX9_init_24 : decode cX9_init 24 = .ok (.istore_n 3, 1) := by decide +kernel
theorem dX9_init_25 : decode cX9_init 25 = .ok (.iload_n 3, 1) := by decide +kernel
theorem dX9_init_26 : decode cX9_init 26 = .ok (.bipush 6, 2) := by decide +kernel
theorem dX9_init_28 : decode cX9_init 28 = .ok (.if_icmp .gt 22, 3) := by decide +kernel
theorem dX9_init_31 : decode cX9_init 31 = .ok (.aload_n 0, 1) := by decide +kernel
theorem dX9_init_32 : decode cX9_init 32 = .ok (.getfield 21, 3) := by decide +kernel
theorem dX9_init_35 : decode cX9_init 35 = .ok (.iload_n 3, 1) := by decide +kernel
theorem dX9_init_36 : decode cX9_init 36 = .ok (.new 19, 3) := by decide +kernel
theorem dX9_init_39 : decode cX9_init 39 = .ok (.dup, 1) := by decide +kernel
theorem dX9_init_40 : decode cX9_init 40 = .ok (.invokespecial 25, 3) := by decide +kernel
theorem dX9_init_43 : decode cX9_init 43 = .ok (.aastore, 1) := by decide +kernel
theorem dX9_init_44 : decode cX9_init 44 = .ok (.iinc 3 1, 3) := by decide +kernel
theorem dX9_init_47 : decode cX9_init 47 = .ok (.goto (-22), 3) := by decide +kernel
theorem dX9_init_50 : decode cX9_init 50 = .ok (.aload_n 0, 1) := by decide +kernel
theorem dX9_init_51 : decode cX9_init 51 = .ok (.new 19, 3) := by decide +kernel
theorem dX9_init_54 : decode cX9_init 54 = .ok (.dup, 1) := by decide +kernel
theorem dX9_init_55 : decode cX9_init 55 = .ok (.invokespecial 25, 3) := by decide +kernel
theorem dX9_init_58 : decode cX9_init 58 = .ok (.putfield 26, 3) := by decide +kernel
theorem dX9_init_61 : decode cX9_init 61 = .ok (.aload_n 0, 1) := by decide +kernel
theorem dX9_init_62 : decode cX9_init 62 = .ok (.iconst (-1), 1) := by decide +kernel
theorem dX9_init_63 : decode cX9_init 63 = .ok (.putfield 30, 3) := by decide +kernel
theorem dX9_init_66 : decode cX9_init 66 = .ok (.return_, 1) := by decide +kernel
def trC : Mm := ([(9, 0, upd (fun _ => 0) 4 (-1), va_up (va_up (va_up (va_up (fun _ => none) 0 (some 3)) 1 (some 120)) 2 (some 129)) 6 (some 165)), (16, 7, fun _ => 0, va_up (va_up (va_up (va_up (va_up (va_up (va_up (fun _ => none) 0 (some 130)) 1 (some 135)) 2 (some 140)) 3 (some 145)) 4 (some 150)) 5 (some 155)) 6 (some 160))] ++ stC 130 ++ stC 135 ++ stC 140 ++ stC 145 ++ stC 150 ++ stC 155 ++ stC 160 ++ stC 165)
set_option maxRecDepth 100000 in
set_option maxHeartbeats 4000000 in
theorem r_X9_init {l : Launch} {D : va_G} {cy : Nat → ClassId} {ad : Nat → Nat} {h : Nat} {ms0 : Mm} (hl : ms0.length = 128) : Run l D cy ad (some h) YX9_init 2 41 263 [.ref 128, .ref 3, .ref 120] (ms0 ++ [(9, 0, fun _ => 0, fun _ => none)]) none (ms0 ++ trC) := by
  refine Run.of 2 mo_X9_init (Nat.le_of_ble_eq_true rfl) ?_
  refine g_aload_n (Y := YX9_init) (pc := 0) 0 dX9_init_0 rfl ?_
  refine g_objInit (Y := YX9_init) (pc := 1) dX9_init_1 (in_t2 56 rfl rfl) w_obj (Nat.le_of_ble_eq_true rfl) (Nat.le_of_ble_eq_true rfl) (Nat.le_of_ble_eq_true rfl) ?_
  refine g_aload_n (Y := YX9_init) (pc := 4) 0 dX9_init_4 rfl ?_
  refine g_aload_n (Y := YX9_init) (pc := 5) 1 dX9_init_5 rfl ?_
  refine g_putRF (Y := YX9_init) (pc := 6) (ci := 9) (f := 0) dX9_init_6 ⟨(RX9, TX9, 7), rfl, by decide, (in_t2 59 rfl rfl)⟩ rfl (fun a => ⟨rfl, rfl⟩) rfl rfl ⟨_, rfl, rfl⟩ (gT0 hl rfl) rfl ?_
  refine g_ms (m2 := ms0 ++ [(9, 0, fun _ => 0, va_up (fun _ => none) 0 (some 3))]) (sT0 hl rfl) ?_
  refine g_aload_n (Y := YX9_init) (pc := 9) 0 dX9_init_9 rfl ?_
  refine g_aload_n (Y := YX9_init) (pc := 10) 2 dX9_init_10 rfl ?_
  refine g_putRF (Y := YX9_init) (pc := 11) (ci := 9) (f := 1) dX9_init_11 ⟨(RX9, TX9, 7), rfl, by decide, (in_t2 60 rfl rfl)⟩ rfl (fun a => ⟨rfl, rfl⟩) rfl rfl ⟨_, rfl, rfl⟩ (gT0 hl rfl) rfl ?_
  refine g_ms (m2 := ms0 ++ [(9, 0, fun _ => 0, va_up (va_up (fun _ => none) 0 (some 3)) 1 (some 120))]) (sT0 hl rfl) ?_
  refine g_aload_n (Y := YX9_init) (pc := 14) 0 dX9_init_14 rfl ?_
  refine g_bipush (Y := YX9_init) (pc := 15) (v := 7) dX9_init_15 (by decide) ?_
  refine h_newS (Y := YX9_init) (pc := 17) (b := 129) (N := 7) dX9_init_17 (in_t2 57 rfl rfl) (by decide) rfl (Nat.le_of_ble_eq_true rfl) (Nat.le_of_ble_eq_true rfl) (Nat.le_of_ble_eq_true rfl) (lT hl rfl) ?_
  refine g_ms (m2 := ms0 ++ [(9, 0, fun _ => 0, va_up (va_up (fun _ => none) 0 (some 3)) 1 (some 120)), (16, 7, fun _ => 0, fun _ => none)]) (List.append_assoc _ _ _) ?_
  refine g_putRF (Y := YX9_init) (pc := 20) (ci := 9) (f := 2) dX9_init_20 ⟨(RX9, TX9, 7), rfl, by decide, (in_t2 61 rfl rfl)⟩ rfl (fun a => ⟨rfl, rfl⟩) rfl rfl ⟨_, rfl, rfl⟩ (gT0 hl rfl) rfl ?_
  refine g_ms (m2 := ms0 ++ [(9, 0, fun _ => 0, va_up (va_up (va_up (fun _ => none) 0 (some 3)) 1 (some 120)) 2 (some 129)), (16, 7, fun _ => 0, fun _ => none)]) (sT0 hl rfl) ?_
  refine g_iconst (Y := YX9_init) (pc := 23) (v := 0) dX9_init_23 (by decide) ?_
  refine g_istore_n (Y := YX9_init) (pc := 24) (L' := [(3, .int 0), (0, .ref 128), (1, .ref 3), (2, .ref 120)]) dX9_init_24 (Nat.le_of_ble_eq_true rfl) rfl ?_
  refine g_iload_n (Y := YX9_init) (pc := 25) 0 dX9_init_25 rfl ?_
  refine g_bipush (Y := YX9_init) (pc := 26) (v := 6) dX9_init_26 (by decide) ?_
  refine g_icmp_gt (Y := YX9_init) (pc := 28) (tgt := 50) dX9_init_28 rfl (fun c9 => absurd c9 (by decide)) (fun _ => ?_)
  refine g_aload_n (Y := YX9_init) (pc := 31) 1 dX9_init_31 rfl ?_
  refine h_getR (Y := YX9_init) (pc := 32) (ci := 9) (f := 2) (x := 129) dX9_init_32 ⟨(RX9, TX9, 7), rfl, by decide, (in_t2 61 rfl rfl)⟩ rfl (gT0 hl rfl) rfl rfl ?_
  refine g_iload_n (Y := YX9_init) (pc := 35) 0 dX9_init_35 rfl ?_
  refine h_new (Y := YX9_init) (pc := 36) (ci := 7) (q := (RX7, TX7, 8)) (b := 130) dX9_init_36 rfl (in_t2 57 rfl rfl) (in_t1 184 rfl rfl) ini_X7 (Nat.le_of_ble_eq_true rfl) (Nat.le_of_ble_eq_true rfl) (lT hl rfl) ?_
  refine g_dup (Y := YX9_init) (pc := 39) dX9_init_39 rfl ?_
  refine g_callI (Y := YX9_init) (pc := 40) (as := []) (st := [.ref 130, .int 0, .ref 129]) (r_X7_init (ms0 := ms0 ++ [(9, 0, fun _ => 0, va_up (va_up (va_up (fun _ => none) 0 (some 3)) 1 (some 120)) 2 (some 129)), (16, 7, fun _ => 0, fun _ => none)]) (b := 130) (lT hl rfl)) mo_X7_init rfl rfl (in_t2 58 rfl rfl) (in_t1 186 rfl rfl) dX9_init_40 rfl (Nat.le_of_ble_eq_true rfl) (Nat.le_of_ble_eq_true rfl) (Nat.le_of_ble_eq_true rfl) (Nat.le_of_ble_eq_true rfl) (Nat.le_of_ble_eq_true rfl) rfl ?_
  refine g_ms (m2 := ms0 ++ ([(9, 0, fun _ => 0, va_up (va_up (va_up (fun _ => none) 0 (some 3)) 1 (some 120)) 2 (some 129)), (16, 7, fun _ => 0, fun _ => none)] ++ stC 130)) (List.append_assoc _ _ _) ?_
  refine g_aastS (Y := YX9_init) (pc := 43) dX9_init_43 (gT (j := 1) hl rfl) rfl (gT (j := 2) hl rfl) rfl (by decide) (Nat.le_of_ble_eq_true rfl) ?_
  refine g_ms (m2 := ms0 ++ ([(9, 0, fun _ => 0, va_up (va_up (va_up (fun _ => none) 0 (some 3)) 1 (some 120)) 2 (some 129)), (16, 7, fun _ => 0, va_up (fun _ => none) 0 (some 130))] ++ stC 130)) (sT (j := 1) hl rfl) ?_
  refine g_iinc (Y := YX9_init) (pc := 44) (j := 0) (v := 1) (L' := [(3, .int 1), (0, .ref 128), (1, .ref 3), (2, .ref 120)]) dX9_init_44 rfl (by decide) (Nat.le_of_ble_eq_true rfl) rfl ?_
  refine g_goto (Y := YX9_init) (pc := 47) (tgt := 25) dX9_init_47 rfl ?_
  refine g_iload_n (Y := YX9_init) (pc := 25) 0 dX9_init_25 rfl ?_
  refine g_bipush (Y := YX9_init) (pc := 26) (v := 6) dX9_init_26 (by decide) ?_
  refine g_icmp_gt (Y := YX9_init) (pc := 28) (tgt := 50) dX9_init_28 rfl (fun c9 => absurd c9 (by decide)) (fun _ => ?_)
  refine g_aload_n (Y := YX9_init) (pc := 31) 1 dX9_init_31 rfl ?_
  refine h_getR (Y := YX9_init) (pc := 32) (ci := 9) (f := 2) (x := 129) dX9_init_32 ⟨(RX9, TX9, 7), rfl, by decide, (in_t2 61 rfl rfl)⟩ rfl (gT0 hl rfl) rfl rfl ?_
  refine g_iload_n (Y := YX9_init) (pc := 35) 0 dX9_init_35 rfl ?_
  refine h_new (Y := YX9_init) (pc := 36) (ci := 7) (q := (RX7, TX7, 8)) (b := 135) dX9_init_36 rfl (in_t2 57 rfl rfl) (in_t1 184 rfl rfl) ini_X7 (Nat.le_of_ble_eq_true rfl) (Nat.le_of_ble_eq_true rfl) (lT hl rfl) ?_
  refine g_dup (Y := YX9_init) (pc := 39) dX9_init_39 rfl ?_
  refine g_callI (Y := YX9_init) (pc := 40) (as := []) (st := [.ref 135, .int 1, .ref 129]) (r_X7_init (ms0 := ms0 ++ ([(9, 0, fun _ => 0, va_up (va_up (va_up (fun _ => none) 0 (some 3)) 1 (some 120)) 2 (some 129)), (16, 7, fun _ => 0, va_up (fun _ => none) 0 (some 130))] ++ stC 130)) (b := 135) (lT hl rfl)) mo_X7_init rfl rfl (in_t2 58 rfl rfl) (in_t1 186 rfl rfl) dX9_init_40 rfl (Nat.le_of_ble_eq_true rfl) (Nat.le_of_ble_eq_true rfl) (Nat.le_of_ble_eq_true rfl) (Nat.le_of_ble_eq_true rfl) (Nat.le_of_ble_eq_true rfl) rfl ?_
  refine g_ms (m2 := ms0 ++ ([(9, 0, fun _ => 0, va_up (va_up (va_up (fun _ => none) 0 (some 3)) 1 (some 120)) 2 (some 129)), (16, 7, fun _ => 0, va_up (fun _ => none) 0 (some 130))] ++ stC 130 ++ stC 135)) (List.append_assoc _ _ _) ?_
  refine g_aastS (Y := YX9_init) (pc := 43) dX9_init_43 (gT (j := 1) hl rfl) rfl (gT (j := 7) hl rfl) rfl (by decide) (Nat.le_of_ble_eq_true rfl) ?_
  refine g_ms (m2 := ms0 ++ ([(9, 0, fun _ => 0, va_up (va_up (va_up (fun _ => none) 0 (some 3)) 1 (some 120)) 2 (some 129)), (16, 7, fun _ => 0, va_up (va_up (fun _ => none) 0 (some 130)) 1 (some 135))] ++ stC 130 ++ stC 135)) (sT (j := 1) hl rfl) ?_
  refine g_iinc (Y := YX9_init) (pc := 44) (j := 0) (v := 2) (L' := [(3, .int 2), (0, .ref 128), (1, .ref 3), (2, .ref 120)]) dX9_init_44 rfl (by decide) (Nat.le_of_ble_eq_true rfl) rfl ?_
  refine g_goto (Y := YX9_init) (pc := 47) (tgt := 25) dX9_init_47 rfl ?_
  refine g_iload_n (Y := YX9_init) (pc := 25) 0 dX9_init_25 rfl ?_
  refine g_bipush (Y := YX9_init) (pc := 26) (v := 6) dX9_init_26 (by decide) ?_
  refine g_icmp_gt (Y := YX9_init) (pc := 28) (tgt := 50) dX9_init_28 rfl (fun c9 => absurd c9 (by decide)) (fun _ => ?_)
  refine g_aload_n (Y := YX9_init) (pc := 31) 1 dX9_init_31 rfl ?_
  refine h_getR (Y := YX9_init) (pc := 32) (ci := 9) (f := 2) (x := 129) dX9_init_32 ⟨(RX9, TX9, 7), rfl, by decide, (in_t2 61 rfl rfl)⟩ rfl (gT0 hl rfl) rfl rfl ?_
  refine g_iload_n (Y := YX9_init) (pc := 35) 0 dX9_init_35 rfl ?_
  refine h_new (Y := YX9_init) (pc := 36) (ci := 7) (q := (RX7, TX7, 8)) (b := 140) dX9_init_36 rfl (in_t2 57 rfl rfl) (in_t1 184 rfl rfl) ini_X7 (Nat.le_of_ble_eq_true rfl) (Nat.le_of_ble_eq_true rfl) (lT hl rfl) ?_
  refine g_dup (Y := YX9_init) (pc := 39) dX9_init_39 rfl ?_
  refine g_callI (Y := YX9_init) (pc := 40) (as := []) (st := [.ref 140, .int 2, .ref 129]) (r_X7_init (ms0 := ms0 ++ ([(9, 0, fun _ => 0, va_up (va_up (va_up (fun _ => none) 0 (some 3)) 1 (some 120)) 2 (some 129)), (16, 7, fun _ => 0, va_up (va_up (fun _ => none) 0 (some 130)) 1 (some 135))] ++ stC 130 ++ stC 135)) (b := 140) (lT hl rfl)) mo_X7_init rfl rfl (in_t2 58 rfl rfl) (in_t1 186 rfl rfl) dX9_init_40 rfl (Nat.le_of_ble_eq_true rfl) (Nat.le_of_ble_eq_true rfl) (Nat.le_of_ble_eq_true rfl) (Nat.le_of_ble_eq_true rfl) (Nat.le_of_ble_eq_true rfl) rfl ?_
  refine g_ms (m2 := ms0 ++ ([(9, 0, fun _ => 0, va_up (va_up (va_up (fun _ => none) 0 (some 3)) 1 (some 120)) 2 (some 129)), (16, 7, fun _ => 0, va_up (va_up (fun _ => none) 0 (some 130)) 1 (some 135))] ++ stC 130 ++ stC 135 ++ stC 140)) (List.append_assoc _ _ _) ?_
  refine g_aastS (Y := YX9_init) (pc := 43) dX9_init_43 (gT (j := 1) hl rfl) rfl (gT (j := 12) hl rfl) rfl (by decide) (Nat.le_of_ble_eq_true rfl) ?_
  refine g_ms (m2 := ms0 ++ ([(9, 0, fun _ => 0, va_up (va_up (va_up (fun _ => none) 0 (some 3)) 1 (some 120)) 2 (some 129)), (16, 7, fun _ => 0, va_up (va_up (va_up (fun _ => none) 0 (some 130)) 1 (some 135)) 2 (some 140))] ++ stC 130 ++ stC 135 ++ stC 140)) (sT (j := 1) hl rfl) ?_
  refine g_iinc (Y := YX9_init) (pc := 44) (j := 0) (v := 3) (L' := [(3, .int 3), (0, .ref 128), (1, .ref 3), (2, .ref 120)]) dX9_init_44 rfl (by decide) (Nat.le_of_ble_eq_true rfl) rfl ?_
  refine g_goto (Y := YX9_init) (pc := 47) (tgt := 25) dX9_init_47 rfl ?_
  refine g_iload_n (Y := YX9_init) (pc := 25) 0 dX9_init_25 rfl ?_
  refine g_bipush (Y := YX9_init) (pc := 26) (v := 6) dX9_init_26 (by decide) ?_
  refine g_icmp_gt (Y := YX9_init) (pc := 28) (tgt := 50) dX9_init_28 rfl (fun c9 => absurd c9 (by decide)) (fun _ => ?_)
  refine g_aload_n (Y := YX9_init) (pc := 31) 1 dX9_init_31 rfl ?_
  refine h_getR (Y := YX9_init) (pc := 32) (ci := 9) (f := 2) (x := 129) dX9_init_32 ⟨(RX9, TX9, 7), rfl, by decide, (in_t2 61 rfl rfl)⟩ rfl (gT0 hl rfl) rfl rfl ?_
  refine g_iload_n (Y := YX9_init) (pc := 35) 0 dX9_init_35 rfl ?_
  refine h_new (Y := YX9_init) (pc := 36) (ci := 7) (q := (RX7, TX7, 8)) (b := 145) dX9_init_36 rfl (in_t2 57 rfl rfl) (in_t1 184 rfl rfl) ini_X7 (Nat.le_of_ble_eq_true rfl) (Nat.le_of_ble_eq_true rfl) (lT hl rfl) ?_
  refine g_dup (Y := YX9_init) (pc := 39) dX9_init_39 rfl ?_
  refine g_callI (Y := YX9_init) (pc := 40) (as := []) (st := [.ref 145, .int 3, .ref 129]) (r_X7_init (ms0 := ms0 ++ ([(9, 0, fun _ => 0, va_up (va_up (va_up (fun _ => none) 0 (some 3)) 1 (some 120)) 2 (some 129)), (16, 7, fun _ => 0, va_up (va_up (va_up (fun _ => none) 0 (some 130)) 1 (some 135)) 2 (some 140))] ++ stC 130 ++ stC 135 ++ stC 140)) (b := 145) (lT hl rfl)) mo_X7_init rfl rfl (in_t2 58 rfl rfl) (in_t1 186 rfl rfl) dX9_init_40 rfl (Nat.le_of_ble_eq_true rfl) (Nat.le_of_ble_eq_true rfl) (Nat.le_of_ble_eq_true rfl) (Nat.le_of_ble_eq_true rfl) (Nat.le_of_ble_eq_true rfl) rfl ?_
  refine g_ms (m2 := ms0 ++ ([(9, 0, fun _ => 0, va_up (va_up (va_up (fun _ => none) 0 (some 3)) 1 (some 120)) 2 (some 129)), (16, 7, fun _ => 0, va_up (va_up (va_up (fun _ => none) 0 (some 130)) 1 (some 135)) 2 (some 140))] ++ stC 130 ++ stC 135 ++ stC 140 ++ stC 145)) (List.append_assoc _ _ _) ?_
  refine g_aastS (Y := YX9_init) (pc := 43) dX9_init_43 (gT (j := 1) hl rfl) rfl (gT (j := 17) hl rfl) rfl (by decide) (Nat.le_of_ble_eq_true rfl) ?_
  refine g_ms (m2 := ms0 ++ ([(9, 0, fun _ => 0, va_up (va_up (va_up (fun _ => none) 0 (some 3)) 1 (some 120)) 2 (some 129)), (16, 7, fun _ => 0, va_up (va_up (va_up (va_up (fun _ => none) 0 (some 130)) 1 (some 135)) 2 (some 140)) 3 (some 145))] ++ stC 130 ++ stC 135 ++ stC 140 ++ stC 145)) (sT (j := 1) hl rfl) ?_
  refine g_iinc (Y := YX9_init) (pc := 44) (j := 0) (v := 4) (L' := [(3, .int 4), (0, .ref 128), (1, .ref 3), (2, .ref 120)]) dX9_init_44 rfl (by decide) (Nat.le_of_ble_eq_true rfl) rfl ?_
  refine g_goto (Y := YX9_init) (pc := 47) (tgt := 25) dX9_init_47 rfl ?_
  refine g_iload_n (Y := YX9_init) (pc := 25) 0 dX9_init_25 rfl ?_
  refine g_bipush (Y := YX9_init) (pc := 26) (v := 6) dX9_init_26 (by decide) ?_
  refine g_icmp_gt (Y := YX9_init) (pc := 28) (tgt := 50) dX9_init_28 rfl (fun c9 => absurd c9 (by decide)) (fun _ => ?_)
  refine g_aload_n (Y := YX9_init) (pc := 31) 1 dX9_init_31 rfl ?_
  refine h_getR (Y := YX9_init) (pc := 32) (ci := 9) (f := 2) (x := 129) dX9_init_32 ⟨(RX9, TX9, 7), rfl, by decide, (in_t2 61 rfl rfl)⟩ rfl (gT0 hl rfl) rfl rfl ?_
  refine g_iload_n (Y := YX9_init) (pc := 35) 0 dX9_init_35 rfl ?_
  refine h_new (Y := YX9_init) (pc := 36) (ci := 7) (q := (RX7, TX7, 8)) (b := 150) dX9_init_36 rfl (in_t2 57 rfl rfl) (in_t1 184 rfl rfl) ini_X7 (Nat.le_of_ble_eq_true rfl) (Nat.le_of_ble_eq_true rfl) (lT hl rfl) ?_
  refine g_dup (Y := YX9_init) (pc := 39) dX9_init_39 rfl ?_
  refine g_callI (Y := YX9_init) (pc := 40) (as := []) (st := [.ref 150, .int 4, .ref 129]) (r_X7_init (ms0 := ms0 ++ ([(9, 0, fun _ => 0, va_up (va_up (va_up (fun _ => none) 0 (some 3)) 1 (some 120)) 2 (some 129)), (16, 7, fun _ => 0, va_up (va_up (va_up (va_up (fun _ => none) 0 (some 130)) 1 (some 135)) 2 (some 140)) 3 (some 145))] ++ stC 130 ++ stC 135 ++ stC 140 ++ stC 145)) (b := 150) (lT hl rfl)) mo_X7_init rfl rfl (in_t2 58 rfl rfl) (in_t1 186 rfl rfl) dX9_init_40 rfl (Nat.le_of_ble_eq_true rfl) (Nat.le_of_ble_eq_true rfl) (Nat.le_of_ble_eq_true rfl) (Nat.le_of_ble_eq_true rfl) (Nat.le_of_ble_eq_true rfl) rfl ?_
  refine g_ms (m2 := ms0 ++ ([(9, 0, fun _ => 0, va_up (va_up (va_up (fun _ => none) 0 (some 3)) 1 (some 120)) 2 (some 129)), (16, 7, fun _ => 0, va_up (va_up (va_up (va_up (fun _ => none) 0 (some 130)) 1 (some 135)) 2 (some 140)) 3 (some 145))] ++ stC 130 ++ stC 135 ++ stC 140 ++ stC 145 ++ stC 150)) (List.append_assoc _ _ _) ?_
  refine g_aastS (Y := YX9_init) (pc := 43) dX9_init_43 (gT (j := 1) hl rfl) rfl (gT (j := 22) hl rfl) rfl (by decide) (Nat.le_of_ble_eq_true rfl) ?_
  refine g_ms (m2 := ms0 ++ ([(9, 0, fun _ => 0, va_up (va_up (va_up (fun _ => none) 0 (some 3)) 1 (some 120)) 2 (some 129)), (16, 7, fun _ => 0, va_up (va_up (va_up (va_up (va_up (fun _ => none) 0 (some 130)) 1 (some 135)) 2 (some 140)) 3 (some 145)) 4 (some 150))] ++ stC 130 ++ stC 135 ++ stC 140 ++ stC 145 ++ stC 150)) (sT (j := 1) hl rfl) ?_
  refine g_iinc (Y := YX9_init) (pc := 44) (j := 0) (v := 5) (L' := [(3, .int 5), (0, .ref 128), (1, .ref 3), (2, .ref 120)]) dX9_init_44 rfl (by decide) (Nat.le_of_ble_eq_true rfl) rfl ?_
  refine g_goto (Y := YX9_init) (pc := 47) (tgt := 25) dX9_init_47 rfl ?_
  refine g_iload_n (Y := YX9_init) (pc := 25) 0 dX9_init_25 rfl ?_
  refine g_bipush (Y := YX9_init) (pc := 26) (v := 6) dX9_init_26 (by decide) ?_
  refine g_icmp_gt (Y := YX9_init) (pc := 28) (tgt := 50) dX9_init_28 rfl (fun c9 => absurd c9 (by decide)) (fun _ => ?_)
  refine g_aload_n (Y := YX9_init) (pc := 31) 1 dX9_init_31 rfl ?_
  refine h_getR (Y := YX9_init) (pc := 32) (ci := 9) (f := 2) (x := 129) dX9_init_32 ⟨(RX9, TX9, 7), rfl, by decide, (in_t2 61 rfl rfl)⟩ rfl (gT0 hl rfl) rfl rfl ?_
  refine g_iload_n (Y := YX9_init) (pc := 35) 0 dX9_init_35 rfl ?_
  refine h_new (Y := YX9_init) (pc := 36) (ci := 7) (q := (RX7, TX7, 8)) (b := 155) dX9_init_36 rfl (in_t2 57 rfl rfl) (in_t1 184 rfl rfl) ini_X7 (Nat.le_of_ble_eq_true rfl) (Nat.le_of_ble_eq_true rfl) (lT hl rfl) ?_
  refine g_dup (Y := YX9_init) (pc := 39) dX9_init_39 rfl ?_
  refine g_callI (Y := YX9_init) (pc := 40) (as := []) (st := [.ref 155, .int 5, .ref 129]) (r_X7_init (ms0 := ms0 ++ ([(9, 0, fun _ => 0, va_up (va_up (va_up (fun _ => none) 0 (some 3)) 1 (some 120)) 2 (some 129)), (16, 7, fun _ => 0, va_up (va_up (va_up (va_up (va_up (fun _ => none) 0 (some 130)) 1 (some 135)) 2 (some 140)) 3 (some 145)) 4 (some 150))] ++ stC 130 ++ stC 135 ++ stC 140 ++ stC 145 ++ stC 150)) (b := 155) (lT hl rfl)) mo_X7_init rfl rfl (in_t2 58 rfl rfl) (in_t1 186 rfl rfl) dX9_init_40 rfl (Nat.le_of_ble_eq_true rfl) (Nat.le_of_ble_eq_true rfl) (Nat.le_of_ble_eq_true rfl) (Nat.le_of_ble_eq_true rfl) (Nat.le_of_ble_eq_true rfl) rfl ?_
  refine g_ms (m2 := ms0 ++ ([(9, 0, fun _ => 0, va_up (va_up (va_up (fun _ => none) 0 (some 3)) 1 (some 120)) 2 (some 129)), (16, 7, fun _ => 0, va_up (va_up (va_up (va_up (va_up (fun _ => none) 0 (some 130)) 1 (some 135)) 2 (some 140)) 3 (some 145)) 4 (some 150))] ++ stC 130 ++ stC 135 ++ stC 140 ++ stC 145 ++ stC 150 ++ stC 155)) (List.append_assoc _ _ _) ?_
  refine g_aastS (Y := YX9_init) (pc := 43) dX9_init_43 (gT (j := 1) hl rfl) rfl (gT (j := 27) hl rfl) rfl (by decide) (Nat.le_of_ble_eq_true rfl) ?_
  refine g_ms (m2 := ms0 ++ ([(9, 0, fun _ => 0, va_up (va_up (va_up (fun _ => none) 0 (some 3)) 1 (some 120)) 2 (some 129)), (16, 7, fun _ => 0, va_up (va_up (va_up (va_up (va_up (va_up (fun _ => none) 0 (some 130)) 1 (some 135)) 2 (some 140)) 3 (some 145)) 4 (some 150)) 5 (some 155))] ++ stC 130 ++ stC 135 ++ stC 140 ++ stC 145 ++ stC 150 ++ stC 155)) (sT (j := 1) hl rfl) ?_
  refine g_iinc (Y := YX9_init) (pc := 44) (j := 0) (v := 6) (L' := [(3, .int 6), (0, .ref 128), (1, .ref 3), (2, .ref 120)]) dX9_init_44 rfl (by decide) (Nat.le_of_ble_eq_true rfl) rfl ?_
  refine g_goto (Y := YX9_init) (pc := 47) (tgt := 25) dX9_init_47 rfl ?_
  refine g_iload_n (Y := YX9_init) (pc := 25) 0 dX9_init_25 rfl ?_
  refine g_bipush (Y := YX9_init) (pc := 26) (v := 6) dX9_init_26 (by decide) ?_
  refine g_icmp_gt (Y := YX9_init) (pc := 28) (tgt := 50) dX9_init_28 rfl (fun c9 => absurd c9 (by decide)) (fun _ => ?_)
  refine g_aload_n (Y := YX9_init) (pc := 31) 1 dX9_init_31 rfl ?_
  refine h_getR (Y := YX9_init) (pc := 32) (ci := 9) (f := 2) (x := 129) dX9_init_32 ⟨(RX9, TX9, 7), rfl, by decide, (in_t2 61 rfl rfl)⟩ rfl (gT0 hl rfl) rfl rfl ?_
  refine g_iload_n (Y := YX9_init) (pc := 35) 0 dX9_init_35 rfl ?_
  refine h_new (Y := YX9_init) (pc := 36) (ci := 7) (q := (RX7, TX7, 8)) (b := 160) dX9_init_36 rfl (in_t2 57 rfl rfl) (in_t1 184 rfl rfl) ini_X7 (Nat.le_of_ble_eq_true rfl) (Nat.le_of_ble_eq_true rfl) (lT hl rfl) ?_
  refine g_dup (Y := YX9_init) (pc := 39) dX9_init_39 rfl ?_
  refine g_callI (Y := YX9_init) (pc := 40) (as := []) (st := [.ref 160, .int 6, .ref 129]) (r_X7_init (ms0 := ms0 ++ ([(9, 0, fun _ => 0, va_up (va_up (va_up (fun _ => none) 0 (some 3)) 1 (some 120)) 2 (some 129)), (16, 7, fun _ => 0, va_up (va_up (va_up (va_up (va_up (va_up (fun _ => none) 0 (some 130)) 1 (some 135)) 2 (some 140)) 3 (some 145)) 4 (some 150)) 5 (some 155))] ++ stC 130 ++ stC 135 ++ stC 140 ++ stC 145 ++ stC 150 ++ stC 155)) (b := 160) (lT hl rfl)) mo_X7_init rfl rfl (in_t2 58 rfl rfl) (in_t1 186 rfl rfl) dX9_init_40 rfl (Nat.le_of_ble_eq_true rfl) (Nat.le_of_ble_eq_true rfl) (Nat.le_of_ble_eq_true rfl) (Nat.le_of_ble_eq_true rfl) (Nat.le_of_ble_eq_true rfl) rfl ?_
  refine g_ms (m2 := ms0 ++ ([(9, 0, fun _ => 0, va_up (va_up (va_up (fun _ => none) 0 (some 3)) 1 (some 120)) 2 (some 129)), (16, 7, fun _ => 0, va_up (va_up (va_up (va_up (va_up (va_up (fun _ => none) 0 (some 130)) 1 (some 135)) 2 (some 140)) 3 (some 145)) 4 (some 150)) 5 (some 155))] ++ stC 130 ++ stC 135 ++ stC 140 ++ stC 145 ++ stC 150 ++ stC 155 ++ stC 160)) (List.append_assoc _ _ _) ?_
  refine g_aastS (Y := YX9_init) (pc := 43) dX9_init_43 (gT (j := 1) hl rfl) rfl (gT (j := 32) hl rfl) rfl (by decide) (Nat.le_of_ble_eq_true rfl) ?_
  refine g_ms (m2 := ms0 ++ ([(9, 0, fun _ => 0, va_up (va_up (va_up (fun _ => none) 0 (some 3)) 1 (some 120)) 2 (some 129)), (16, 7, fun _ => 0, va_up (va_up (va_up (va_up (va_up (va_up (va_up (fun _ => none) 0 (some 130)) 1 (some 135)) 2 (some 140)) 3 (some 145)) 4 (some 150)) 5 (some 155)) 6 (some 160))] ++ stC 130 ++ stC 135 ++ stC 140 ++ stC 145 ++ stC 150 ++ stC 155 ++ stC 160)) (sT (j := 1) hl rfl) ?_
  refine g_iinc (Y := YX9_init) (pc := 44) (j := 0) (v := 7) (L' := [(3, .int 7), (0, .ref 128), (1, .ref 3), (2, .ref 120)]) dX9_init_44 rfl (by decide) (Nat.le_of_ble_eq_true rfl) rfl ?_
  refine g_goto (Y := YX9_init) (pc := 47) (tgt := 25) dX9_init_47 rfl ?_
  refine g_iload_n (Y := YX9_init) (pc := 25) 0 dX9_init_25 rfl ?_
  refine g_bipush (Y := YX9_init) (pc := 26) (v := 6) dX9_init_26 (by decide) ?_
  refine g_icmp_gt (Y := YX9_init) (pc := 28) (tgt := 50) dX9_init_28 rfl (fun _ => ?_) (fun c9 => absurd (by decide) c9)
  refine g_aload_n (Y := YX9_init) (pc := 50) 1 dX9_init_50 rfl ?_
  refine h_new (Y := YX9_init) (pc := 51) (ci := 7) (q := (RX7, TX7, 8)) (b := 165) dX9_init_51 rfl (in_t2 57 rfl rfl) (in_t1 184 rfl rfl) ini_X7 (Nat.le_of_ble_eq_true rfl) (Nat.le_of_ble_eq_true rfl) (lT hl rfl) ?_
  refine g_dup (Y := YX9_init) (pc := 54) dX9_init_54 rfl ?_
  refine g_callI (Y := YX9_init) (pc := 55) (as := []) (st := [.ref 165, .ref 128]) (r_X7_init (ms0 := ms0 ++ ([(9, 0, fun _ => 0, va_up (va_up (va_up (fun _ => none) 0 (some 3)) 1 (some 120)) 2 (some 129)), (16, 7, fun _ => 0, va_up (va_up (va_up (va_up (va_up (va_up (va_up (fun _ => none) 0 (some 130)) 1 (some 135)) 2 (some 140)) 3 (some 145)) 4 (some 150)) 5 (some 155)) 6 (some 160))] ++ stC 130 ++ stC 135 ++ stC 140 ++ stC 145 ++ stC 150 ++ stC 155 ++ stC 160)) (b := 165) (lT hl rfl)) mo_X7_init rfl rfl (in_t2 58 rfl rfl) (in_t1 186 rfl rfl) dX9_init_55 rfl (Nat.le_of_ble_eq_true rfl) (Nat.le_of_ble_eq_true rfl) (Nat.le_of_ble_eq_true rfl) (Nat.le_of_ble_eq_true rfl) (Nat.le_of_ble_eq_true rfl) rfl ?_
  refine g_ms (m2 := ms0 ++ ([(9, 0, fun _ => 0, va_up (va_up (va_up (fun _ => none) 0 (some 3)) 1 (some 120)) 2 (some 129)), (16, 7, fun _ => 0, va_up (va_up (va_up (va_up (va_up (va_up (va_up (fun _ => none) 0 (some 130)) 1 (some 135)) 2 (some 140)) 3 (some 145)) 4 (some 150)) 5 (some 155)) 6 (some 160))] ++ stC 130 ++ stC 135 ++ stC 140 ++ stC 145 ++ stC 150 ++ stC 155 ++ stC 160 ++ stC 165)) (List.append_assoc _ _ _) ?_
  refine g_putRF (Y := YX9_init) (pc := 58) (ci := 9) (f := 6) dX9_init_58 ⟨(RX9, TX9, 7), rfl, by decide, (in_t2 65 rfl rfl)⟩ rfl (fun a => ⟨rfl, rfl⟩) rfl rfl ⟨_, rfl, rfl⟩ (gT0 hl rfl) rfl ?_
  refine g_ms (m2 := ms0 ++ ([(9, 0, fun _ => 0, va_up (va_up (va_up (va_up (fun _ => none) 0 (some 3)) 1 (some 120)) 2 (some 129)) 6 (some 165)), (16, 7, fun _ => 0, va_up (va_up (va_up (va_up (va_up (va_up (va_up (fun _ => none) 0 (some 130)) 1 (some 135)) 2 (some 140)) 3 (some 145)) 4 (some 150)) 5 (some 155)) 6 (some 160))] ++ stC 130 ++ stC 135 ++ stC 140 ++ stC 145 ++ stC 150 ++ stC 155 ++ stC 160 ++ stC 165)) (sT0 hl rfl) ?_
  refine g_aload_n (Y := YX9_init) (pc := 61) 1 dX9_init_61 rfl ?_
  refine g_iconst (Y := YX9_init) (pc := 62) (v := (-1)) dX9_init_62 (by decide) ?_
  refine g_putI (Y := YX9_init) (pc := 63) (ci := 9) (f := 4) dX9_init_63 ⟨(RX9, TX9, 7), rfl, by decide, (in_t2 63 rfl rfl)⟩ (Or.inl rfl) rfl (gT0 hl rfl) rfl ?_
  refine g_ms (m2 := ms0 ++ ([(9, 0, upd (fun _ => 0) 4 (-1), va_up (va_up (va_up (va_up (fun _ => none) 0 (some 3)) 1 (some 120)) 2 (some 129)) 6 (some 165)), (16, 7, fun _ => 0, va_up (va_up (va_up (va_up (va_up (va_up (va_up (fun _ => none) 0 (some 130)) 1 (some 135)) 2 (some 140)) 3 (some 145)) 4 (some 150)) 5 (some 155)) 6 (some 160))] ++ stC 130 ++ stC 135 ++ stC 140 ++ stC 145 ++ stC 150 ++ stC 155 ++ stC 160 ++ stC 165)) (sT0 hl rfl) ?_
  exact g_vret dX9_init_66 rfl (Nat.le_of_ble_eq_true rfl) (Nat.le_of_ble_eq_true rfl)
abbrev YX2_init : MRec := (yX2_init, cX2_init, 2, none)
set_option maxRecDepth 100000 in
theorem mo_X2_init : MOK YX2_init 1 := ⟨(in_t2 86 rfl rfl), ini_X2, pl_X2, ⟨nh_X2.1, nh_X2.2, rfl⟩, by decide⟩
theorem dX2_init_0 : decode cX2_init 0 = .ok (.aload_n 0, 1) := by decide +kernel
theorem dX2_init_1 : decode cX2_init 1 = .ok (.invokespecial 3, 3) := by decide +kernel
theorem dX2_init_4 : decode cX2_init 4 = .ok (.aload_n 0, 1) := by decide +kernel
theorem dX2_init_5 : decode cX2_init 5 = .ok (.aload_n 1, 1) := by decide +kernel
theorem dX2_init_6 : decode cX2_init 6 = .ok (.putfield 9, 3) := by decide +kernel
theorem dX2_init_9 : decode cX2_init 9 = .ok (.aload_n 0, 1) := by decide +kernel
theorem dX2_init_10 : decode cX2_init 10 = .ok (.bipush 6, 2) := by decide +kernel
theorem dX2_init_12 : decode cX2_init 12 = .ok (.newarray .int, 2) := by decide +kernel
theorem dX2_init_14 : decode cX2_init 14 = .ok (.putfield 15, 3) := by decide +kernel
theorem dX2_init_17 : decode cX2_init 17 = .ok (.aload_n 0, 1) := by decide +kernel
theorem dX2_init_18 : decode cX2_init 18 = .ok (.bipush 6, 2) := by decide +kernel
theorem dX2_init_20 : decode cX2_init 20 = .ok (.newarray .int, 2) := by decide +kernel
theorem dX2_init_22 : decode cX2_init 22 = .ok (.putfield 19, 3) := by decide +kernel
theorem dX2_init_25 : decode cX2_init 25 = .ok (.return_, 1) := by decide +kernel
def joC : Mm := [(2, 0, fun _ => 0, va_up (va_up (va_up (fun _ => none) 0 (some 3)) 1 (some 171)) 2 (some 172)), (14, 6, fun _ => 0, fun _ => none), (14, 6, fun _ => 0, fun _ => none)]
set_option maxRecDepth 100000 in
set_option maxHeartbeats 4000000 in
theorem r_X2_init {l : Launch} {D : va_G} {cy : Nat → ClassId} {ad : Nat → Nat} {h : Nat} {ms0 : Mm} (hl : ms0.length = 170) : Run l D cy ad (some h) YX2_init 1 2 12 [.ref 170, .ref 3] (ms0 ++ [(2, 0, fun _ => 0, fun _ => none)]) none (ms0 ++ joC) := by
  refine Run.of 1 mo_X2_init (Nat.le_of_ble_eq_true rfl) ?_
  refine g_aload_n (Y := YX2_init) (pc := 0) 0 dX2_init_0 rfl ?_
  refine g_objInit (Y := YX2_init) (pc := 1) dX2_init_1 (in_t2 87 rfl rfl) w_obj (Nat.le_of_ble_eq_true rfl) (Nat.le_of_ble_eq_true rfl) (Nat.le_of_ble_eq_true rfl) ?_
  refine g_aload_n (Y := YX2_init) (pc := 4) 0 dX2_init_4 rfl ?_
  refine g_aload_n (Y := YX2_init) (pc := 5) 1 dX2_init_5 rfl ?_
  refine g_putRF (Y := YX2_init) (pc := 6) (ci := 2) (f := 0) dX2_init_6 ⟨(RX2, TX2, 5), rfl, by decide, (in_t2 88 rfl rfl)⟩ rfl (fun a => ⟨rfl, rfl⟩) rfl rfl ⟨_, rfl, rfl⟩ (gT0 hl rfl) rfl ?_
  refine g_ms (m2 := ms0 ++ [(2, 0, fun _ => 0, va_up (fun _ => none) 0 (some 3))]) (sT0 hl rfl) ?_
  refine g_aload_n (Y := YX2_init) (pc := 9) 0 dX2_init_9 rfl ?_
  refine g_bipush (Y := YX2_init) (pc := 10) (v := 6) dX2_init_10 (by decide) ?_
  refine h_newa (Y := YX2_init) (pc := 12) (b := 171) (N := 6) dX2_init_12 (by decide) ac_int (by decide) rfl (Nat.le_of_ble_eq_true rfl) (Nat.le_of_ble_eq_true rfl) (Nat.le_of_ble_eq_true rfl) (lT hl rfl) ?_
  refine g_ms (m2 := ms0 ++ [(2, 0, fun _ => 0, va_up (fun _ => none) 0 (some 3)), (14, 6, fun _ => 0, fun _ => none)]) (List.append_assoc _ _ _) ?_
  refine g_putRF (Y := YX2_init) (pc := 14) (ci := 2) (f := 1) dX2_init_14 ⟨(RX2, TX2, 5), rfl, by decide, (in_t2 89 rfl rfl)⟩ rfl (fun a => ⟨rfl, rfl⟩) rfl rfl ⟨_, rfl, rfl⟩ (gT0 hl rfl) rfl ?_
  refine g_ms (m2 := ms0 ++ [(2, 0, fun _ => 0, va_up (va_up (fun _ => none) 0 (some 3)) 1 (some 171)), (14, 6, fun _ => 0, fun _ => none)]) (sT0 hl rfl) ?_
  refine g_aload_n (Y := YX2_init) (pc := 17) 0 dX2_init_17 rfl ?_
  refine g_bipush (Y := YX2_init) (pc := 18) (v := 6) dX2_init_18 (by decide) ?_
  refine h_newa (Y := YX2_init) (pc := 20) (b := 172) (N := 6) dX2_init_20 (by decide) ac_int (by decide) rfl (Nat.le_of_ble_eq_true rfl) (Nat.le_of_ble_eq_true rfl) (Nat.le_of_ble_eq_true rfl) (lT hl rfl) ?_
  refine g_ms (m2 := ms0 ++ [(2, 0, fun _ => 0, va_up (va_up (fun _ => none) 0 (some 3)) 1 (some 171)), (14, 6, fun _ => 0, fun _ => none), (14, 6, fun _ => 0, fun _ => none)]) (List.append_assoc _ _ _) ?_
  refine g_putRF (Y := YX2_init) (pc := 22) (ci := 2) (f := 2) dX2_init_22 ⟨(RX2, TX2, 5), rfl, by decide, (in_t2 90 rfl rfl)⟩ rfl (fun a => ⟨rfl, rfl⟩) rfl rfl ⟨_, rfl, rfl⟩ (gT0 hl rfl) rfl ?_
  refine g_ms (m2 := ms0 ++ [(2, 0, fun _ => 0, va_up (va_up (va_up (fun _ => none) 0 (some 3)) 1 (some 171)) 2 (some 172)), (14, 6, fun _ => 0, fun _ => none), (14, 6, fun _ => 0, fun _ => none)]) (sT0 hl rfl) ?_
  exact g_vret dX2_init_25 rfl (Nat.le_of_ble_eq_true rfl) (Nat.le_of_ble_eq_true rfl)
abbrev YX10_init : MRec := (yX10_init, cX10_init, 2, none)
set_option maxRecDepth 100000 in
theorem mo_X10_init : MOK YX10_init 0 := ⟨(in_t1 24 rfl rfl), ini_X10, pl_X10, ⟨nh_X10.1, nh_X10.2, rfl⟩, by decide⟩
theorem dX10_init_0 : decode cX10_init 0 = .ok (.aload_n 0, 1) := by decide +kernel
theorem dX10_init_1 : decode cX10_init 1 = .ok (.invokespecial 1, 3) := by decide +kernel
theorem dX10_init_4 : decode cX10_init 4 = .ok (.aload_n 0, 1) := by decide +kernel
theorem dX10_init_5 : decode cX10_init 5 = .ok (.new 7, 3) := by decide +kernel
theorem dX10_init_8 : decode cX10_init 8 = .ok (.dup, 1) := by decide +kernel
theorem dX10_init_9 : decode cX10_init 9 = .ok (.invokespecial 9, 3) := by decide +kernel
theorem dX10_init_12 : decode cX10_init 12 = .ok (.putfield 10, 3) := by decide +kernel
theorem dX10_init_15 : decode cX10_init 15 = .ok (.aload_n 0, 1) := by decide +kernel
theorem dX10_init_16 : decode cX10_init 16 = .ok (.new 16, 3) := by decide +kernel
theorem dX10_init_19 : decode cX10_init 19 = .ok (.dup, 1) := by decide +kernel
theorem dX10_init_20 : decode cX10_init 20 = .ok (.invokespecial 18, 3) := by decide +kernel
theorem dX10_init_23 : decode cX10_init 23 = .ok (.putfield 19, 3) := by decide +kernel
theorem dX10_init_26 : decode cX10_init 26 = .ok (.aload_n 0, 1) := by decide +kernel
theorem dX10_init_27 : decode cX10_init 27 = .ok (.new 23, 3) := by decide +kernel
theorem dX10_init_30 : decode cX10_init 30 = .ok (.dup, 1) := by decide +kernel
theorem dX10_init_31 : decode cX10_init 31 = .ok (.aload_n 0, 1) := by decide +kernel
theorem dX10_init_32 : decode cX10_init 32 = .ok (.getfield 10, 3) := by decide +kernel
theorem dX10_init_35 : decode cX10_init 35 = .ok (.aload_n 0, 1) := by decide +kernel
theorem dX10_init_36 : decode cX10_init 36 = .ok (.getfield 19, 3) := by decide +kernel
theorem dX10_init_39 : decode cX10_init 39 = .ok (.invokespecial 25, 3) := by decide +kernel
theorem dX10_init_42 : decode cX10_init 42 = .ok (.putfield 28, 3) := by decide +kernel
theorem dX10_init_45 : decode cX10_init 45 = .ok (.aload_n 0, 1) := by decide +kernel
theorem dX10_init_46 : decode cX10_init 46 = .ok (.new 32, 3) := by decide +kernel
theorem dX10_init_49 : decode cX10_init 49 = .ok (.dup, 1) := by decide +kernel
theorem dX10_init_50 : decode cX10_init 50 = .ok (.invokespecial 34, 3) := by decide +kernel
theorem dX10_init_53 : decode cX10_init 53 = .ok (.putfield 35, 3) := by decide +kernel
theorem dX10_init_56 : decode cX10_init 56 = .ok (.aload_n 0, 1) := by decide +kernel
theorem dX10_init_57 : decode cX10_init 57 = .ok (.new 32, 3) := by decide +kernel
theorem dX10_init_60 : decode cX10_init 60 = .ok (.dup, 1) := by decide +kernel
theorem dX10_init_61 : decode cX10_init 61 = .ok (.invokespecial 34, 3) := by decide +kernel
theorem dX10_init_64 : decode cX10_init 64 = .ok (.putfield 39, 3) := by decide +kernel
theorem dX10_init_67 : decode cX10_init 67 = .ok (.aload_n 0, 1) := by decide +kernel
theorem dX10_init_68 : decode cX10_init 68 = .ok (.new 32, 3) := by decide +kernel
theorem dX10_init_71 : decode cX10_init 71 = .ok (.dup, 1) := by decide +kernel
theorem dX10_init_72 : decode cX10_init 72 = .ok (.invokespecial 34, 3) := by decide +kernel
theorem dX10_init_75 : decode cX10_init 75 = .ok (.putfield 42, 3) := by decide +kernel
theorem dX10_init_78 : decode cX10_init 78 = .ok (.aload_n 0, 1) := by decide +kernel
theorem dX10_init_79 : decode cX10_init 79 = .ok (.new 32, 3) := by decide +kernel
theorem dX10_init_82 : decode cX10_init 82 = .ok (.dup, 1) := by decide +kernel
theorem dX10_init_83 : decode cX10_init 83 = .ok (.invokespecial 34, 3) := by decide +kernel
theorem dX10_init_86 : decode cX10_init 86 = .ok (.putfield 45, 3) := by decide +kernel
theorem dX10_init_89 : decode cX10_init 89 = .ok (.aload_n 0, 1) := by decide +kernel
theorem dX10_init_90 : decode cX10_init 90 = .ok (.new 48, 3) := by decide +kernel
theorem dX10_init_93 : decode cX10_init 93 = .ok (.dup, 1) := by decide +kernel
theorem dX10_init_94 : decode cX10_init 94 = .ok (.invokespecial 50, 3) := by decide +kernel
theorem dX10_init_97 : decode cX10_init 97 = .ok (.putfield 51, 3) := by decide +kernel
theorem dX10_init_100 : decode cX10_init 100 = .ok (.aload_n 0, 1) := by decide +kernel
theorem dX10_init_101 : decode cX10_init 101 = .ok (.iconst 2, 1) := by decide +kernel
theorem dX10_init_102 : decode cX10_init 102 = .ok (.anewarray 32, 3) := by decide +kernel
theorem dX10_init_105 : decode cX10_init 105 = .ok (.putfield 55, 3) := by decide +kernel
theorem dX10_init_108 : decode cX10_init 108 = .ok (.aload_n 0, 1) := by decide +kernel
theorem dX10_init_109 : decode cX10_init 109 = .ok (.iconst 2, 1) := by decide +kernel
theorem dX10_init_110 : decode cX10_init 110 = .ok (.newarray .int, 2) := by decide +kernel
theorem dX10_init_112 : decode cX10_init 112 = .ok (.putfield 59, 3) := by decide +kernel
theorem dX10_init_115 : decode cX10_init 115 = .ok (.iconst 0, 1) := by decide +kernel
theorem dX10_init_116 : decode cX10_init 116 = .ok (.istore_n 1, 1) := by decide +kernel
theorem dX10_init_117 : decode cX10_init 117 = .ok (.iload_n 1, 1) := by decide +kernel
theorem dX10_init_118 : decode cX10_init 118 = .ok (.iconst 2, 1) := by decide +kernel
theorem dX10_init_119 : decode cX10_init 119 = .ok (.if_icmp .ge 29, 3) := by decide +kernel
theorem dX10_init_122 : decode cX10_init 122 = .ok (.aload_n 0, 1) := by decide +kernel
theorem dX10_init_123 : decode cX10_init 123 = .ok (.getfield 55, 3) := by decide +kernel
theorem dX10_init_126 : decode cX10_init 126 = .ok (.iload_n 1, 1) := by decide +kernel
theorem dX10_init_127 : decode cX10_init 127 = .ok (.new 32, 3) := by decide +kernel
theorem dX10_init_130 : decode cX10_init 130 = .ok (.dup, 1) := by decide +kernel
theorem dX10_init_131 : decode cX10_init 131 = .ok (.invokespecial 34, 3) := by decide +kernel
theorem dX10_init_134 : decode cX10_init 134 = .ok (.aastore, 1) := by decide +kernel
theorem dX10_init_135 : decode cX10_init 135 = .ok (.aload_n 0, 1) := by decide +kernel
theorem dX10_init_136 : decode cX10_init 136 = .ok (.getfield 59, 3) := by decide +kernel
theorem dX10_init_139 : decode cX10_init 139 = .ok (.iload_n 1, 1) := by decide +kernel
theorem dX10_init_140 : decode cX10_init 140 = .ok (.iconst (-1), 1) := by decide +kernel
theorem dX10_init_141 : decode cX10_init 141 = .ok (.iastore, 1) := by decide +kernel
theorem dX10_init_142 : decode cX10_init 142 = .ok (.iinc 1 1, 3) := by decide +kernel
theorem dX10_init_145 : decode cX10_init 145 = .ok (.goto (-28), 3) := by decide +kernel
theorem dX10_init_148 : decode cX10_init 148 = .ok (.aload_n 0, 1) := by decide +kernel
theorem dX10_init_149 : decode cX10_init 149 = .ok (.new 63, 3) := by decide +kernel
theorem dX10_init_152 : decode cX10_init 152 = .ok (.dup, 1) := by decide +kernel
theorem dX10_init_153 : decode cX10_init 153 = .ok (.invokespecial 65, 3) := by decide +kernel
theorem dX10_init_156 : decode cX10_init 156 = .ok (.putfield 66, 3) := by decide +kernel
theorem dX10_init_159 : decode cX10_init 159 = .ok (.aload_n 0, 1) := by decide +kernel
theorem dX10_init_160 : decode cX10_init 160 = .ok (.new 70, 3) := by decide +kernel
theorem dX10_init_163 : decode cX10_init 163 = .ok (.dup, 1) := by decide +kernel
theorem dX10_init_164 : decode cX10_init 164 = .ok (.invokespecial 72, 3) := by decide +kernel
theorem dX10_init_167 : decode cX10_init 167 = .ok (.putfield 73, 3) := by decide +kernel
theorem dX10_init_170 : decode cX10_init 170 = .ok (.aload_n 0, 1) := by decide +kernel
theorem dX10_init_171 : decode cX10_init 171 = .ok (.new 70, 3) := by decide +kernel
theorem dX10_init_174 : decode cX10_init 174 = .ok (.dup, 1) := by decide +kernel
theorem dX10_init_175 : decode cX10_init 175 = .ok (.invokespecial 72, 3) := by decide +kernel
theorem dX10_init_178 : decode cX10_init 178 = .ok (.putfield 77, 3) := by decide +kernel
theorem dX10_init_181 : decode cX10_init 181 = .ok (.aload_n 0, 1) := by decide +kernel
theorem dX10_init_182 : decode cX10_init 182 = .ok (.new 80, 3) := by decide +kernel
theorem dX10_init_185 : decode cX10_init 185 = .ok (.dup, 1) := by decide +kernel
theorem dX10_init_186 : decode cX10_init 186 = .ok (.aload_n 0, 1) := by decide +kernel
theorem dX10_init_187 : decode cX10_init 187 = .ok (.getfield 19, 3) := by decide +kernel
theorem dX10_init_190 : decode cX10_init 190 = .ok (.aload_n 0, 1) := by decide +kernel
theorem dX10_init_191 : decode cX10_init 191 = .ok (.getfield 66, 3) := by decide +kernel
theorem dX10_init_194 : decode cX10_init 194 = .ok (.invokespecial 82, 3) := by decide +kernel
theorem dX10_init_197 : decode cX10_init 197 = .ok (.putfield 85, 3) := by decide +kernel
theorem dX10_init_200 : decode cX10_init 200 = .ok (.aload_n 0, 1) := by decide +kernel
theorem dX10_init_201 : decode cX10_init 201 = .ok (.new 89, 3) := by decide +kernel
theorem dX10_init_204 : decode cX10_init 204 = .ok (.dup, 1) := by decide +kernel
theorem dX10_init_205 : decode cX10_init 205 = .ok (.aload_n 0, 1) := by decide +kernel
theorem dX10_init_206 : decode cX10_init 206 = .ok (.getfield 19, 3) := by decide +kernel
theorem dX10_init_209 : decode cX10_init 209 = .ok (.invokespecial 91, 3) := by decide +kernel
theorem dX10_init_212 : decode cX10_init 212 = .ok (.putfield 94, 3) := by decide +kernel
theorem dX10_init_215 : decode cX10_init 215 = .ok (.aload_n 0, 1) := by decide +kernel
theorem dX10_init_216 : decode cX10_init 216 = .ok (.bipush 12, 2) := by decide +kernel
theorem dX10_init_218 : decode cX10_init 218 = .ok (.newarray .int, 2) := by decide +kernel
theorem dX10_init_220 : decode cX10_init 220 = .ok (.putfield 98, 3) := by decide +kernel
theorem dX10_init_223 : decode cX10_init 223 = .ok (.aload_n 0, 1) := by decide +kernel
theorem dX10_init_224 : decode cX10_init 224 = .ok (.iconst 0, 1) := by decide +kernel
theorem dX10_init_225 : decode cX10_init 225 = .ok (.putfield 101, 3) := by decide +kernel
theorem dX10_init_228 : decode cX10_init 228 = .ok (.return_, 1) := by decide +kernel
def xxC : Mm := ([(10, 0, upd (fun _ => 0) 16 0, va_up (va_up (va_up (va_up (va_up (va_up (va_up (va_up (va_up (va_up (va_up (va_up (va_up (va_up (va_up (va_up (fun _ => none) 0 (some 1)) 1 (some 3)) 2 (some 25)) 3 (some 26)) 4 (some 31)) 5 (some 36)) 6 (some 41)) 7 (some 46)) 8 (some 108)) 9 (some 109)) 10 (some 120)) 11 (some 124)) 12 (some 126)) 13 (some 128)) 14 (some 170)) 15 (some 173))] ++ txC ++ hoC ++ liC ++ stC 26 ++ stC 31 ++ stC 36 ++ stC 41 ++ paC ++ [(16, 2, fun _ => 0, va_up (va_up (fun _ => none) 0 (some 110)) 1 (some 115)), (14, 2, upd (upd (fun _ => 0) 0 (-1)) 1 (-1), fun _ => none)] ++ stC 110 ++ stC 115 ++ heC ++ orC 124 ++ orC 126 ++ trC ++ joC ++ [(14, 12, fun _ => 0, fun _ => none)])
set_option maxRecDepth 100000 in
set_option maxHeartbeats 4000000 in
theorem r_X10_init {l : Launch} {D : va_G} {cy : Nat → ClassId} {ad : Nat → Nat} {h : Nat} {ms0 : Mm} (hl : ms0.length = 0) : Run l D cy ad (some h) YX10_init 3 173 1214 [.ref 0] (ms0 ++ [(10, 0, fun _ => 0, fun _ => none)]) none (ms0 ++ xxC) := by
  refine Run.of 0 mo_X10_init (Nat.le_of_ble_eq_true rfl) ?_
  refine g_aload_n (Y := YX10_init) (pc := 0) 0 dX10_init_0 rfl ?_
  refine g_objInit (Y := YX10_init) (pc := 1) dX10_init_1 (in_t1 25 rfl rfl) w_obj (Nat.le_of_ble_eq_true rfl) (Nat.le_of_ble_eq_true rfl) (Nat.le_of_ble_eq_true rfl) ?_
  refine g_aload_n (Y := YX10_init) (pc := 4) 0 dX10_init_4 rfl ?_
  refine h_new (Y := YX10_init) (pc := 5) (ci := 8) (q := (RX8, TX8, 3)) (b := 1) dX10_init_5 rfl (in_t1 28 rfl rfl) (in_t1 29 rfl rfl) ini_X8 (Nat.le_of_ble_eq_true rfl) (Nat.le_of_ble_eq_true rfl) (lT hl rfl) ?_
  refine g_dup (Y := YX10_init) (pc := 8) dX10_init_8 rfl ?_
  refine g_callI (Y := YX10_init) (pc := 9) (as := []) (st := [.ref 1, .ref 0]) (r_X8_init (ms0 := ms0 ++ [(10, 0, fun _ => 0, fun _ => none)]) (lT hl rfl)) mo_X8_init rfl rfl (in_t1 30 rfl rfl) (in_t1 31 rfl rfl) dX10_init_9 rfl (Nat.le_of_ble_eq_true rfl) (Nat.le_of_ble_eq_true rfl) (Nat.le_of_ble_eq_true rfl) (Nat.le_of_ble_eq_true rfl) (Nat.le_of_ble_eq_true rfl) rfl ?_
  refine g_ms (m2 := ms0 ++ ([(10, 0, fun _ => 0, fun _ => none)] ++ txC)) (List.append_assoc _ _ _) ?_
  refine g_putRF (Y := YX10_init) (pc := 12) (ci := 10) (f := 0) dX10_init_12 ⟨(RX10, TX10, 17), rfl, by decide, (in_t2 107 rfl rfl)⟩ rfl (fun a => ⟨rfl, rfl⟩) rfl rfl ⟨_, rfl, rfl⟩ (gT0 hl rfl) rfl ?_
  refine g_ms (m2 := ms0 ++ ([(10, 0, fun _ => 0, va_up (fun _ => none) 0 (some 1))] ++ txC)) (sT0 hl rfl) ?_
  refine g_aload_n (Y := YX10_init) (pc := 15) 0 dX10_init_15 rfl ?_
  refine h_new (Y := YX10_init) (pc := 16) (ci := 1) (q := (RX1, TX1, 11)) (b := 3) dX10_init_16 rfl (in_t1 52 rfl rfl) (in_t1 53 rfl rfl) ini_X1 (Nat.le_of_ble_eq_true rfl) (Nat.le_of_ble_eq_true rfl) (lT hl rfl) ?_
  refine g_dup (Y := YX10_init) (pc := 19) dX10_init_19 rfl ?_
  refine g_callI (Y := YX10_init) (pc := 20) (as := []) (st := [.ref 3, .ref 0]) (r_X1_init (ms0 := ms0 ++ ([(10, 0, fun _ => 0, va_up (fun _ => none) 0 (some 1))] ++ txC)) (lT hl rfl)) mo_X1_init rfl rfl (in_t1 54 rfl rfl) (in_t1 55 rfl rfl) dX10_init_20 rfl (Nat.le_of_ble_eq_true rfl) (Nat.le_of_ble_eq_true rfl) (Nat.le_of_ble_eq_true rfl) (Nat.le_of_ble_eq_true rfl) (Nat.le_of_ble_eq_true rfl) rfl ?_
  refine g_ms (m2 := ms0 ++ ([(10, 0, fun _ => 0, va_up (fun _ => none) 0 (some 1))] ++ txC ++ hoC)) (List.append_assoc _ _ _) ?_
  refine g_putRF (Y := YX10_init) (pc := 23) (ci := 10) (f := 1) dX10_init_23 ⟨(RX10, TX10, 17), rfl, by decide, (in_t2 108 rfl rfl)⟩ rfl (fun a => ⟨rfl, rfl⟩) rfl rfl ⟨_, rfl, rfl⟩ (gT0 hl rfl) rfl ?_
  refine g_ms (m2 := ms0 ++ ([(10, 0, fun _ => 0, va_up (va_up (fun _ => none) 0 (some 1)) 1 (some 3))] ++ txC ++ hoC)) (sT0 hl rfl) ?_
  refine g_aload_n (Y := YX10_init) (pc := 26) 0 dX10_init_26 rfl ?_
  refine h_new (Y := YX10_init) (pc := 27) (ci := 4) (q := (RX4, TX4, 3)) (b := 25) dX10_init_27 rfl (in_t1 167 rfl rfl) (in_t1 168 rfl rfl) ini_X4 (Nat.le_of_ble_eq_true rfl) (Nat.le_of_ble_eq_true rfl) (lT hl rfl) ?_
  refine g_dup (Y := YX10_init) (pc := 30) dX10_init_30 rfl ?_
  refine g_aload_n (Y := YX10_init) (pc := 31) 0 dX10_init_31 rfl ?_
  refine h_getR (Y := YX10_init) (pc := 32) (ci := 10) (f := 0) (x := 1) dX10_init_32 ⟨(RX10, TX10, 17), rfl, by decide, (in_t2 107 rfl rfl)⟩ rfl (gL (gT0 hl rfl)) rfl rfl ?_
  refine g_aload_n (Y := YX10_init) (pc := 35) 0 dX10_init_35 rfl ?_
  refine h_getR (Y := YX10_init) (pc := 36) (ci := 10) (f := 1) (x := 3) dX10_init_36 ⟨(RX10, TX10, 17), rfl, by decide, (in_t2 108 rfl rfl)⟩ rfl (gL (gT0 hl rfl)) rfl rfl ?_
  refine g_callI (Y := YX10_init) (pc := 39) (as := [.ref 1, .ref 3]) (st := [.ref 25, .ref 0]) (r_X4_init (ms0 := ms0 ++ ([(10, 0, fun _ => 0, va_up (va_up (fun _ => none) 0 (some 1)) 1 (some 3))] ++ txC ++ hoC)) (lT hl rfl)) mo_X4_init rfl rfl (in_t1 169 rfl rfl) (in_t1 170 rfl rfl) dX10_init_39 rfl (Nat.le_of_ble_eq_true rfl) (Nat.le_of_ble_eq_true rfl) (Nat.le_of_ble_eq_true rfl) (Nat.le_of_ble_eq_true rfl) (Nat.le_of_ble_eq_true rfl) rfl ?_
  refine g_ms (m2 := ms0 ++ ([(10, 0, fun _ => 0, va_up (va_up (fun _ => none) 0 (some 1)) 1 (some 3))] ++ txC ++ hoC ++ liC)) (List.append_assoc _ _ _) ?_
  refine g_putRF (Y := YX10_init) (pc := 42) (ci := 10) (f := 2) dX10_init_42 ⟨(RX10, TX10, 17), rfl, by decide, (in_t2 109 rfl rfl)⟩ rfl (fun a => ⟨rfl, rfl⟩) rfl rfl ⟨_, rfl, rfl⟩ (gT0 hl rfl) rfl ?_
  refine g_ms (m2 := ms0 ++ ([(10, 0, fun _ => 0, va_up (va_up (va_up (fun _ => none) 0 (some 1)) 1 (some 3)) 2 (some 25))] ++ txC ++ hoC ++ liC)) (sT0 hl rfl) ?_
  refine g_aload_n (Y := YX10_init) (pc := 45) 0 dX10_init_45 rfl ?_
  refine h_new (Y := YX10_init) (pc := 46) (ci := 7) (q := (RX7, TX7, 8)) (b := 26) dX10_init_46 rfl (in_t1 183 rfl rfl) (in_t1 184 rfl rfl) ini_X7 (Nat.le_of_ble_eq_true rfl) (Nat.le_of_ble_eq_true rfl) (lT hl rfl) ?_
  refine g_dup (Y := YX10_init) (pc := 49) dX10_init_49 rfl ?_
  refine g_callI (Y := YX10_init) (pc := 50) (as := []) (st := [.ref 26, .ref 0]) (r_X7_init (ms0 := ms0 ++ ([(10, 0, fun _ => 0, va_up (va_up (va_up (fun _ => none) 0 (some 1)) 1 (some 3)) 2 (some 25))] ++ txC ++ hoC ++ liC)) (b := 26) (lT hl rfl)) mo_X7_init rfl rfl (in_t1 185 rfl rfl) (in_t1 186 rfl rfl) dX10_init_50 rfl (Nat.le_of_ble_eq_true rfl) (Nat.le_of_ble_eq_true rfl) (Nat.le_of_ble_eq_true rfl) (Nat.le_of_ble_eq_true rfl) (Nat.le_of_ble_eq_true rfl) rfl ?_
  refine g_ms (m2 := ms0 ++ ([(10, 0, fun _ => 0, va_up (va_up (va_up (fun _ => none) 0 (some 1)) 1 (some 3)) 2 (some 25))] ++ txC ++ hoC ++ liC ++ stC 26)) (List.append_assoc _ _ _) ?_
  refine g_putRF (Y := YX10_init) (pc := 53) (ci := 10) (f := 3) dX10_init_53 ⟨(RX10, TX10, 17), rfl, by decide, (in_t2 110 rfl rfl)⟩ rfl (fun a => ⟨rfl, rfl⟩) rfl rfl ⟨_, rfl, rfl⟩ (gT0 hl rfl) rfl ?_
  refine g_ms (m2 := ms0 ++ ([(10, 0, fun _ => 0, va_up (va_up (va_up (va_up (fun _ => none) 0 (some 1)) 1 (some 3)) 2 (some 25)) 3 (some 26))] ++ txC ++ hoC ++ liC ++ stC 26)) (sT0 hl rfl) ?_
  refine g_aload_n (Y := YX10_init) (pc := 56) 0 dX10_init_56 rfl ?_
  refine h_new (Y := YX10_init) (pc := 57) (ci := 7) (q := (RX7, TX7, 8)) (b := 31) dX10_init_57 rfl (in_t1 183 rfl rfl) (in_t1 184 rfl rfl) ini_X7 (Nat.le_of_ble_eq_true rfl) (Nat.le_of_ble_eq_true rfl) (lT hl rfl) ?_
  refine g_dup (Y := YX10_init) (pc := 60) dX10_init_60 rfl ?_
  refine g_callI (Y := YX10_init) (pc := 61) (as := []) (st := [.ref 31, .ref 0]) (r_X7_init (ms0 := ms0 ++ ([(10, 0, fun _ => 0, va_up (va_up (va_up (va_up (fun _ => none) 0 (some 1)) 1 (some 3)) 2 (some 25)) 3 (some 26))] ++ txC ++ hoC ++ liC ++ stC 26)) (b := 31) (lT hl rfl)) mo_X7_init rfl rfl (in_t1 185 rfl rfl) (in_t1 186 rfl rfl) dX10_init_61 rfl (Nat.le_of_ble_eq_true rfl) (Nat.le_of_ble_eq_true rfl) (Nat.le_of_ble_eq_true rfl) (Nat.le_of_ble_eq_true rfl) (Nat.le_of_ble_eq_true rfl) rfl ?_
  refine g_ms (m2 := ms0 ++ ([(10, 0, fun _ => 0, va_up (va_up (va_up (va_up (fun _ => none) 0 (some 1)) 1 (some 3)) 2 (some 25)) 3 (some 26))] ++ txC ++ hoC ++ liC ++ stC 26 ++ stC 31)) (List.append_assoc _ _ _) ?_
  refine g_putRF (Y := YX10_init) (pc := 64) (ci := 10) (f := 4) dX10_init_64 ⟨(RX10, TX10, 17), rfl, by decide, (in_t2 111 rfl rfl)⟩ rfl (fun a => ⟨rfl, rfl⟩) rfl rfl ⟨_, rfl, rfl⟩ (gT0 hl rfl) rfl ?_
  refine g_ms (m2 := ms0 ++ ([(10, 0, fun _ => 0, va_up (va_up (va_up (va_up (va_up (fun _ => none) 0 (some 1)) 1 (some 3)) 2 (some 25)) 3 (some 26)) 4 (some 31))] ++ txC ++ hoC ++ liC ++ stC 26 ++ stC 31)) (sT0 hl rfl) ?_
  refine g_aload_n (Y := YX10_init) (pc := 67) 0 dX10_init_67 rfl ?_
  refine h_new (Y := YX10_init) (pc := 68) (ci := 7) (q := (RX7, TX7, 8)) (b := 36) dX10_init_68 rfl (in_t1 183 rfl rfl) (in_t1 184 rfl rfl) ini_X7 (Nat.le_of_ble_eq_true rfl) (Nat.le_of_ble_eq_true rfl) (lT hl rfl) ?_
  refine g_dup (Y := YX10_init) (pc := 71) dX10_init_71 rfl ?_
  refine g_callI (Y := YX10_init) (pc := 72) (as := []) (st := [.ref 36, .ref 0]) (r_X7_init (ms0 := ms0 ++ ([(10, 0, fun _ => 0, va_up (va_up (va_up (va_up (va_up (fun _ => none) 0 (some 1)) 1 (some 3)) 2 (some 25)) 3 (some 26)) 4 (some 31))] ++ txC ++ hoC ++ liC ++ stC 26 ++ stC 31)) (b := 36) (lT hl rfl)) mo_X7_init rfl rfl (in_t1 185 rfl rfl) (in_t1 186 rfl rfl) dX10_init_72 rfl (Nat.le_of_ble_eq_true rfl) (Nat.le_of_ble_eq_true rfl) (Nat.le_of_ble_eq_true rfl) (Nat.le_of_ble_eq_true rfl) (Nat.le_of_ble_eq_true rfl) rfl ?_
  refine g_ms (m2 := ms0 ++ ([(10, 0, fun _ => 0, va_up (va_up (va_up (va_up (va_up (fun _ => none) 0 (some 1)) 1 (some 3)) 2 (some 25)) 3 (some 26)) 4 (some 31))] ++ txC ++ hoC ++ liC ++ stC 26 ++ stC 31 ++ stC 36)) (List.append_assoc _ _ _) ?_
  refine g_putRF (Y := YX10_init) (pc := 75) (ci := 10) (f := 5) dX10_init_75 ⟨(RX10, TX10, 17), rfl, by decide, (in_t2 112 rfl rfl)⟩ rfl (fun a => ⟨rfl, rfl⟩) rfl rfl ⟨_, rfl, rfl⟩ (gT0 hl rfl) rfl ?_
  refine g_ms (m2 := ms0 ++ ([(10, 0, fun _ => 0, va_up (va_up (va_up (va_up (va_up (va_up (fun _ => none) 0 (some 1)) 1 (some 3)) 2 (some 25)) 3 (some 26)) 4 (some 31)) 5 (some 36))] ++ txC ++ hoC ++ liC ++ stC 26 ++ stC 31 ++ stC 36)) (sT0 hl rfl) ?_
  refine g_aload_n (Y := YX10_init) (pc := 78) 0 dX10_init_78 rfl ?_
  refine h_new (Y := YX10_init) (pc := 79) (ci := 7) (q := (RX7, TX7, 8)) (b := 41) dX10_init_79 rfl (in_t1 183 rfl rfl) (in_t1 184 rfl rfl) ini_X7 (Nat.le_of_ble_eq_true rfl) (Nat.le_of_ble_eq_true rfl) (lT hl rfl) ?_
  refine g_dup (Y := YX10_init) (pc := 82) dX10_init_82 rfl ?_
  refine g_callI (Y := YX10_init) (pc := 83) (as := []) (st := [.ref 41, .ref 0]) (r_X7_init (ms0 := ms0 ++ ([(10, 0, fun _ => 0, va_up (va_up (va_up (va_up (va_up (va_up (fun _ => none) 0 (some 1)) 1 (some 3)) 2 (some 25)) 3 (some 26)) 4 (some 31)) 5 (some 36))] ++ txC ++ hoC ++ liC ++ stC 26 ++ stC 31 ++ stC 36)) (b := 41) (lT hl rfl)) mo_X7_init rfl rfl (in_t1 185 rfl rfl) (in_t1 186 rfl rfl) dX10_init_83 rfl (Nat.le_of_ble_eq_true rfl) (Nat.le_of_ble_eq_true rfl) (Nat.le_of_ble_eq_true rfl) (Nat.le_of_ble_eq_true rfl) (Nat.le_of_ble_eq_true rfl) rfl ?_
  refine g_ms (m2 := ms0 ++ ([(10, 0, fun _ => 0, va_up (va_up (va_up (va_up (va_up (va_up (fun _ => none) 0 (some 1)) 1 (some 3)) 2 (some 25)) 3 (some 26)) 4 (some 31)) 5 (some 36))] ++ txC ++ hoC ++ liC ++ stC 26 ++ stC 31 ++ stC 36 ++ stC 41)) (List.append_assoc _ _ _) ?_
  refine g_putRF (Y := YX10_init) (pc := 86) (ci := 10) (f := 6) dX10_init_86 ⟨(RX10, TX10, 17), rfl, by decide, (in_t2 113 rfl rfl)⟩ rfl (fun a => ⟨rfl, rfl⟩) rfl rfl ⟨_, rfl, rfl⟩ (gT0 hl rfl) rfl ?_
  refine g_ms (m2 := ms0 ++ ([(10, 0, fun _ => 0, va_up (va_up (va_up (va_up (va_up (va_up (va_up (fun _ => none) 0 (some 1)) 1 (some 3)) 2 (some 25)) 3 (some 26)) 4 (some 31)) 5 (some 36)) 6 (some 41))] ++ txC ++ hoC ++ liC ++ stC 26 ++ stC 31 ++ stC 36 ++ stC 41)) (sT0 hl rfl) ?_
  refine g_aload_n (Y := YX10_init) (pc := 89) 0 dX10_init_89 rfl ?_
  refine h_new (Y := YX10_init) (pc := 90) (ci := 6) (q := (RX6, TX6, 3)) (b := 46) dX10_init_90 rfl (in_t1 234 rfl rfl) (in_t1 235 rfl rfl) ini_X6 (Nat.le_of_ble_eq_true rfl) (Nat.le_of_ble_eq_true rfl) (lT hl rfl) ?_
  refine g_dup (Y := YX10_init) (pc := 93) dX10_init_93 rfl ?_
  refine g_callI (Y := YX10_init) (pc := 94) (as := []) (st := [.ref 46, .ref 0]) (r_X6_init (ms0 := ms0 ++ ([(10, 0, fun _ => 0, va_up (va_up (va_up (va_up (va_up (va_up (va_up (fun _ => none) 0 (some 1)) 1 (some 3)) 2 (some 25)) 3 (some 26)) 4 (some 31)) 5 (some 36)) 6 (some 41))] ++ txC ++ hoC ++ liC ++ stC 26 ++ stC 31 ++ stC 36 ++ stC 41)) (lT hl rfl)) mo_X6_init rfl rfl (in_t1 236 rfl rfl) (in_t1 237 rfl rfl) dX10_init_94 rfl (Nat.le_of_ble_eq_true rfl) (Nat.le_of_ble_eq_true rfl) (Nat.le_of_ble_eq_true rfl) (Nat.le_of_ble_eq_true rfl) (Nat.le_of_ble_eq_true rfl) rfl ?_
  refine g_ms (m2 := ms0 ++ ([(10, 0, fun _ => 0, va_up (va_up (va_up (va_up (va_up (va_up (va_up (fun _ => none) 0 (some 1)) 1 (some 3)) 2 (some 25)) 3 (some 26)) 4 (some 31)) 5 (some 36)) 6 (some 41))] ++ txC ++ hoC ++ liC ++ stC 26 ++ stC 31 ++ stC 36 ++ stC 41 ++ paC)) (List.append_assoc _ _ _) ?_
  refine g_putRF (Y := YX10_init) (pc := 97) (ci := 10) (f := 7) dX10_init_97 ⟨(RX10, TX10, 17), rfl, by decide, (in_t2 114 rfl rfl)⟩ rfl (fun a => ⟨rfl, rfl⟩) rfl rfl ⟨_, rfl, rfl⟩ (gT0 hl rfl) rfl ?_
  refine g_ms (m2 := ms0 ++ ([(10, 0, fun _ => 0, va_up (va_up (va_up (va_up (va_up (va_up (va_up (va_up (fun _ => none) 0 (some 1)) 1 (some 3)) 2 (some 25)) 3 (some 26)) 4 (some 31)) 5 (some 36)) 6 (some 41)) 7 (some 46))] ++ txC ++ hoC ++ liC ++ stC 26 ++ stC 31 ++ stC 36 ++ stC 41 ++ paC)) (sT0 hl rfl) ?_
  refine g_aload_n (Y := YX10_init) (pc := 100) 0 dX10_init_100 rfl ?_
  refine g_iconst (Y := YX10_init) (pc := 101) (v := 2) dX10_init_101 (by decide) ?_
  refine h_newS (Y := YX10_init) (pc := 102) (b := 108) (N := 2) dX10_init_102 (in_t1 183 rfl rfl) (by decide) rfl (Nat.le_of_ble_eq_true rfl) (Nat.le_of_ble_eq_true rfl) (Nat.le_of_ble_eq_true rfl) (lT hl rfl) ?_
  refine g_ms (m2 := ms0 ++ ([(10, 0, fun _ => 0, va_up (va_up (va_up (va_up (va_up (va_up (va_up (va_up (fun _ => none) 0 (some 1)) 1 (some 3)) 2 (some 25)) 3 (some 26)) 4 (some 31)) 5 (some 36)) 6 (some 41)) 7 (some 46))] ++ txC ++ hoC ++ liC ++ stC 26 ++ stC 31 ++ stC 36 ++ stC 41 ++ paC ++ [(16, 2, fun _ => 0, fun _ => none)])) (List.append_assoc _ _ _) ?_
  refine g_putRF (Y := YX10_init) (pc := 105) (ci := 10) (f := 8) dX10_init_105 ⟨(RX10, TX10, 17), rfl, by decide, (in_t2 115 rfl rfl)⟩ rfl (fun a => ⟨rfl, rfl⟩) rfl rfl ⟨_, rfl, rfl⟩ (gT0 hl rfl) rfl ?_
  refine g_ms (m2 := ms0 ++ ([(10, 0, fun _ => 0, va_up (va_up (va_up (va_up (va_up (va_up (va_up (va_up (va_up (fun _ => none) 0 (some 1)) 1 (some 3)) 2 (some 25)) 3 (some 26)) 4 (some 31)) 5 (some 36)) 6 (some 41)) 7 (some 46)) 8 (some 108))] ++ txC ++ hoC ++ liC ++ stC 26 ++ stC 31 ++ stC 36 ++ stC 41 ++ paC ++ [(16, 2, fun _ => 0, fun _ => none)])) (sT0 hl rfl) ?_
  refine g_aload_n (Y := YX10_init) (pc := 108) 0 dX10_init_108 rfl ?_
  refine g_iconst (Y := YX10_init) (pc := 109) (v := 2) dX10_init_109 (by decide) ?_
  refine h_newa (Y := YX10_init) (pc := 110) (b := 109) (N := 2) dX10_init_110 (by decide) ac_int (by decide) rfl (Nat.le_of_ble_eq_true rfl) (Nat.le_of_ble_eq_true rfl) (Nat.le_of_ble_eq_true rfl) (lT hl rfl) ?_
  refine g_ms (m2 := ms0 ++ ([(10, 0, fun _ => 0, va_up (va_up (va_up (va_up (va_up (va_up (va_up (va_up (va_up (fun _ => none) 0 (some 1)) 1 (some 3)) 2 (some 25)) 3 (some 26)) 4 (some 31)) 5 (some 36)) 6 (some 41)) 7 (some 46)) 8 (some 108))] ++ txC ++ hoC ++ liC ++ stC 26 ++ stC 31 ++ stC 36 ++ stC 41 ++ paC ++ [(16, 2, fun _ => 0, fun _ => none), (14, 2, fun _ => 0, fun _ => none)])) (List.append_assoc _ _ _) ?_
  refine g_putRF (Y := YX10_init) (pc := 112) (ci := 10) (f := 9) dX10_init_112 ⟨(RX10, TX10, 17), rfl, by decide, (in_t2 116 rfl rfl)⟩ rfl (fun a => ⟨rfl, rfl⟩) rfl rfl ⟨_, rfl, rfl⟩ (gT0 hl rfl) rfl ?_
  refine g_ms (m2 := ms0 ++ ([(10, 0, fun _ => 0, va_up (va_up (va_up (va_up (va_up (va_up (va_up (va_up (va_up (va_up (fun _ => none) 0 (some 1)) 1 (some 3)) 2 (some 25)) 3 (some 26)) 4 (some 31)) 5 (some 36)) 6 (some 41)) 7 (some 46)) 8 (some 108)) 9 (some 109))] ++ txC ++ hoC ++ liC ++ stC 26 ++ stC 31 ++ stC 36 ++ stC 41 ++ paC ++ [(16, 2, fun _ => 0, fun _ => none), (14, 2, fun _ => 0, fun _ => none)])) (sT0 hl rfl) ?_
  refine g_iconst (Y := YX10_init) (pc := 115) (v := 0) dX10_init_115 (by decide) ?_
  refine g_istore_n (Y := YX10_init) (pc := 116) (L' := [(1, .int 0), (0, .ref 0)]) dX10_init_116 (Nat.le_of_ble_eq_true rfl) rfl ?_
  refine g_iload_n (Y := YX10_init) (pc := 117) 0 dX10_init_117 rfl ?_
  refine g_iconst (Y := YX10_init) (pc := 118) (v := 2) dX10_init_118 (by decide) ?_
  refine g_icmp_ge (Y := YX10_init) (pc := 119) (tgt := 148) dX10_init_119 rfl (fun c9 => absurd (by decide) c9) (fun _ => ?_)
  refine g_aload_n (Y := YX10_init) (pc := 122) 1 dX10_init_122 rfl ?_
  refine h_getR (Y := YX10_init) (pc := 123) (ci := 10) (f := 8) (x := 108) dX10_init_123 ⟨(RX10, TX10, 17), rfl, by decide, (in_t2 115 rfl rfl)⟩ rfl (gT0 hl rfl) rfl rfl ?_
  refine g_iload_n (Y := YX10_init) (pc := 126) 0 dX10_init_126 rfl ?_
  refine h_new (Y := YX10_init) (pc := 127) (ci := 7) (q := (RX7, TX7, 8)) (b := 110) dX10_init_127 rfl (in_t1 183 rfl rfl) (in_t1 184 rfl rfl) ini_X7 (Nat.le_of_ble_eq_true rfl) (Nat.le_of_ble_eq_true rfl) (lT hl rfl) ?_
  refine g_dup (Y := YX10_init) (pc := 130) dX10_init_130 rfl ?_
  refine g_callI (Y := YX10_init) (pc := 131) (as := []) (st := [.ref 110, .int 0, .ref 108]) (r_X7_init (ms0 := ms0 ++ ([(10, 0, fun _ => 0, va_up (va_up (va_up (va_up (va_up (va_up (va_up (va_up (va_up (va_up (fun _ => none) 0 (some 1)) 1 (some 3)) 2 (some 25)) 3 (some 26)) 4 (some 31)) 5 (some 36)) 6 (some 41)) 7 (some 46)) 8 (some 108)) 9 (some 109))] ++ txC ++ hoC ++ liC ++ stC 26 ++ stC 31 ++ stC 36 ++ stC 41 ++ paC ++ [(16, 2, fun _ => 0, fun _ => none), (14, 2, fun _ => 0, fun _ => none)])) (b := 110) (lT hl rfl)) mo_X7_init rfl rfl (in_t1 185 rfl rfl) (in_t1 186 rfl rfl) dX10_init_131 rfl (Nat.le_of_ble_eq_true rfl) (Nat.le_of_ble_eq_true rfl) (Nat.le_of_ble_eq_true rfl) (Nat.le_of_ble_eq_true rfl) (Nat.le_of_ble_eq_true rfl) rfl ?_
  refine g_ms (m2 := ms0 ++ ([(10, 0, fun _ => 0, va_up (va_up (va_up (va_up (va_up (va_up (va_up (va_up (va_up (va_up (fun _ => none) 0 (some 1)) 1 (some 3)) 2 (some 25)) 3 (some 26)) 4 (some 31)) 5 (some 36)) 6 (some 41)) 7 (some 46)) 8 (some 108)) 9 (some 109))] ++ txC ++ hoC ++ liC ++ stC 26 ++ stC 31 ++ stC 36 ++ stC 41 ++ paC ++ [(16, 2, fun _ => 0, fun _ => none), (14, 2, fun _ => 0, fun _ => none)] ++ stC 110)) (List.append_assoc _ _ _) ?_
  refine g_aastS (Y := YX10_init) (pc := 134) dX10_init_134 (gT (j := 108) hl rfl) rfl (gT (j := 110) hl rfl) rfl (by decide) (Nat.le_of_ble_eq_true rfl) ?_
  refine g_ms (m2 := ms0 ++ ([(10, 0, fun _ => 0, va_up (va_up (va_up (va_up (va_up (va_up (va_up (va_up (va_up (va_up (fun _ => none) 0 (some 1)) 1 (some 3)) 2 (some 25)) 3 (some 26)) 4 (some 31)) 5 (some 36)) 6 (some 41)) 7 (some 46)) 8 (some 108)) 9 (some 109))] ++ txC ++ hoC ++ liC ++ stC 26 ++ stC 31 ++ stC 36 ++ stC 41 ++ paC ++ [(16, 2, fun _ => 0, va_up (fun _ => none) 0 (some 110)), (14, 2, fun _ => 0, fun _ => none)] ++ stC 110)) (sT (j := 108) hl rfl) ?_
  refine g_aload_n (Y := YX10_init) (pc := 135) 1 dX10_init_135 rfl ?_
  refine h_getR (Y := YX10_init) (pc := 136) (ci := 10) (f := 9) (x := 109) dX10_init_136 ⟨(RX10, TX10, 17), rfl, by decide, (in_t2 116 rfl rfl)⟩ rfl (gT0 hl rfl) rfl rfl ?_
  refine g_iload_n (Y := YX10_init) (pc := 139) 0 dX10_init_139 rfl ?_
  refine g_iconst (Y := YX10_init) (pc := 140) (v := (-1)) dX10_init_140 (by decide) ?_
  refine g_iast (Y := YX10_init) (pc := 141) dX10_init_141 (gT (j := 109) hl rfl) rfl (by decide) (Nat.le_of_ble_eq_true rfl) ?_
  refine g_ms (m2 := ms0 ++ ([(10, 0, fun _ => 0, va_up (va_up (va_up (va_up (va_up (va_up (va_up (va_up (va_up (va_up (fun _ => none) 0 (some 1)) 1 (some 3)) 2 (some 25)) 3 (some 26)) 4 (some 31)) 5 (some 36)) 6 (some 41)) 7 (some 46)) 8 (some 108)) 9 (some 109))] ++ txC ++ hoC ++ liC ++ stC 26 ++ stC 31 ++ stC 36 ++ stC 41 ++ paC ++ [(16, 2, fun _ => 0, va_up (fun _ => none) 0 (some 110)), (14, 2, upd (fun _ => 0) 0 (-1), fun _ => none)] ++ stC 110)) (sT (j := 109) hl rfl) ?_
  refine g_iinc (Y := YX10_init) (pc := 142) (j := 0) (v := 1) (L' := [(1, .int 1), (0, .ref 0)]) dX10_init_142 rfl (by decide) (Nat.le_of_ble_eq_true rfl) rfl ?_
  refine g_goto (Y := YX10_init) (pc := 145) (tgt := 117) dX10_init_145 rfl ?_
  refine g_iload_n (Y := YX10_init) (pc := 117) 0 dX10_init_117 rfl ?_
  refine g_iconst (Y := YX10_init) (pc := 118) (v := 2) dX10_init_118 (by decide) ?_
  refine g_icmp_ge (Y := YX10_init) (pc := 119) (tgt := 148) dX10_init_119 rfl (fun c9 => absurd (by decide) c9) (fun _ => ?_)
  refine g_aload_n (Y := YX10_init) (pc := 122) 1 dX10_init_122 rfl ?_
  refine h_getR (Y := YX10_init) (pc := 123) (ci := 10) (f := 8) (x := 108) dX10_init_123 ⟨(RX10, TX10, 17), rfl, by decide, (in_t2 115 rfl rfl)⟩ rfl (gT0 hl rfl) rfl rfl ?_
  refine g_iload_n (Y := YX10_init) (pc := 126) 0 dX10_init_126 rfl ?_
  refine h_new (Y := YX10_init) (pc := 127) (ci := 7) (q := (RX7, TX7, 8)) (b := 115) dX10_init_127 rfl (in_t1 183 rfl rfl) (in_t1 184 rfl rfl) ini_X7 (Nat.le_of_ble_eq_true rfl) (Nat.le_of_ble_eq_true rfl) (lT hl rfl) ?_
  refine g_dup (Y := YX10_init) (pc := 130) dX10_init_130 rfl ?_
  refine g_callI (Y := YX10_init) (pc := 131) (as := []) (st := [.ref 115, .int 1, .ref 108]) (r_X7_init (ms0 := ms0 ++ ([(10, 0, fun _ => 0, va_up (va_up (va_up (va_up (va_up (va_up (va_up (va_up (va_up (va_up (fun _ => none) 0 (some 1)) 1 (some 3)) 2 (some 25)) 3 (some 26)) 4 (some 31)) 5 (some 36)) 6 (some 41)) 7 (some 46)) 8 (some 108)) 9 (some 109))] ++ txC ++ hoC ++ liC ++ stC 26 ++ stC 31 ++ stC 36 ++ stC 41 ++ paC ++ [(16, 2, fun _ => 0, va_up (fun _ => none) 0 (some 110)), (14, 2, upd (fun _ => 0) 0 (-1), fun _ => none)] ++ stC 110)) (b := 115) (lT hl rfl)) mo_X7_init rfl rfl (in_t1 185 rfl rfl) (in_t1 186 rfl rfl) dX10_init_131 rfl (Nat.le_of_ble_eq_true rfl) (Nat.le_of_ble_eq_true rfl) (Nat.le_of_ble_eq_true rfl) (Nat.le_of_ble_eq_true rfl) (Nat.le_of_ble_eq_true rfl) rfl ?_
  refine g_ms (m2 := ms0 ++ ([(10, 0, fun _ => 0, va_up (va_up (va_up (va_up (va_up (va_up (va_up (va_up (va_up (va_up (fun _ => none) 0 (some 1)) 1 (some 3)) 2 (some 25)) 3 (some 26)) 4 (some 31)) 5 (some 36)) 6 (some 41)) 7 (some 46)) 8 (some 108)) 9 (some 109))] ++ txC ++ hoC ++ liC ++ stC 26 ++ stC 31 ++ stC 36 ++ stC 41 ++ paC ++ [(16, 2, fun _ => 0, va_up (fun _ => none) 0 (some 110)), (14, 2, upd (fun _ => 0) 0 (-1), fun _ => none)] ++ stC 110 ++ stC 115)) (List.append_assoc _ _ _) ?_
  refine g_aastS (Y := YX10_init) (pc := 134) dX10_init_134 (gT (j := 108) hl rfl) rfl (gT (j := 115) hl rfl) rfl (by decide) (Nat.le_of_ble_eq_true rfl) ?_
  refine g_ms (m2 := ms0 ++ ([(10, 0, fun _ => 0, va_up (va_up (va_up (va_up (va_up (va_up (va_up (va_up (va_up (va_up (fun _ => none) 0 (some 1)) 1 (some 3)) 2 (some 25)) 3 (some 26)) 4 (some 31)) 5 (some 36)) 6 (some 41)) 7 (some 46)) 8 (some 108)) 9 (some 109))] ++ txC ++ hoC ++ liC ++ stC 26 ++ stC 31 ++ stC 36 ++ stC 41 ++ paC ++ [(16, 2, fun _ => 0, va_up (va_up (fun _ => none) 0 (some 110)) 1 (some 115)), (14, 2, upd (fun _ => 0) 0 (-1), fun _ => none)] ++ stC 110 ++ stC 115)) (sT (j := 108) hl rfl) ?_
  refine g_aload_n (Y := YX10_init) (pc := 135) 1 dX10_init_135 rfl ?_
  refine h_getR (Y := YX10_init) (pc := 136) (ci := 10) (f := 9) (x := 109) dX10_init_136 ⟨(RX10, TX10, 17), rfl, by decide, (in_t2 116 rfl rfl)⟩ rfl (gT0 hl rfl) rfl rfl ?_
  refine g_iload_n (Y := YX10_init) (pc := 139) 0 dX10_init_139 rfl ?_
  refine g_iconst (Y := YX10_init) (pc := 140) (v := (-1)) dX10_init_140 (by decide) ?_
  refine g_iast (Y := YX10_init) (pc := 141) dX10_init_141 (gT (j := 109) hl rfl) rfl (by decide) (Nat.le_of_ble_eq_true rfl) ?_
  refine g_ms (m2 := ms0 ++ ([(10, 0, fun _ => 0, va_up (va_up (va_up (va_up (va_up (va_up (va_up (va_up (va_up (va_up (fun _ => none) 0 (some 1)) 1 (some 3)) 2 (some 25)) 3 (some 26)) 4 (some 31)) 5 (some 36)) 6 (some 41)) 7 (some 46)) 8 (some 108)) 9 (some 109))] ++ txC ++ hoC ++ liC ++ stC 26 ++ stC 31 ++ stC 36 ++ stC 41 ++ paC ++ [(16, 2, fun _ => 0, va_up (va_up (fun _ => none) 0 (some 110)) 1 (some 115)), (14, 2, upd (upd (fun _ => 0) 0 (-1)) 1 (-1), fun _ => none)] ++ stC 110 ++ stC 115)) (sT (j := 109) hl rfl) ?_
  refine g_iinc (Y := YX10_init) (pc := 142) (j := 0) (v := 2) (L' := [(1, .int 2), (0, .ref 0)]) dX10_init_142 rfl (by decide) (Nat.le_of_ble_eq_true rfl) rfl ?_
  refine g_goto (Y := YX10_init) (pc := 145) (tgt := 117) dX10_init_145 rfl ?_
  refine g_iload_n (Y := YX10_init) (pc := 117) 0 dX10_init_117 rfl ?_
  refine g_iconst (Y := YX10_init) (pc := 118) (v := 2) dX10_init_118 (by decide) ?_
  refine g_icmp_ge (Y := YX10_init) (pc := 119) (tgt := 148) dX10_init_119 rfl (fun _ => ?_) (fun c9 => absurd c9 (by decide))
  refine g_aload_n (Y := YX10_init) (pc := 148) 1 dX10_init_148 rfl ?_
  refine h_new (Y := YX10_init) (pc := 149) (ci := 0) (q := (RX0, TX0, 4)) (b := 120) dX10_init_149 rfl (in_t2 14 rfl rfl) (in_t2 15 rfl rfl) ini_X0 (Nat.le_of_ble_eq_true rfl) (Nat.le_of_ble_eq_true rfl) (lT hl rfl) ?_
  refine g_dup (Y := YX10_init) (pc := 152) dX10_init_152 rfl ?_
  refine g_callI (Y := YX10_init) (pc := 153) (as := []) (st := [.ref 120, .ref 0]) (r_X0_init (ms0 := ms0 ++ ([(10, 0, fun _ => 0, va_up (va_up (va_up (va_up (va_up (va_up (va_up (va_up (va_up (va_up (fun _ => none) 0 (some 1)) 1 (some 3)) 2 (some 25)) 3 (some 26)) 4 (some 31)) 5 (some 36)) 6 (some 41)) 7 (some 46)) 8 (some 108)) 9 (some 109))] ++ txC ++ hoC ++ liC ++ stC 26 ++ stC 31 ++ stC 36 ++ stC 41 ++ paC ++ [(16, 2, fun _ => 0, va_up (va_up (fun _ => none) 0 (some 110)) 1 (some 115)), (14, 2, upd (upd (fun _ => 0) 0 (-1)) 1 (-1), fun _ => none)] ++ stC 110 ++ stC 115)) (lT hl rfl)) mo_X0_init rfl rfl (in_t2 16 rfl rfl) (in_t2 17 rfl rfl) dX10_init_153 rfl (Nat.le_of_ble_eq_true rfl) (Nat.le_of_ble_eq_true rfl) (Nat.le_of_ble_eq_true rfl) (Nat.le_of_ble_eq_true rfl) (Nat.le_of_ble_eq_true rfl) rfl ?_
  refine g_ms (m2 := ms0 ++ ([(10, 0, fun _ => 0, va_up (va_up (va_up (va_up (va_up (va_up (va_up (va_up (va_up (va_up (fun _ => none) 0 (some 1)) 1 (some 3)) 2 (some 25)) 3 (some 26)) 4 (some 31)) 5 (some 36)) 6 (some 41)) 7 (some 46)) 8 (some 108)) 9 (some 109))] ++ txC ++ hoC ++ liC ++ stC 26 ++ stC 31 ++ stC 36 ++ stC 41 ++ paC ++ [(16, 2, fun _ => 0, va_up (va_up (fun _ => none) 0 (some 110)) 1 (some 115)), (14, 2, upd (upd (fun _ => 0) 0 (-1)) 1 (-1), fun _ => none)] ++ stC 110 ++ stC 115 ++ heC)) (List.append_assoc _ _ _) ?_
  refine g_putRF (Y := YX10_init) (pc := 156) (ci := 10) (f := 10) dX10_init_156 ⟨(RX10, TX10, 17), rfl, by decide, (in_t2 117 rfl rfl)⟩ rfl (fun a => ⟨rfl, rfl⟩) rfl rfl ⟨_, rfl, rfl⟩ (gT0 hl rfl) rfl ?_
  refine g_ms (m2 := ms0 ++ ([(10, 0, fun _ => 0, va_up (va_up (va_up (va_up (va_up (va_up (va_up (va_up (va_up (va_up (va_up (fun _ => none) 0 (some 1)) 1 (some 3)) 2 (some 25)) 3 (some 26)) 4 (some 31)) 5 (some 36)) 6 (some 41)) 7 (some 46)) 8 (some 108)) 9 (some 109)) 10 (some 120))] ++ txC ++ hoC ++ liC ++ stC 26 ++ stC 31 ++ stC 36 ++ stC 41 ++ paC ++ [(16, 2, fun _ => 0, va_up (va_up (fun _ => none) 0 (some 110)) 1 (some 115)), (14, 2, upd (upd (fun _ => 0) 0 (-1)) 1 (-1), fun _ => none)] ++ stC 110 ++ stC 115 ++ heC)) (sT0 hl rfl) ?_
  refine g_aload_n (Y := YX10_init) (pc := 159) 1 dX10_init_159 rfl ?_
  refine h_new (Y := YX10_init) (pc := 160) (ci := 5) (q := (RX5, TX5, 2)) (b := 124) dX10_init_160 rfl (in_t2 34 rfl rfl) (in_t2 35 rfl rfl) ini_X5 (Nat.le_of_ble_eq_true rfl) (Nat.le_of_ble_eq_true rfl) (lT hl rfl) ?_
  refine g_dup (Y := YX10_init) (pc := 163) dX10_init_163 rfl ?_
  refine g_callI (Y := YX10_init) (pc := 164) (as := []) (st := [.ref 124, .ref 0]) (r_X5_init (ms0 := ms0 ++ ([(10, 0, fun _ => 0, va_up (va_up (va_up (va_up (va_up (va_up (va_up (va_up (va_up (va_up (va_up (fun _ => none) 0 (some 1)) 1 (some 3)) 2 (some 25)) 3 (some 26)) 4 (some 31)) 5 (some 36)) 6 (some 41)) 7 (some 46)) 8 (some 108)) 9 (some 109)) 10 (some 120))] ++ txC ++ hoC ++ liC ++ stC 26 ++ stC 31 ++ stC 36 ++ stC 41 ++ paC ++ [(16, 2, fun _ => 0, va_up (va_up (fun _ => none) 0 (some 110)) 1 (some 115)), (14, 2, upd (upd (fun _ => 0) 0 (-1)) 1 (-1), fun _ => none)] ++ stC 110 ++ stC 115 ++ heC)) (b := 124) (lT hl rfl)) mo_X5_init rfl rfl (in_t2 36 rfl rfl) (in_t2 37 rfl rfl) dX10_init_164 rfl (Nat.le_of_ble_eq_true rfl) (Nat.le_of_ble_eq_true rfl) (Nat.le_of_ble_eq_true rfl) (Nat.le_of_ble_eq_true rfl) (Nat.le_of_ble_eq_true rfl) rfl ?_
  refine g_ms (m2 := ms0 ++ ([(10, 0, fun _ => 0, va_up (va_up (va_up (va_up (va_up (va_up (va_up (va_up (va_up (va_up (va_up (fun _ => none) 0 (some 1)) 1 (some 3)) 2 (some 25)) 3 (some 26)) 4 (some 31)) 5 (some 36)) 6 (some 41)) 7 (some 46)) 8 (some 108)) 9 (some 109)) 10 (some 120))] ++ txC ++ hoC ++ liC ++ stC 26 ++ stC 31 ++ stC 36 ++ stC 41 ++ paC ++ [(16, 2, fun _ => 0, va_up (va_up (fun _ => none) 0 (some 110)) 1 (some 115)), (14, 2, upd (upd (fun _ => 0) 0 (-1)) 1 (-1), fun _ => none)] ++ stC 110 ++ stC 115 ++ heC ++ orC 124)) (List.append_assoc _ _ _) ?_
  refine g_putRF (Y := YX10_init) (pc := 167) (ci := 10) (f := 11) dX10_init_167 ⟨(RX10, TX10, 17), rfl, by decide, (in_t2 118 rfl rfl)⟩ rfl (fun a => ⟨rfl, rfl⟩) rfl rfl ⟨_, rfl, rfl⟩ (gT0 hl rfl) rfl ?_
  refine g_ms (m2 := ms0 ++ ([(10, 0, fun _ => 0, va_up (va_up (va_up (va_up (va_up (va_up (va_up (va_up (va_up (va_up (va_up (va_up (fun _ => none) 0 (some 1)) 1 (some 3)) 2 (some 25)) 3 (some 26)) 4 (some 31)) 5 (some 36)) 6 (some 41)) 7 (some 46)) 8 (some 108)) 9 (some 109)) 10 (some 120)) 11 (some 124))] ++ txC ++ hoC ++ liC ++ stC 26 ++ stC 31 ++ stC 36 ++ stC 41 ++ paC ++ [(16, 2, fun _ => 0, va_up (va_up (fun _ => none) 0 (some 110)) 1 (some 115)), (14, 2, upd (upd (fun _ => 0) 0 (-1)) 1 (-1), fun _ => none)] ++ stC 110 ++ stC 115 ++ heC ++ orC 124)) (sT0 hl rfl) ?_
  refine g_aload_n (Y := YX10_init) (pc := 170) 1 dX10_init_170 rfl ?_
  refine h_new (Y := YX10_init) (pc := 171) (ci := 5) (q := (RX5, TX5, 2)) (b := 126) dX10_init_171 rfl (in_t2 34 rfl rfl) (in_t2 35 rfl rfl) ini_X5 (Nat.le_of_ble_eq_true rfl) (Nat.le_of_ble_eq_true rfl) (lT hl rfl) ?_
  refine g_dup (Y := YX10_init) (pc := 174) dX10_init_174 rfl ?_
  refine g_callI (Y := YX10_init) (pc := 175) (as := []) (st := [.ref 126, .ref 0]) (r_X5_init (ms0 := ms0 ++ ([(10, 0, fun _ => 0, va_up (va_up (va_up (va_up (va_up (va_up (va_up (va_up (va_up (va_up (va_up (va_up (fun _ => none) 0 (some 1)) 1 (some 3)) 2 (some 25)) 3 (some 26)) 4 (some 31)) 5 (some 36)) 6 (some 41)) 7 (some 46)) 8 (some 108)) 9 (some 109)) 10 (some 120)) 11 (some 124))] ++ txC ++ hoC ++ liC ++ stC 26 ++ stC 31 ++ stC 36 ++ stC 41 ++ paC ++ [(16, 2, fun _ => 0, va_up (va_up (fun _ => none) 0 (some 110)) 1 (some 115)), (14, 2, upd (upd (fun _ => 0) 0 (-1)) 1 (-1), fun _ => none)] ++ stC 110 ++ stC 115 ++ heC ++ orC 124)) (b := 126) (lT hl rfl)) mo_X5_init rfl rfl (in_t2 36 rfl rfl) (in_t2 37 rfl rfl) dX10_init_175 rfl (Nat.le_of_ble_eq_true rfl) (Nat.le_of_ble_eq_true rfl) (Nat.le_of_ble_eq_true rfl) (Nat.le_of_ble_eq_true rfl) (Nat.le_of_ble_eq_true rfl) rfl ?_
  refine g_ms (m2 := ms0 ++ ([(10, 0, fun _ => 0, va_up (va_up (va_up (va_up (va_up (va_up (va_up (va_up (va_up (va_up (va_up (va_up (fun _ => none) 0 (some 1)) 1 (some 3)) 2 (some 25)) 3 (some 26)) 4 (some 31)) 5 (some 36)) 6 (some 41)) 7 (some 46)) 8 (some 108)) 9 (some 109)) 10 (some 120)) 11 (some 124))] ++ txC ++ hoC ++ liC ++ stC 26 ++ stC 31 ++ stC 36 ++ stC 41 ++ paC ++ [(16, 2, fun _ => 0, va_up (va_up (fun _ => none) 0 (some 110)) 1 (some 115)), (14, 2, upd (upd (fun _ => 0) 0 (-1)) 1 (-1), fun _ => none)] ++ stC 110 ++ stC 115 ++ heC ++ orC 124 ++ orC 126)) (List.append_assoc _ _ _) ?_
  refine g_putRF (Y := YX10_init) (pc := 178) (ci := 10) (f := 12) dX10_init_178 ⟨(RX10, TX10, 17), rfl, by decide, (in_t2 119 rfl rfl)⟩ rfl (fun a => ⟨rfl, rfl⟩) rfl rfl ⟨_, rfl, rfl⟩ (gT0 hl rfl) rfl ?_
  refine g_ms (m2 := ms0 ++ ([(10, 0, fun _ => 0, va_up (va_up (va_up (va_up (va_up (va_up (va_up (va_up (va_up (va_up (va_up (va_up (va_up (fun _ => none) 0 (some 1)) 1 (some 3)) 2 (some 25)) 3 (some 26)) 4 (some 31)) 5 (some 36)) 6 (some 41)) 7 (some 46)) 8 (some 108)) 9 (some 109)) 10 (some 120)) 11 (some 124)) 12 (some 126))] ++ txC ++ hoC ++ liC ++ stC 26 ++ stC 31 ++ stC 36 ++ stC 41 ++ paC ++ [(16, 2, fun _ => 0, va_up (va_up (fun _ => none) 0 (some 110)) 1 (some 115)), (14, 2, upd (upd (fun _ => 0) 0 (-1)) 1 (-1), fun _ => none)] ++ stC 110 ++ stC 115 ++ heC ++ orC 124 ++ orC 126)) (sT0 hl rfl) ?_
  refine g_aload_n (Y := YX10_init) (pc := 181) 1 dX10_init_181 rfl ?_
  refine h_new (Y := YX10_init) (pc := 182) (ci := 9) (q := (RX9, TX9, 7)) (b := 128) dX10_init_182 rfl (in_t2 51 rfl rfl) (in_t2 52 rfl rfl) ini_X9 (Nat.le_of_ble_eq_true rfl) (Nat.le_of_ble_eq_true rfl) (lT hl rfl) ?_
  refine g_dup (Y := YX10_init) (pc := 185) dX10_init_185 rfl ?_
  refine g_aload_n (Y := YX10_init) (pc := 186) 1 dX10_init_186 rfl ?_
  refine h_getR (Y := YX10_init) (pc := 187) (ci := 10) (f := 1) (x := 3) dX10_init_187 ⟨(RX10, TX10, 17), rfl, by decide, (in_t2 108 rfl rfl)⟩ rfl (gL (gT0 hl rfl)) rfl rfl ?_
  refine g_aload_n (Y := YX10_init) (pc := 190) 1 dX10_init_190 rfl ?_
  refine h_getR (Y := YX10_init) (pc := 191) (ci := 10) (f := 10) (x := 120) dX10_init_191 ⟨(RX10, TX10, 17), rfl, by decide, (in_t2 117 rfl rfl)⟩ rfl (gL (gT0 hl rfl)) rfl rfl ?_
  refine g_callI (Y := YX10_init) (pc := 194) (as := [.ref 3, .ref 120]) (st := [.ref 128, .ref 0]) (r_X9_init (ms0 := ms0 ++ ([(10, 0, fun _ => 0, va_up (va_up (va_up (va_up (va_up (va_up (va_up (va_up (va_up (va_up (va_up (va_up (va_up (fun _ => none) 0 (some 1)) 1 (some 3)) 2 (some 25)) 3 (some 26)) 4 (some 31)) 5 (some 36)) 6 (some 41)) 7 (some 46)) 8 (some 108)) 9 (some 109)) 10 (some 120)) 11 (some 124)) 12 (some 126))] ++ txC ++ hoC ++ liC ++ stC 26 ++ stC 31 ++ stC 36 ++ stC 41 ++ paC ++ [(16, 2, fun _ => 0, va_up (va_up (fun _ => none) 0 (some 110)) 1 (some 115)), (14, 2, upd (upd (fun _ => 0) 0 (-1)) 1 (-1), fun _ => none)] ++ stC 110 ++ stC 115 ++ heC ++ orC 124 ++ orC 126)) (lT hl rfl)) mo_X9_init rfl rfl (in_t2 53 rfl rfl) (in_t2 54 rfl rfl) dX10_init_194 rfl (Nat.le_of_ble_eq_true rfl) (Nat.le_of_ble_eq_true rfl) (Nat.le_of_ble_eq_true rfl) (Nat.le_of_ble_eq_true rfl) (Nat.le_of_ble_eq_true rfl) rfl ?_
  refine g_ms (m2 := ms0 ++ ([(10, 0, fun _ => 0, va_up (va_up (va_up (va_up (va_up (va_up (va_up (va_up (va_up (va_up (va_up (va_up (va_up (fun _ => none) 0 (some 1)) 1 (some 3)) 2 (some 25)) 3 (some 26)) 4 (some 31)) 5 (some 36)) 6 (some 41)) 7 (some 46)) 8 (some 108)) 9 (some 109)) 10 (some 120)) 11 (some 124)) 12 (some 126))] ++ txC ++ hoC ++ liC ++ stC 26 ++ stC 31 ++ stC 36 ++ stC 41 ++ paC ++ [(16, 2, fun _ => 0, va_up (va_up (fun _ => none) 0 (some 110)) 1 (some 115)), (14, 2, upd (upd (fun _ => 0) 0 (-1)) 1 (-1), fun _ => none)] ++ stC 110 ++ stC 115 ++ heC ++ orC 124 ++ orC 126 ++ trC)) (List.append_assoc _ _ _) ?_
  refine g_putRF (Y := YX10_init) (pc := 197) (ci := 10) (f := 13) dX10_init_197 ⟨(RX10, TX10, 17), rfl, by decide, (in_t2 120 rfl rfl)⟩ rfl (fun a => ⟨rfl, rfl⟩) rfl rfl ⟨_, rfl, rfl⟩ (gT0 hl rfl) rfl ?_
  refine g_ms (m2 := ms0 ++ ([(10, 0, fun _ => 0, va_up (va_up (va_up (va_up (va_up (va_up (va_up (va_up (va_up (va_up (va_up (va_up (va_up (va_up (fun _ => none) 0 (some 1)) 1 (some 3)) 2 (some 25)) 3 (some 26)) 4 (some 31)) 5 (some 36)) 6 (some 41)) 7 (some 46)) 8 (some 108)) 9 (some 109)) 10 (some 120)) 11 (some 124)) 12 (some 126)) 13 (some 128))] ++ txC ++ hoC ++ liC ++ stC 26 ++ stC 31 ++ stC 36 ++ stC 41 ++ paC ++ [(16, 2, fun _ => 0, va_up (va_up (fun _ => none) 0 (some 110)) 1 (some 115)), (14, 2, upd (upd (fun _ => 0) 0 (-1)) 1 (-1), fun _ => none)] ++ stC 110 ++ stC 115 ++ heC ++ orC 124 ++ orC 126 ++ trC)) (sT0 hl rfl) ?_
  refine g_aload_n (Y := YX10_init) (pc := 200) 1 dX10_init_200 rfl ?_
  refine h_new (Y := YX10_init) (pc := 201) (ci := 2) (q := (RX2, TX2, 5)) (b := 170) dX10_init_201 rfl (in_t2 82 rfl rfl) (in_t2 83 rfl rfl) ini_X2 (Nat.le_of_ble_eq_true rfl) (Nat.le_of_ble_eq_true rfl) (lT hl rfl) ?_
  refine g_dup (Y := YX10_init) (pc := 204) dX10_init_204 rfl ?_
  refine g_aload_n (Y := YX10_init) (pc := 205) 1 dX10_init_205 rfl ?_
  refine h_getR (Y := YX10_init) (pc := 206) (ci := 10) (f := 1) (x := 3) dX10_init_206 ⟨(RX10, TX10, 17), rfl, by decide, (in_t2 108 rfl rfl)⟩ rfl (gL (gT0 hl rfl)) rfl rfl ?_
  refine g_callI (Y := YX10_init) (pc := 209) (as := [.ref 3]) (st := [.ref 170, .ref 0]) (r_X2_init (ms0 := ms0 ++ ([(10, 0, fun _ => 0, va_up (va_up (va_up (va_up (va_up (va_up (va_up (va_up (va_up (va_up (va_up (va_up (va_up (va_up (fun _ => none) 0 (some 1)) 1 (some 3)) 2 (some 25)) 3 (some 26)) 4 (some 31)) 5 (some 36)) 6 (some 41)) 7 (some 46)) 8 (some 108)) 9 (some 109)) 10 (some 120)) 11 (some 124)) 12 (some 126)) 13 (some 128))] ++ txC ++ hoC ++ liC ++ stC 26 ++ stC 31 ++ stC 36 ++ stC 41 ++ paC ++ [(16, 2, fun _ => 0, va_up (va_up (fun _ => none) 0 (some 110)) 1 (some 115)), (14, 2, upd (upd (fun _ => 0) 0 (-1)) 1 (-1), fun _ => none)] ++ stC 110 ++ stC 115 ++ heC ++ orC 124 ++ orC 126 ++ trC)) (lT hl rfl)) mo_X2_init rfl rfl (in_t2 84 rfl rfl) (in_t2 85 rfl rfl) dX10_init_209 rfl (Nat.le_of_ble_eq_true rfl) (Nat.le_of_ble_eq_true rfl) (Nat.le_of_ble_eq_true rfl) (Nat.le_of_ble_eq_true rfl) (Nat.le_of_ble_eq_true rfl) rfl ?_
  refine g_ms (m2 := ms0 ++ ([(10, 0, fun _ => 0, va_up (va_up (va_up (va_up (va_up (va_up (va_up (va_up (va_up (va_up (va_up (va_up (va_up (va_up (fun _ => none) 0 (some 1)) 1 (some 3)) 2 (some 25)) 3 (some 26)) 4 (some 31)) 5 (some 36)) 6 (some 41)) 7 (some 46)) 8 (some 108)) 9 (some 109)) 10 (some 120)) 11 (some 124)) 12 (some 126)) 13 (some 128))] ++ txC ++ hoC ++ liC ++ stC 26 ++ stC 31 ++ stC 36 ++ stC 41 ++ paC ++ [(16, 2, fun _ => 0, va_up (va_up (fun _ => none) 0 (some 110)) 1 (some 115)), (14, 2, upd (upd (fun _ => 0) 0 (-1)) 1 (-1), fun _ => none)] ++ stC 110 ++ stC 115 ++ heC ++ orC 124 ++ orC 126 ++ trC ++ joC)) (List.append_assoc _ _ _) ?_
  refine g_putRF (Y := YX10_init) (pc := 212) (ci := 10) (f := 14) dX10_init_212 ⟨(RX10, TX10, 17), rfl, by decide, (in_t2 121 rfl rfl)⟩ rfl (fun a => ⟨rfl, rfl⟩) rfl rfl ⟨_, rfl, rfl⟩ (gT0 hl rfl) rfl ?_
  refine g_ms (m2 := ms0 ++ ([(10, 0, fun _ => 0, va_up (va_up (va_up (va_up (va_up (va_up (va_up (va_up (va_up (va_up (va_up (va_up (va_up (va_up (va_up (fun _ => none) 0 (some 1)) 1 (some 3)) 2 (some 25)) 3 (some 26)) 4 (some 31)) 5 (some 36)) 6 (some 41)) 7 (some 46)) 8 (some 108)) 9 (some 109)) 10 (some 120)) 11 (some 124)) 12 (some 126)) 13 (some 128)) 14 (some 170))] ++ txC ++ hoC ++ liC ++ stC 26 ++ stC 31 ++ stC 36 ++ stC 41 ++ paC ++ [(16, 2, fun _ => 0, va_up (va_up (fun _ => none) 0 (some 110)) 1 (some 115)), (14, 2, upd (upd (fun _ => 0) 0 (-1)) 1 (-1), fun _ => none)] ++ stC 110 ++ stC 115 ++ heC ++ orC 124 ++ orC 126 ++ trC ++ joC)) (sT0 hl rfl) ?_
  refine g_aload_n (Y := YX10_init) (pc := 215) 1 dX10_init_215 rfl ?_
  refine g_bipush (Y := YX10_init) (pc := 216) (v := 12) dX10_init_216 (by decide) ?_
  refine h_newa (Y := YX10_init) (pc := 218) (b := 173) (N := 12) dX10_init_218 (by decide) ac_int (by decide) rfl (Nat.le_of_ble_eq_true rfl) (Nat.le_of_ble_eq_true rfl) (Nat.le_of_ble_eq_true rfl) (lT hl rfl) ?_
  refine g_ms (m2 := ms0 ++ ([(10, 0, fun _ => 0, va_up (va_up (va_up (va_up (va_up (va_up (va_up (va_up (va_up (va_up (va_up (va_up (va_up (va_up (va_up (fun _ => none) 0 (some 1)) 1 (some 3)) 2 (some 25)) 3 (some 26)) 4 (some 31)) 5 (some 36)) 6 (some 41)) 7 (some 46)) 8 (some 108)) 9 (some 109)) 10 (some 120)) 11 (some 124)) 12 (some 126)) 13 (some 128)) 14 (some 170))] ++ txC ++ hoC ++ liC ++ stC 26 ++ stC 31 ++ stC 36 ++ stC 41 ++ paC ++ [(16, 2, fun _ => 0, va_up (va_up (fun _ => none) 0 (some 110)) 1 (some 115)), (14, 2, upd (upd (fun _ => 0) 0 (-1)) 1 (-1), fun _ => none)] ++ stC 110 ++ stC 115 ++ heC ++ orC 124 ++ orC 126 ++ trC ++ joC ++ [(14, 12, fun _ => 0, fun _ => none)])) (List.append_assoc _ _ _) ?_
  refine g_putRF (Y := YX10_init) (pc := 220) (ci := 10) (f := 15) dX10_init_220 ⟨(RX10, TX10, 17), rfl, by decide, (in_t2 122 rfl rfl)⟩ rfl (fun a => ⟨rfl, rfl⟩) rfl rfl ⟨_, rfl, rfl⟩ (gT0 hl rfl) rfl ?_
  refine g_ms (m2 := ms0 ++ ([(10, 0, fun _ => 0, va_up (va_up (va_up (va_up (va_up (va_up (va_up (va_up (va_up (va_up (va_up (va_up (va_up (va_up (va_up (va_up (fun _ => none) 0 (some 1)) 1 (some 3)) 2 (some 25)) 3 (some 26)) 4 (some 31)) 5 (some 36)) 6 (some 41)) 7 (some 46)) 8 (some 108)) 9 (some 109)) 10 (some 120)) 11 (some 124)) 12 (some 126)) 13 (some 128)) 14 (some 170)) 15 (some 173))] ++ txC ++ hoC ++ liC ++ stC 26 ++ stC 31 ++ stC 36 ++ stC 41 ++ paC ++ [(16, 2, fun _ => 0, va_up (va_up (fun _ => none) 0 (some 110)) 1 (some 115)), (14, 2, upd (upd (fun _ => 0) 0 (-1)) 1 (-1), fun _ => none)] ++ stC 110 ++ stC 115 ++ heC ++ orC 124 ++ orC 126 ++ trC ++ joC ++ [(14, 12, fun _ => 0, fun _ => none)])) (sT0 hl rfl) ?_
  refine g_aload_n (Y := YX10_init) (pc := 223) 1 dX10_init_223 rfl ?_
  refine g_iconst (Y := YX10_init) (pc := 224) (v := 0) dX10_init_224 (by decide) ?_
  refine g_putI (Y := YX10_init) (pc := 225) (ci := 10) (f := 16) dX10_init_225 ⟨(RX10, TX10, 17), rfl, by decide, (in_t2 123 rfl rfl)⟩ (Or.inl rfl) rfl (gT0 hl rfl) rfl ?_
  refine g_ms (m2 := ms0 ++ ([(10, 0, upd (fun _ => 0) 16 0, va_up (va_up (va_up (va_up (va_up (va_up (va_up (va_up (va_up (va_up (va_up (va_up (va_up (va_up (va_up (va_up (fun _ => none) 0 (some 1)) 1 (some 3)) 2 (some 25)) 3 (some 26)) 4 (some 31)) 5 (some 36)) 6 (some 41)) 7 (some 46)) 8 (some 108)) 9 (some 109)) 10 (some 120)) 11 (some 124)) 12 (some 126)) 13 (some 128)) 14 (some 170)) 15 (some 173))] ++ txC ++ hoC ++ liC ++ stC 26 ++ stC 31 ++ stC 36 ++ stC 41 ++ paC ++ [(16, 2, fun _ => 0, va_up (va_up (fun _ => none) 0 (some 110)) 1 (some 115)), (14, 2, upd (upd (fun _ => 0) 0 (-1)) 1 (-1), fun _ => none)] ++ stC 110 ++ stC 115 ++ heC ++ orC 124 ++ orC 126 ++ trC ++ joC ++ [(14, 12, fun _ => 0, fun _ => none)])) (sT0 hl rfl) ?_
  exact g_vret dX10_init_228 rfl (Nat.le_of_ble_eq_true rfl) (Nat.le_of_ble_eq_true rfl)
abbrev YX11_init : MRec := (yX11_init, cX11_init, 1, none)
set_option maxRecDepth 100000 in
theorem mo_X11_init : MOK YX11_init 0 := ⟨(in_t5 142 rfl rfl), ini_X11, pl_X11, ⟨nh_X11.1, nh_X11.2, rfl⟩, by decide⟩
theorem dX11_init_0 : decode cX11_init 0 = .ok (.aload_n 0, 1) := by decide +kernel
theorem dX11_init_1 : decode cX11_init 1 = .ok (.invokespecial 3, 3) := by decide +kernel
theorem dX11_init_4 : decode cX11_init 4 = .ok (.aload_n 0, 1) := by decide +kernel
theorem dX11_init_5 : decode cX11_init 5 = .ok (.bipush 25, 2) := by decide +kernel
theorem dX11_init_7 : decode cX11_init 7 = .ok (.newarray .int, 2) := by decide +kernel
theorem dX11_init_9 : decode cX11_init 9 = .ok (.putfield 9, 3) := by decide +kernel
theorem dX11_init_12 : decode cX11_init 12 = .ok (.aload_n 0, 1) := by decide +kernel
theorem dX11_init_13 : decode cX11_init 13 = .ok (.bipush 6, 2) := by decide +kernel
theorem dX11_init_15 : decode cX11_init 15 = .ok (.newarray .boolean, 2) := by decide +kernel
theorem dX11_init_17 : decode cX11_init 17 = .ok (.putfield 13, 3) := by decide +kernel
theorem dX11_init_20 : decode cX11_init 20 = .ok (.aload_n 0, 1) := by decide +kernel
theorem dX11_init_21 : decode cX11_init 21 = .ok (.bipush 6, 2) := by decide +kernel
theorem dX11_init_23 : decode cX11_init 23 = .ok (.newarray .int, 2) := by decide +kernel
theorem dX11_init_25 : decode cX11_init 25 = .ok (.putfield 17, 3) := by decide +kernel
theorem dX11_init_28 : decode cX11_init 28 = .ok (.aload_n 0, 1) := by decide +kernel
theorem dX11_init_29 : decode cX11_init 29 = .ok (.bipush 6, 2) := by decide +kernel
theorem dX11_init_31 : decode cX11_init 31 = .ok (.newarray .int, 2) := by decide +kernel
theorem dX11_init_33 : decode cX11_init 33 = .ok (.putfield 20, 3) := by decide +kernel
theorem dX11_init_36 : decode cX11_init 36 = .ok (.aload_n 0, 1) := by decide +kernel
theorem dX11_init_37 : decode cX11_init 37 = .ok (.bipush 6, 2) := by decide +kernel
theorem dX11_init_39 : decode cX11_init 39 = .ok (.newarray .int, 2) := by decide +kernel
theorem dX11_init_41 : decode cX11_init 41 = .ok (.putfield 23, 3) := by decide +kernel
theorem dX11_init_44 : decode cX11_init 44 = .ok (.aload_n 0, 1) := by decide +kernel
theorem dX11_init_45 : decode cX11_init 45 = .ok (.bipush 6, 2) := by decide +kernel
theorem dX11_init_47 : decode cX11_init 47 = .ok (.newarray .boolean, 2) := by decide +kernel
theorem dX11_init_49 : decode cX11_init 49 = .ok (.putfield 26, 3) := by decide +kernel
theorem dX11_init_52 : decode cX11_init 52 = .ok (.aload_n 0, 1) := by decide +kernel
theorem dX11_init_53 : decode cX11_init 53 = .ok (.bipush 36, 2) := by decide +kernel
theorem dX11_init_55 : decode cX11_init 55 = .ok (.newarray .int, 2) := by decide +kernel
theorem dX11_init_57 : decode cX11_init 57 = .ok (.putfield 29, 3) := by decide +kernel
theorem dX11_init_60 : decode cX11_init 60 = .ok (.aload_n 0, 1) := by decide +kernel
theorem dX11_init_61 : decode cX11_init 61 = .ok (.bipush 6, 2) := by decide +kernel
theorem dX11_init_63 : decode cX11_init 63 = .ok (.newarray .int, 2) := by decide +kernel
theorem dX11_init_65 : decode cX11_init 65 = .ok (.putfield 32, 3) := by decide +kernel
theorem dX11_init_68 : decode cX11_init 68 = .ok (.aload_n 0, 1) := by decide +kernel
theorem dX11_init_69 : decode cX11_init 69 = .ok (.bipush 80, 2) := by decide +kernel
theorem dX11_init_71 : decode cX11_init 71 = .ok (.newarray .byte, 2) := by decide +kernel
theorem dX11_init_73 : decode cX11_init 73 = .ok (.putfield 35, 3) := by decide +kernel
theorem dX11_init_76 : decode cX11_init 76 = .ok (.aload_n 0, 1) := by decide +kernel
theorem dX11_init_77 : decode cX11_init 77 = .ok (.bipush 16, 2) := by decide +kernel
theorem dX11_init_79 : decode cX11_init 79 = .ok (.newarray .int, 2) := by decide +kernel
theorem dX11_init_81 : decode cX11_init 81 = .ok (.putfield 39, 3) := by decide +kernel
theorem dX11_init_84 : decode cX11_init 84 = .ok (.aload_n 0, 1) := by decide +kernel
theorem dX11_init_85 : decode cX11_init 85 = .ok (.bipush 60, 2) := by decide +kernel
theorem dX11_init_87 : decode cX11_init 87 = .ok (.newarray .int, 2) := by decide +kernel
theorem dX11_init_89 : decode cX11_init 89 = .ok (.putfield 42, 3) := by decide +kernel
theorem dX11_init_92 : decode cX11_init 92 = .ok (.aload_n 0, 1) := by decide +kernel
theorem dX11_init_93 : decode cX11_init 93 = .ok (.bipush 40, 2) := by decide +kernel
theorem dX11_init_95 : decode cX11_init 95 = .ok (.newarray .byte, 2) := by decide +kernel
theorem dX11_init_97 : decode cX11_init 97 = .ok (.putfield 45, 3) := by decide +kernel
theorem dX11_init_100 : decode cX11_init 100 = .ok (.aload_n 0, 1) := by decide +kernel
theorem dX11_init_101 : decode cX11_init 101 = .ok (.bipush 36, 2) := by decide +kernel
theorem dX11_init_103 : decode cX11_init 103 = .ok (.newarray .int, 2) := by decide +kernel
theorem dX11_init_105 : decode cX11_init 105 = .ok (.putfield 48, 3) := by decide +kernel
theorem dX11_init_108 : decode cX11_init 108 = .ok (.aload_n 0, 1) := by decide +kernel
theorem dX11_init_109 : decode cX11_init 109 = .ok (.sipush 300, 3) := by decide +kernel
theorem dX11_init_112 : decode cX11_init 112 = .ok (.newarray .int, 2) := by decide +kernel
theorem dX11_init_114 : decode cX11_init 114 = .ok (.putfield 51, 3) := by decide +kernel
theorem dX11_init_117 : decode cX11_init 117 = .ok (.aload_n 0, 1) := by decide +kernel
theorem dX11_init_118 : decode cX11_init 118 = .ok (.bipush 25, 2) := by decide +kernel
theorem dX11_init_120 : decode cX11_init 120 = .ok (.newarray .int, 2) := by decide +kernel
theorem dX11_init_122 : decode cX11_init 122 = .ok (.putfield 54, 3) := by decide +kernel
theorem dX11_init_125 : decode cX11_init 125 = .ok (.aload_n 0, 1) := by decide +kernel
theorem dX11_init_126 : decode cX11_init 126 = .ok (.sipush 240, 3) := by decide +kernel
theorem dX11_init_129 : decode cX11_init 129 = .ok (.newarray .int, 2) := by decide +kernel
theorem dX11_init_131 : decode cX11_init 131 = .ok (.putfield 57, 3) := by decide +kernel
theorem dX11_init_134 : decode cX11_init 134 = .ok (.aload_n 0, 1) := by decide +kernel
theorem dX11_init_135 : decode cX11_init 135 = .ok (.bipush 25, 2) := by decide +kernel
theorem dX11_init_137 : decode cX11_init 137 = .ok (.newarray .int, 2) := by decide +kernel
theorem dX11_init_139 : decode cX11_init 139 = .ok (.putfield 60, 3) := by decide +kernel
theorem dX11_init_142 : decode cX11_init 142 = .ok (.aload_n 0, 1) := by decide +kernel
theorem dX11_init_143 : decode cX11_init 143 = .ok (.bipush 6, 2) := by decide +kernel
theorem dX11_init_145 : decode cX11_init 145 = .ok (.newarray .int, 2) := by decide +kernel
theorem dX11_init_147 : decode cX11_init 147 = .ok (.putfield 63, 3) := by decide +kernel
theorem dX11_init_150 : decode cX11_init 150 = .ok (.aload_n 0, 1) := by decide +kernel
theorem dX11_init_151 : decode cX11_init 151 = .ok (.bipush 6, 2) := by decide +kernel
theorem dX11_init_153 : decode cX11_init 153 = .ok (.newarray .int, 2) := by decide +kernel
theorem dX11_init_155 : decode cX11_init 155 = .ok (.putfield 66, 3) := by decide +kernel
theorem dX11_init_158 : decode cX11_init 158 = .ok (.aload_n 0, 1) := by decide +kernel
theorem dX11_init_159 : decode cX11_init 159 = .ok (.bipush 6, 2) := by decide +kernel
theorem dX11_init_161 : decode cX11_init 161 = .ok (.newarray .int, 2) := by decide +kernel
theorem dX11_init_163 : decode cX11_init 163 = .ok (.putfield 69, 3) := by decide +kernel
theorem dX11_init_166 : decode cX11_init 166 = .ok (.aload_n 0, 1) := by decide +kernel
theorem dX11_init_167 : decode cX11_init 167 = .ok (.bipush 6, 2) := by decide +kernel
theorem dX11_init_169 : decode cX11_init 169 = .ok (.newarray .int, 2) := by decide +kernel
theorem dX11_init_171 : decode cX11_init 171 = .ok (.putfield 72, 3) := by decide +kernel
theorem dX11_init_174 : decode cX11_init 174 = .ok (.aload_n 0, 1) := by decide +kernel
theorem dX11_init_175 : decode cX11_init 175 = .ok (.bipush 6, 2) := by decide +kernel
theorem dX11_init_177 : decode cX11_init 177 = .ok (.newarray .int, 2) := by decide +kernel
theorem dX11_init_179 : decode cX11_init 179 = .ok (.putfield 75, 3) := by decide +kernel
theorem dX11_init_182 : decode cX11_init 182 = .ok (.aload_n 0, 1) := by decide +kernel
theorem dX11_init_183 : decode cX11_init 183 = .ok (.bipush 6, 2) := by decide +kernel
theorem dX11_init_185 : decode cX11_init 185 = .ok (.newarray .int, 2) := by decide +kernel
theorem dX11_init_187 : decode cX11_init 187 = .ok (.putfield 78, 3) := by decide +kernel
theorem dX11_init_190 : decode cX11_init 190 = .ok (.aload_n 0, 1) := by decide +kernel
theorem dX11_init_191 : decode cX11_init 191 = .ok (.bipush 6, 2) := by decide +kernel
theorem dX11_init_193 : decode cX11_init 193 = .ok (.newarray .int, 2) := by decide +kernel
theorem dX11_init_195 : decode cX11_init 195 = .ok (.putfield 81, 3) := by decide +kernel
theorem dX11_init_198 : decode cX11_init 198 = .ok (.aload_n 0, 1) := by decide +kernel
theorem dX11_init_199 : decode cX11_init 199 = .ok (.bipush 6, 2) := by decide +kernel
theorem dX11_init_201 : decode cX11_init 201 = .ok (.newarray .int, 2) := by decide +kernel
theorem dX11_init_203 : decode cX11_init 203 = .ok (.putfield 84, 3) := by decide +kernel
theorem dX11_init_206 : decode cX11_init 206 = .ok (.aload_n 0, 1) := by decide +kernel
theorem dX11_init_207 : decode cX11_init 207 = .ok (.bipush 36, 2) := by decide +kernel
theorem dX11_init_209 : decode cX11_init 209 = .ok (.newarray .int, 2) := by decide +kernel
theorem dX11_init_211 : decode cX11_init 211 = .ok (.putfield 87, 3) := by decide +kernel
theorem dX11_init_214 : decode cX11_init 214 = .ok (.aload_n 0, 1) := by decide +kernel
theorem dX11_init_215 : decode cX11_init 215 = .ok (.bipush 50, 2) := by decide +kernel
theorem dX11_init_217 : decode cX11_init 217 = .ok (.newarray .int, 2) := by decide +kernel
theorem dX11_init_219 : decode cX11_init 219 = .ok (.putfield 90, 3) := by decide +kernel
theorem dX11_init_222 : decode cX11_init 222 = .ok (.aload_n 0, 1) := by decide +kernel
theorem dX11_init_223 : decode cX11_init 223 = .ok (.iconst 2, 1) := by decide +kernel
theorem dX11_init_224 : decode cX11_init 224 = .ok (.newarray .boolean, 2) := by decide +kernel
theorem dX11_init_226 : decode cX11_init 226 = .ok (.putfield 93, 3) := by decide +kernel
theorem dX11_init_229 : decode cX11_init 229 = .ok (.aload_n 0, 1) := by decide +kernel
theorem dX11_init_230 : decode cX11_init 230 = .ok (.iconst 2, 1) := by decide +kernel
theorem dX11_init_231 : decode cX11_init 231 = .ok (.newarray .int, 2) := by decide +kernel
theorem dX11_init_233 : decode cX11_init 233 = .ok (.putfield 96, 3) := by decide +kernel
theorem dX11_init_236 : decode cX11_init 236 = .ok (.return_, 1) := by decide +kernel
def moC : Mm := [(11, 0, fun _ => 0, va_up (va_up (va_up (va_up (va_up (va_up (va_up (va_up (va_up (va_up (va_up (va_up (va_up (va_up (va_up (va_up (va_up (va_up (va_up (va_up (va_up (va_up (va_up (va_up (va_up (va_up (va_up (va_up (va_up (fun _ => none) 0 (some 175)) 2 (some 176)) 4 (some 177)) 5 (some 178)) 6 (some 179)) 7 (some 180)) 8 (some 181)) 9 (some 182)) 10 (some 183)) 12 (some 184)) 20 (some 185)) 21 (some 186)) 26 (some 187)) 27 (some 188)) 29 (some 189)) 33 (some 190)) 35 (some 191)) 36 (some 192)) 38 (some 193)) 42 (some 194)) 43 (some 195)) 45 (some 196)) 46 (some 197)) 47 (some 198)) 48 (some 199)) 51 (some 200)) 58 (some 201)) 59 (some 202)) 60 (some 203)), (14, 25, fun _ => 0, fun _ => none), (15, 6, fun _ => 0, fun _ => none), (14, 6, fun _ => 0, fun _ => none), (14, 6, fun _ => 0, fun _ => none), (14, 6, fun _ => 0, fun _ => none), (15, 6, fun _ => 0, fun _ => none), (14, 36, fun _ => 0, fun _ => none), (14, 6, fun _ => 0, fun _ => none), (12, 80, fun _ => 0, fun _ => none), (14, 16, fun _ => 0, fun _ => none), (14, 60, fun _ => 0, fun _ => none), (12, 40, fun _ => 0, fun _ => none), (14, 36, fun _ => 0, fun _ => none), (14, 300, fun _ => 0, fun _ => none), (14, 25, fun _ => 0, fun _ => none), (14, 240, fun _ => 0, fun _ => none), (14, 25, fun _ => 0, fun _ => none), (14, 6, fun _ => 0, fun _ => none), (14, 6, fun _ => 0, fun _ => none), (14, 6, fun _ => 0, fun _ => none), (14, 6, fun _ => 0, fun _ => none), (14, 6, fun _ => 0, fun _ => none), (14, 6, fun _ => 0, fun _ => none), (14, 6, fun _ => 0, fun _ => none), (14, 6, fun _ => 0, fun _ => none), (14, 36, fun _ => 0, fun _ => none), (14, 50, fun _ => 0, fun _ => none), (15, 2, fun _ => 0, fun _ => none), (14, 2, fun _ => 0, fun _ => none)]
set_option maxRecDepth 100000 in
set_option maxHeartbeats 4000000 in
theorem r_X11_init {l : Launch} {D : va_G} {cy : Nat → ClassId} {ad : Nat → Nat} {h : Nat} {ms0 : Mm} (hl : ms0.length = 174) : Run l D cy ad (some h) YX11_init 1 29 1057 [.ref 174] (ms0 ++ [(11, 0, fun _ => 0, fun _ => none)]) none (ms0 ++ moC) := by
  refine Run.of 0 mo_X11_init (Nat.le_of_ble_eq_true rfl) ?_
  refine g_aload_n (Y := YX11_init) (pc := 0) 0 dX11_init_0 rfl ?_
  refine g_objInit (Y := YX11_init) (pc := 1) dX11_init_1 (in_t5 143 rfl rfl) w_obj (Nat.le_of_ble_eq_true rfl) (Nat.le_of_ble_eq_true rfl) (Nat.le_of_ble_eq_true rfl) ?_
  refine g_aload_n (Y := YX11_init) (pc := 4) 0 dX11_init_4 rfl ?_
  refine g_bipush (Y := YX11_init) (pc := 5) (v := 25) dX11_init_5 (by decide) ?_
  refine h_newa (Y := YX11_init) (pc := 7) (b := 175) (N := 25) dX11_init_7 (by decide) ac_int (by decide) rfl (Nat.le_of_ble_eq_true rfl) (Nat.le_of_ble_eq_true rfl) (Nat.le_of_ble_eq_true rfl) (lT hl rfl) ?_
  refine g_ms (m2 := ms0 ++ [(11, 0, fun _ => 0, fun _ => none), (14, 25, fun _ => 0, fun _ => none)]) (List.append_assoc _ _ _) ?_
  refine g_putRF (Y := YX11_init) (pc := 9) (ci := 11) (f := 0) dX11_init_9 ⟨(RX11, TX11, 61), rfl, by decide, (in_t5 144 rfl rfl)⟩ rfl (fun a => ⟨rfl, rfl⟩) rfl rfl ⟨_, rfl, rfl⟩ (gT0 hl rfl) rfl ?_
  refine g_ms (m2 := ms0 ++ [(11, 0, fun _ => 0, va_up (fun _ => none) 0 (some 175)), (14, 25, fun _ => 0, fun _ => none)]) (sT0 hl rfl) ?_
  refine g_aload_n (Y := YX11_init) (pc := 12) 0 dX11_init_12 rfl ?_
  refine g_bipush (Y := YX11_init) (pc := 13) (v := 6) dX11_init_13 (by decide) ?_
  refine h_newa (Y := YX11_init) (pc := 15) (b := 176) (N := 6) dX11_init_15 (by decide) ac_boolean (by decide) rfl (Nat.le_of_ble_eq_true rfl) (Nat.le_of_ble_eq_true rfl) (Nat.le_of_ble_eq_true rfl) (lT hl rfl) ?_
  refine g_ms (m2 := ms0 ++ [(11, 0, fun _ => 0, va_up (fun _ => none) 0 (some 175)), (14, 25, fun _ => 0, fun _ => none), (15, 6, fun _ => 0, fun _ => none)]) (List.append_assoc _ _ _) ?_
  refine g_putRF (Y := YX11_init) (pc := 17) (ci := 11) (f := 2) dX11_init_17 ⟨(RX11, TX11, 61), rfl, by decide, (in_t5 146 rfl rfl)⟩ rfl (fun a => ⟨rfl, rfl⟩) rfl rfl ⟨_, rfl, rfl⟩ (gT0 hl rfl) rfl ?_
  refine g_ms (m2 := ms0 ++ [(11, 0, fun _ => 0, va_up (va_up (fun _ => none) 0 (some 175)) 2 (some 176)), (14, 25, fun _ => 0, fun _ => none), (15, 6, fun _ => 0, fun _ => none)]) (sT0 hl rfl) ?_
  refine g_aload_n (Y := YX11_init) (pc := 20) 0 dX11_init_20 rfl ?_
  refine g_bipush (Y := YX11_init) (pc := 21) (v := 6) dX11_init_21 (by decide) ?_
  refine h_newa (Y := YX11_init) (pc := 23) (b := 177) (N := 6) dX11_init_23 (by decide) ac_int (by decide) rfl (Nat.le_of_ble_eq_true rfl) (Nat.le_of_ble_eq_true rfl) (Nat.le_of_ble_eq_true rfl) (lT hl rfl) ?_
  refine g_ms (m2 := ms0 ++ [(11, 0, fun _ => 0, va_up (va_up (fun _ => none) 0 (some 175)) 2 (some 176)), (14, 25, fun _ => 0, fun _ => none), (15, 6, fun _ => 0, fun _ => none), (14, 6, fun _ => 0, fun _ => none)]) (List.append_assoc _ _ _) ?_
  refine g_putRF (Y := YX11_init) (pc := 25) (ci := 11) (f := 4) dX11_init_25 ⟨(RX11, TX11, 61), rfl, by decide, (in_t5 148 rfl rfl)⟩ rfl (fun a => ⟨rfl, rfl⟩) rfl rfl ⟨_, rfl, rfl⟩ (gT0 hl rfl) rfl ?_
  refine g_ms (m2 := ms0 ++ [(11, 0, fun _ => 0, va_up (va_up (va_up (fun _ => none) 0 (some 175)) 2 (some 176)) 4 (some 177)), (14, 25, fun _ => 0, fun _ => none), (15, 6, fun _ => 0, fun _ => none), (14, 6, fun _ => 0, fun _ => none)]) (sT0 hl rfl) ?_
  refine g_aload_n (Y := YX11_init) (pc := 28) 0 dX11_init_28 rfl ?_
  refine g_bipush (Y := YX11_init) (pc := 29) (v := 6) dX11_init_29 (by decide) ?_
  refine h_newa (Y := YX11_init) (pc := 31) (b := 178) (N := 6) dX11_init_31 (by decide) ac_int (by decide) rfl (Nat.le_of_ble_eq_true rfl) (Nat.le_of_ble_eq_true rfl) (Nat.le_of_ble_eq_true rfl) (lT hl rfl) ?_
  refine g_ms (m2 := ms0 ++ [(11, 0, fun _ => 0, va_up (va_up (va_up (fun _ => none) 0 (some 175)) 2 (some 176)) 4 (some 177)), (14, 25, fun _ => 0, fun _ => none), (15, 6, fun _ => 0, fun _ => none), (14, 6, fun _ => 0, fun _ => none), (14, 6, fun _ => 0, fun _ => none)]) (List.append_assoc _ _ _) ?_
  refine g_putRF (Y := YX11_init) (pc := 33) (ci := 11) (f := 5) dX11_init_33 ⟨(RX11, TX11, 61), rfl, by decide, (in_t5 149 rfl rfl)⟩ rfl (fun a => ⟨rfl, rfl⟩) rfl rfl ⟨_, rfl, rfl⟩ (gT0 hl rfl) rfl ?_
  refine g_ms (m2 := ms0 ++ [(11, 0, fun _ => 0, va_up (va_up (va_up (va_up (fun _ => none) 0 (some 175)) 2 (some 176)) 4 (some 177)) 5 (some 178)), (14, 25, fun _ => 0, fun _ => none), (15, 6, fun _ => 0, fun _ => none), (14, 6, fun _ => 0, fun _ => none), (14, 6, fun _ => 0, fun _ => none)]) (sT0 hl rfl) ?_
  refine g_aload_n (Y := YX11_init) (pc := 36) 0 dX11_init_36 rfl ?_
  refine g_bipush (Y := YX11_init) (pc := 37) (v := 6) dX11_init_37 (by decide) ?_
  refine h_newa (Y := YX11_init) (pc := 39) (b := 179) (N := 6) dX11_init_39 (by decide) ac_int (by decide) rfl (Nat.le_of_ble_eq_true rfl) (Nat.le_of_ble_eq_true rfl) (Nat.le_of_ble_eq_true rfl) (lT hl rfl) ?_
  refine g_ms (m2 := ms0 ++ [(11, 0, fun _ => 0, va_up (va_up (va_up (va_up (fun _ => none) 0 (some 175)) 2 (some 176)) 4 (some 177)) 5 (some 178)), (14, 25, fun _ => 0, fun _ => none), (15, 6, fun _ => 0, fun _ => none), (14, 6, fun _ => 0, fun _ => none), (14, 6, fun _ => 0, fun _ => none), (14, 6, fun _ => 0, fun _ => none)]) (List.append_assoc _ _ _) ?_
  refine g_putRF (Y := YX11_init) (pc := 41) (ci := 11) (f := 6) dX11_init_41 ⟨(RX11, TX11, 61), rfl, by decide, (in_t5 150 rfl rfl)⟩ rfl (fun a => ⟨rfl, rfl⟩) rfl rfl ⟨_, rfl, rfl⟩ (gT0 hl rfl) rfl ?_
  refine g_ms (m2 := ms0 ++ [(11, 0, fun _ => 0, va_up (va_up (va_up (va_up (va_up (fun _ => none) 0 (some 175)) 2 (some 176)) 4 (some 177)) 5 (some 178)) 6 (some 179)), (14, 25, fun _ => 0, fun _ => none), (15, 6, fun _ => 0, fun _ => none), (14, 6, fun _ => 0, fun _ => none), (14, 6, fun _ => 0, fun _ => none), (14, 6, fun _ => 0, fun _ => none)]) (sT0 hl rfl) ?_
  refine g_aload_n (Y := YX11_init) (pc := 44) 0 dX11_init_44 rfl ?_
  refine g_bipush (Y := YX11_init) (pc := 45) (v := 6) dX11_init_45 (by decide) ?_
  refine h_newa (Y := YX11_init) (pc := 47) (b := 180) (N := 6) dX11_init_47 (by decide) ac_boolean (by decide) rfl (Nat.le_of_ble_eq_true rfl) (Nat.le_of_ble_eq_true rfl) (Nat.le_of_ble_eq_true rfl) (lT hl rfl) ?_
  refine g_ms (m2 := ms0 ++ [(11, 0, fun _ => 0, va_up (va_up (va_up (va_up (va_up (fun _ => none) 0 (some 175)) 2 (some 176)) 4 (some 177)) 5 (some 178)) 6 (some 179)), (14, 25, fun _ => 0, fun _ => none), (15, 6, fun _ => 0, fun _ => none), (14, 6, fun _ => 0, fun _ => none), (14, 6, fun _ => 0, fun _ => none), (14, 6, fun _ => 0, fun _ => none), (15, 6, fun _ => 0, fun _ => none)]) (List.append_assoc _ _ _) ?_
  refine g_putRF (Y := YX11_init) (pc := 49) (ci := 11) (f := 7) dX11_init_49 ⟨(RX11, TX11, 61), rfl, by decide, (in_t5 151 rfl rfl)⟩ rfl (fun a => ⟨rfl, rfl⟩) rfl rfl ⟨_, rfl, rfl⟩ (gT0 hl rfl) rfl ?_
  refine g_ms (m2 := ms0 ++ [(11, 0, fun _ => 0, va_up (va_up (va_up (va_up (va_up (va_up (fun _ => none) 0 (some 175)) 2 (some 176)) 4 (some 177)) 5 (some 178)) 6 (some 179)) 7 (some 180)), (14, 25, fun _ => 0, fun _ => none), (15, 6, fun _ => 0, fun _ => none), (14, 6, fun _ => 0, fun _ => none), (14, 6, fun _ => 0, fun _ => none), (14, 6, fun _ => 0, fun _ => none), (15, 6, fun _ => 0, fun _ => none)]) (sT0 hl rfl) ?_
  refine g_aload_n (Y := YX11_init) (pc := 52) 0 dX11_init_52 rfl ?_
  refine g_bipush (Y := YX11_init) (pc := 53) (v := 36) dX11_init_53 (by decide) ?_
  refine h_newa (Y := YX11_init) (pc := 55) (b := 181) (N := 36) dX11_init_55 (by decide) ac_int (by decide) rfl (Nat.le_of_ble_eq_true rfl) (Nat.le_of_ble_eq_true rfl) (Nat.le_of_ble_eq_true rfl) (lT hl rfl) ?_
  refine g_ms (m2 := ms0 ++ [(11, 0, fun _ => 0, va_up (va_up (va_up (va_up (va_up (va_up (fun _ => none) 0 (some 175)) 2 (some 176)) 4 (some 177)) 5 (some 178)) 6 (some 179)) 7 (some 180)), (14, 25, fun _ => 0, fun _ => none), (15, 6, fun _ => 0, fun _ => none), (14, 6, fun _ => 0, fun _ => none), (14, 6, fun _ => 0, fun _ => none), (14, 6, fun _ => 0, fun _ => none), (15, 6, fun _ => 0, fun _ => none), (14, 36, fun _ => 0, fun _ => none)]) (List.append_assoc _ _ _) ?_
  refine g_putRF (Y := YX11_init) (pc := 57) (ci := 11) (f := 8) dX11_init_57 ⟨(RX11, TX11, 61), rfl, by decide, (in_t5 152 rfl rfl)⟩ rfl (fun a => ⟨rfl, rfl⟩) rfl rfl ⟨_, rfl, rfl⟩ (gT0 hl rfl) rfl ?_
  refine g_ms (m2 := ms0 ++ [(11, 0, fun _ => 0, va_up (va_up (va_up (va_up (va_up (va_up (va_up (fun _ => none) 0 (some 175)) 2 (some 176)) 4 (some 177)) 5 (some 178)) 6 (some 179)) 7 (some 180)) 8 (some 181)), (14, 25, fun _ => 0, fun _ => none), (15, 6, fun _ => 0, fun _ => none), (14, 6, fun _ => 0, fun _ => none), (14, 6, fun _ => 0, fun _ => none), (14, 6, fun _ => 0, fun _ => none), (15, 6, fun _ => 0, fun _ => none), (14, 36, fun _ => 0, fun _ => none)]) (sT0 hl rfl) ?_
  refine g_aload_n (Y := YX11_init) (pc := 60) 0 dX11_init_60 rfl ?_
  refine g_bipush (Y := YX11_init) (pc := 61) (v := 6) dX11_init_61 (by decide) ?_
  refine h_newa (Y := YX11_init) (pc := 63) (b := 182) (N := 6) dX11_init_63 (by decide) ac_int (by decide) rfl (Nat.le_of_ble_eq_true rfl) (Nat.le_of_ble_eq_true rfl) (Nat.le_of_ble_eq_true rfl) (lT hl rfl) ?_
  refine g_ms (m2 := ms0 ++ [(11, 0, fun _ => 0, va_up (va_up (va_up (va_up (va_up (va_up (va_up (fun _ => none) 0 (some 175)) 2 (some 176)) 4 (some 177)) 5 (some 178)) 6 (some 179)) 7 (some 180)) 8 (some 181)), (14, 25, fun _ => 0, fun _ => none), (15, 6, fun _ => 0, fun _ => none), (14, 6, fun _ => 0, fun _ => none), (14, 6, fun _ => 0, fun _ => none), (14, 6, fun _ => 0, fun _ => none), (15, 6, fun _ => 0, fun _ => none), (14, 36, fun _ => 0, fun _ => none), (14, 6, fun _ => 0, fun _ => none)]) (List.append_assoc _ _ _) ?_
  refine g_putRF (Y := YX11_init) (pc := 65) (ci := 11) (f := 9) dX11_init_65 ⟨(RX11, TX11, 61), rfl, by decide, (in_t5 153 rfl rfl)⟩ rfl (fun a => ⟨rfl, rfl⟩) rfl rfl ⟨_, rfl, rfl⟩ (gT0 hl rfl) rfl ?_
  refine g_ms (m2 := ms0 ++ [(11, 0, fun _ => 0, va_up (va_up (va_up (va_up (va_up (va_up (va_up (va_up (fun _ => none) 0 (some 175)) 2 (some 176)) 4 (some 177)) 5 (some 178)) 6 (some 179)) 7 (some 180)) 8 (some 181)) 9 (some 182)), (14, 25, fun _ => 0, fun _ => none), (15, 6, fun _ => 0, fun _ => none), (14, 6, fun _ => 0, fun _ => none), (14, 6, fun _ => 0, fun _ => none), (14, 6, fun _ => 0, fun _ => none), (15, 6, fun _ => 0, fun _ => none), (14, 36, fun _ => 0, fun _ => none), (14, 6, fun _ => 0, fun _ => none)]) (sT0 hl rfl) ?_
  refine g_aload_n (Y := YX11_init) (pc := 68) 0 dX11_init_68 rfl ?_
  refine g_bipush (Y := YX11_init) (pc := 69) (v := 80) dX11_init_69 (by decide) ?_
  refine h_newa (Y := YX11_init) (pc := 71) (b := 183) (N := 80) dX11_init_71 (by decide) ac_byte (by decide) rfl (Nat.le_of_ble_eq_true rfl) (Nat.le_of_ble_eq_true rfl) (Nat.le_of_ble_eq_true rfl) (lT hl rfl) ?_
  refine g_ms (m2 := ms0 ++ [(11, 0, fun _ => 0, va_up (va_up (va_up (va_up (va_up (va_up (va_up (va_up (fun _ => none) 0 (some 175)) 2 (some 176)) 4 (some 177)) 5 (some 178)) 6 (some 179)) 7 (some 180)) 8 (some 181)) 9 (some 182)), (14, 25, fun _ => 0, fun _ => none), (15, 6, fun _ => 0, fun _ => none), (14, 6, fun _ => 0, fun _ => none), (14, 6, fun _ => 0, fun _ => none), (14, 6, fun _ => 0, fun _ => none), (15, 6, fun _ => 0, fun _ => none), (14, 36, fun _ => 0, fun _ => none), (14, 6, fun _ => 0, fun _ => none), (12, 80, fun _ => 0, fun _ => none)]) (List.append_assoc _ _ _) ?_
  refine g_putRF (Y := YX11_init) (pc := 73) (ci := 11) (f := 10) dX11_init_73 ⟨(RX11, TX11, 61), rfl, by decide, (in_t5 154 rfl rfl)⟩ rfl (fun a => ⟨rfl, rfl⟩) rfl rfl ⟨_, rfl, rfl⟩ (gT0 hl rfl) rfl ?_
  refine g_ms (m2 := ms0 ++ [(11, 0, fun _ => 0, va_up (va_up (va_up (va_up (va_up (va_up (va_up (va_up (va_up (fun _ => none) 0 (some 175)) 2 (some 176)) 4 (some 177)) 5 (some 178)) 6 (some 179)) 7 (some 180)) 8 (some 181)) 9 (some 182)) 10 (some 183)), (14, 25, fun _ => 0, fun _ => none), (15, 6, fun _ => 0, fun _ => none), (14, 6, fun _ => 0, fun _ => none), (14, 6, fun _ => 0, fun _ => none), (14, 6, fun _ => 0, fun _ => none), (15, 6, fun _ => 0, fun _ => none), (14, 36, fun _ => 0, fun _ => none), (14, 6, fun _ => 0, fun _ => none), (12, 80, fun _ => 0, fun _ => none)]) (sT0 hl rfl) ?_
  refine g_aload_n (Y := YX11_init) (pc := 76) 0 dX11_init_76 rfl ?_
  refine g_bipush (Y := YX11_init) (pc := 77) (v := 16) dX11_init_77 (by decide) ?_
  refine h_newa (Y := YX11_init) (pc := 79) (b := 184) (N := 16) dX11_init_79 (by decide) ac_int (by decide) rfl (Nat.le_of_ble_eq_true rfl) (Nat.le_of_ble_eq_true rfl) (Nat.le_of_ble_eq_true rfl) (lT hl rfl) ?_
  refine g_ms (m2 := ms0 ++ [(11, 0, fun _ => 0, va_up (va_up (va_up (va_up (va_up (va_up (va_up (va_up (va_up (fun _ => none) 0 (some 175)) 2 (some 176)) 4 (some 177)) 5 (some 178)) 6 (some 179)) 7 (some 180)) 8 (some 181)) 9 (some 182)) 10 (some 183)), (14, 25, fun _ => 0, fun _ => none), (15, 6, fun _ => 0, fun _ => none), (14, 6, fun _ => 0, fun _ => none), (14, 6, fun _ => 0, fun _ => none), (14, 6, fun _ => 0, fun _ => none), (15, 6, fun _ => 0, fun _ => none), (14, 36, fun _ => 0, fun _ => none), (14, 6, fun _ => 0, fun _ => none), (12, 80, fun _ => 0, fun _ => none), (14, 16, fun _ => 0, fun _ => none)]) (List.append_assoc _ _ _) ?_
  refine g_putRF (Y := YX11_init) (pc := 81) (ci := 11) (f := 12) dX11_init_81 ⟨(RX11, TX11, 61), rfl, by decide, (in_t5 156 rfl rfl)⟩ rfl (fun a => ⟨rfl, rfl⟩) rfl rfl ⟨_, rfl, rfl⟩ (gT0 hl rfl) rfl ?_
  refine g_ms (m2 := ms0 ++ [(11, 0, fun _ => 0, va_up (va_up (va_up (va_up (va_up (va_up (va_up (va_up (va_up (va_up (fun _ => none) 0 (some 175)) 2 (some 176)) 4 (some 177)) 5 (some 178)) 6 (some 179)) 7 (some 180)) 8 (some 181)) 9 (some 182)) 10 (some 183)) 12 (some 184)), (14, 25, fun _ => 0, fun _ => none), (15, 6, fun _ => 0, fun _ => none), (14, 6, fun _ => 0, fun _ => none), (14, 6, fun _ => 0, fun _ => none), (14, 6, fun _ => 0, fun _ => none), (15, 6, fun _ => 0, fun _ => none), (14, 36, fun _ => 0, fun _ => none), (14, 6, fun _ => 0, fun _ => none), (12, 80, fun _ => 0, fun _ => none), (14, 16, fun _ => 0, fun _ => none)]) (sT0 hl rfl) ?_
  refine g_aload_n (Y := YX11_init) (pc := 84) 0 dX11_init_84 rfl ?_
  refine g_bipush (Y := YX11_init) (pc := 85) (v := 60) dX11_init_85 (by decide) ?_
  refine h_newa (Y := YX11_init) (pc := 87) (b := 185) (N := 60) dX11_init_87 (by decide) ac_int (by decide) rfl (Nat.le_of_ble_eq_true rfl) (Nat.le_of_ble_eq_true rfl) (Nat.le_of_ble_eq_true rfl) (lT hl rfl) ?_
  refine g_ms (m2 := ms0 ++ [(11, 0, fun _ => 0, va_up (va_up (va_up (va_up (va_up (va_up (va_up (va_up (va_up (va_up (fun _ => none) 0 (some 175)) 2 (some 176)) 4 (some 177)) 5 (some 178)) 6 (some 179)) 7 (some 180)) 8 (some 181)) 9 (some 182)) 10 (some 183)) 12 (some 184)), (14, 25, fun _ => 0, fun _ => none), (15, 6, fun _ => 0, fun _ => none), (14, 6, fun _ => 0, fun _ => none), (14, 6, fun _ => 0, fun _ => none), (14, 6, fun _ => 0, fun _ => none), (15, 6, fun _ => 0, fun _ => none), (14, 36, fun _ => 0, fun _ => none), (14, 6, fun _ => 0, fun _ => none), (12, 80, fun _ => 0, fun _ => none), (14, 16, fun _ => 0, fun _ => none), (14, 60, fun _ => 0, fun _ => none)]) (List.append_assoc _ _ _) ?_
  refine g_putRF (Y := YX11_init) (pc := 89) (ci := 11) (f := 20) dX11_init_89 ⟨(RX11, TX11, 61), rfl, by decide, (in_t5 164 rfl rfl)⟩ rfl (fun a => ⟨rfl, rfl⟩) rfl rfl ⟨_, rfl, rfl⟩ (gT0 hl rfl) rfl ?_
  refine g_ms (m2 := ms0 ++ [(11, 0, fun _ => 0, va_up (va_up (va_up (va_up (va_up (va_up (va_up (va_up (va_up (va_up (va_up (fun _ => none) 0 (some 175)) 2 (some 176)) 4 (some 177)) 5 (some 178)) 6 (some 179)) 7 (some 180)) 8 (some 181)) 9 (some 182)) 10 (some 183)) 12 (some 184)) 20 (some 185)), (14, 25, fun _ => 0, fun _ => none), (15, 6, fun _ => 0, fun _ => none), (14, 6, fun _ => 0, fun _ => none), (14, 6, fun _ => 0, fun _ => none), (14, 6, fun _ => 0, fun _ => none), (15, 6, fun _ => 0, fun _ => none), (14, 36, fun _ => 0, fun _ => none), (14, 6, fun _ => 0, fun _ => none), (12, 80, fun _ => 0, fun _ => none), (14, 16, fun _ => 0, fun _ => none), (14, 60, fun _ => 0, fun _ => none)]) (sT0 hl rfl) ?_
  refine g_aload_n (Y := YX11_init) (pc := 92) 0 dX11_init_92 rfl ?_
  refine g_bipush (Y := YX11_init) (pc := 93) (v := 40) dX11_init_93 (by decide) ?_
  refine h_newa (Y := YX11_init) (pc := 95) (b := 186) (N := 40) dX11_init_95 (by decide) ac_byte (by decide) rfl (Nat.le_of_ble_eq_true rfl) (Nat.le_of_ble_eq_true rfl) (Nat.le_of_ble_eq_true rfl) (lT hl rfl) ?_
  refine g_ms (m2 := ms0 ++ [(11, 0, fun _ => 0, va_up (va_up (va_up (va_up (va_up (va_up (va_up (va_up (va_up (va_up (va_up (fun _ => none) 0 (some 175)) 2 (some 176)) 4 (some 177)) 5 (some 178)) 6 (some 179)) 7 (some 180)) 8 (some 181)) 9 (some 182)) 10 (some 183)) 12 (some 184)) 20 (some 185)), (14, 25, fun _ => 0, fun _ => none), (15, 6, fun _ => 0, fun _ => none), (14, 6, fun _ => 0, fun _ => none), (14, 6, fun _ => 0, fun _ => none), (14, 6, fun _ => 0, fun _ => none), (15, 6, fun _ => 0, fun _ => none), (14, 36, fun _ => 0, fun _ => none), (14, 6, fun _ => 0, fun _ => none), (12, 80, fun _ => 0, fun _ => none), (14, 16, fun _ => 0, fun _ => none), (14, 60, fun _ => 0, fun _ => none), (12, 40, fun _ => 0, fun _ => none)]) (List.append_assoc _ _ _) ?_
  refine g_putRF (Y := YX11_init) (pc := 97) (ci := 11) (f := 21) dX11_init_97 ⟨(RX11, TX11, 61), rfl, by decide, (in_t5 165 rfl rfl)⟩ rfl (fun a => ⟨rfl, rfl⟩) rfl rfl ⟨_, rfl, rfl⟩ (gT0 hl rfl) rfl ?_
  refine g_ms (m2 := ms0 ++ [(11, 0, fun _ => 0, va_up (va_up (va_up (va_up (va_up (va_up (va_up (va_up (va_up (va_up (va_up (va_up (fun _ => none) 0 (some 175)) 2 (some 176)) 4 (some 177)) 5 (some 178)) 6 (some 179)) 7 (some 180)) 8 (some 181)) 9 (some 182)) 10 (some 183)) 12 (some 184)) 20 (some 185)) 21 (some 186)), (14, 25, fun _ => 0, fun _ => none), (15, 6, fun _ => 0, fun _ => none), (14, 6, fun _ => 0, fun _ => none), (14, 6, fun _ => 0, fun _ => none), (14, 6, fun _ => 0, fun _ => none), (15, 6, fun _ => 0, fun _ => none), (14, 36, fun _ => 0, fun _ => none), (14, 6, fun _ => 0, fun _ => none), (12, 80, fun _ => 0, fun _ => none), (14, 16, fun _ => 0, fun _ => none), (14, 60, fun _ => 0, fun _ => none), (12, 40, fun _ => 0, fun _ => none)]) (sT0 hl rfl) ?_
  refine g_aload_n (Y := YX11_init) (pc := 100) 0 dX11_init_100 rfl ?_
  refine g_bipush (Y := YX11_init) (pc := 101) (v := 36) dX11_init_101 (by decide) ?_
  refine h_newa (Y := YX11_init) (pc := 103) (b := 187) (N := 36) dX11_init_103 (by decide) ac_int (by decide) rfl (Nat.le_of_ble_eq_true rfl) (Nat.le_of_ble_eq_true rfl) (Nat.le_of_ble_eq_true rfl) (lT hl rfl) ?_
  refine g_ms (m2 := ms0 ++ [(11, 0, fun _ => 0, va_up (va_up (va_up (va_up (va_up (va_up (va_up (va_up (va_up (va_up (va_up (va_up (fun _ => none) 0 (some 175)) 2 (some 176)) 4 (some 177)) 5 (some 178)) 6 (some 179)) 7 (some 180)) 8 (some 181)) 9 (some 182)) 10 (some 183)) 12 (some 184)) 20 (some 185)) 21 (some 186)), (14, 25, fun _ => 0, fun _ => none), (15, 6, fun _ => 0, fun _ => none), (14, 6, fun _ => 0, fun _ => none), (14, 6, fun _ => 0, fun _ => none), (14, 6, fun _ => 0, fun _ => none), (15, 6, fun _ => 0, fun _ => none), (14, 36, fun _ => 0, fun _ => none), (14, 6, fun _ => 0, fun _ => none), (12, 80, fun _ => 0, fun _ => none), (14, 16, fun _ => 0, fun _ => none), (14, 60, fun _ => 0, fun _ => none), (12, 40, fun _ => 0, fun _ => none), (14, 36, fun _ => 0, fun _ => none)]) (List.append_assoc _ _ _) ?_
  refine g_putRF (Y := YX11_init) (pc := 105) (ci := 11) (f := 26) dX11_init_105 ⟨(RX11, TX11, 61), rfl, by decide, (in_t5 170 rfl rfl)⟩ rfl (fun a => ⟨rfl, rfl⟩) rfl rfl ⟨_, rfl, rfl⟩ (gT0 hl rfl) rfl ?_
  refine g_ms (m2 := ms0 ++ [(11, 0, fun _ => 0, va_up (va_up (va_up (va_up (va_up (va_up (va_up (va_up (va_up (va_up (va_up (va_up (va_up (fun _ => none) 0 (some 175)) 2 (some 176)) 4 (some 177)) 5 (some 178)) 6 (some 179)) 7 (some 180)) 8 (some 181)) 9 (some 182)) 10 (some 183)) 12 (some 184)) 20 (some 185)) 21 (some 186)) 26 (some 187)), (14, 25, fun _ => 0, fun _ => none), (15, 6, fun _ => 0, fun _ => none), (14, 6, fun _ => 0, fun _ => none), (14, 6, fun _ => 0, fun _ => none), (14, 6, fun _ => 0, fun _ => none), (15, 6, fun _ => 0, fun _ => none), (14, 36, fun _ => 0, fun _ => none), (14, 6, fun _ => 0, fun _ => none), (12, 80, fun _ => 0, fun _ => none), (14, 16, fun _ => 0, fun _ => none), (14, 60, fun _ => 0, fun _ => none), (12, 40, fun _ => 0, fun _ => none), (14, 36, fun _ => 0, fun _ => none)]) (sT0 hl rfl) ?_
  refine g_aload_n (Y := YX11_init) (pc := 108) 0 dX11_init_108 rfl ?_
  refine g_sipush (Y := YX11_init) (pc := 109) (v := 300) dX11_init_109 (by decide) ?_
  refine h_newa (Y := YX11_init) (pc := 112) (b := 188) (N := 300) dX11_init_112 (by decide) ac_int (by decide) rfl (Nat.le_of_ble_eq_true rfl) (Nat.le_of_ble_eq_true rfl) (Nat.le_of_ble_eq_true rfl) (lT hl rfl) ?_
  refine g_ms (m2 := ms0 ++ [(11, 0, fun _ => 0, va_up (va_up (va_up (va_up (va_up (va_up (va_up (va_up (va_up (va_up (va_up (va_up (va_up (fun _ => none) 0 (some 175)) 2 (some 176)) 4 (some 177)) 5 (some 178)) 6 (some 179)) 7 (some 180)) 8 (some 181)) 9 (some 182)) 10 (some 183)) 12 (some 184)) 20 (some 185)) 21 (some 186)) 26 (some 187)), (14, 25, fun _ => 0, fun _ => none), (15, 6, fun _ => 0, fun _ => none), (14, 6, fun _ => 0, fun _ => none), (14, 6, fun _ => 0, fun _ => none), (14, 6, fun _ => 0, fun _ => none), (15, 6, fun _ => 0, fun _ => none), (14, 36, fun _ => 0, fun _ => none), (14, 6, fun _ => 0, fun _ => none), (12, 80, fun _ => 0, fun _ => none), (14, 16, fun _ => 0, fun _ => none), (14, 60, fun _ => 0, fun _ => none), (12, 40, fun _ => 0, fun _ => none), (14, 36, fun _ => 0, fun _ => none), (14, 300, fun _ => 0, fun _ => none)]) (List.append_assoc _ _ _) ?_
  refine g_putRF (Y := YX11_init) (pc := 114) (ci := 11) (f := 27) dX11_init_114 ⟨(RX11, TX11, 61), rfl, by decide, (in_t5 171 rfl rfl)⟩ rfl (fun a => ⟨rfl, rfl⟩) rfl rfl ⟨_, rfl, rfl⟩ (gT0 hl rfl) rfl ?_
  refine g_ms (m2 := ms0 ++ [(11, 0, fun _ => 0, va_up (va_up (va_up (va_up (va_up (va_up (va_up (va_up (va_up (va_up (va_up (va_up (va_up (va_up (fun _ => none) 0 (some 175)) 2 (some 176)) 4 (some 177)) 5 (some 178)) 6 (some 179)) 7 (some 180)) 8 (some 181)) 9 (some 182)) 10 (some 183)) 12 (some 184)) 20 (some 185)) 21 (some 186)) 26 (some 187)) 27 (some 188)), (14, 25, fun _ => 0, fun _ => none), (15, 6, fun _ => 0, fun _ => none), (14, 6, fun _ => 0, fun _ => none), (14, 6, fun _ => 0, fun _ => none), (14, 6, fun _ => 0, fun _ => none), (15, 6, fun _ => 0, fun _ => none), (14, 36, fun _ => 0, fun _ => none), (14, 6, fun _ => 0, fun _ => none), (12, 80, fun _ => 0, fun _ => none), (14, 16, fun _ => 0, fun _ => none), (14, 60, fun _ => 0, fun _ => none), (12, 40, fun _ => 0, fun _ => none), (14, 36, fun _ => 0, fun _ => none), (14, 300, fun _ => 0, fun _ => none)]) (sT0 hl rfl) ?_
  refine g_aload_n (Y := YX11_init) (pc := 117) 0 dX11_init_117 rfl ?_
  refine g_bipush (Y := YX11_init) (pc := 118) (v := 25) dX11_init_118 (by decide) ?_
  refine h_newa (Y := YX11_init) (pc := 120) (b := 189) (N := 25) dX11_init_120 (by decide) ac_int (by decide) rfl (Nat.le_of_ble_eq_true rfl) (Nat.le_of_ble_eq_true rfl) (Nat.le_of_ble_eq_true rfl) (lT hl rfl) ?_
  refine g_ms (m2 := ms0 ++ [(11, 0, fun _ => 0, va_up (va_up (va_up (va_up (va_up (va_up (va_up (va_up (va_up (va_up (va_up (va_up (va_up (va_up (fun _ => none) 0 (some 175)) 2 (some 176)) 4 (some 177)) 5 (some 178)) 6 (some 179)) 7 (some 180)) 8 (some 181)) 9 (some 182)) 10 (some 183)) 12 (some 184)) 20 (some 185)) 21 (some 186)) 26 (some 187)) 27 (some 188)), (14, 25, fun _ => 0, fun _ => none), (15, 6, fun _ => 0, fun _ => none), (14, 6, fun _ => 0, fun _ => none), (14, 6, fun _ => 0, fun _ => none), (14, 6, fun _ => 0, fun _ => none), (15, 6, fun _ => 0, fun _ => none), (14, 36, fun _ => 0, fun _ => none), (14, 6, fun _ => 0, fun _ => none), (12, 80, fun _ => 0, fun _ => none), (14, 16, fun _ => 0, fun _ => none), (14, 60, fun _ => 0, fun _ => none), (12, 40, fun _ => 0, fun _ => none), (14, 36, fun _ => 0, fun _ => none), (14, 300, fun _ => 0, fun _ => none), (14, 25, fun _ => 0, fun _ => none)]) (List.append_assoc _ _ _) ?_
  refine g_putRF (Y := YX11_init) (pc := 122) (ci := 11) (f := 29) dX11_init_122 ⟨(RX11, TX11, 61), rfl, by decide, (in_t5 173 rfl rfl)⟩ rfl (fun a => ⟨rfl, rfl⟩) rfl rfl ⟨_, rfl, rfl⟩ (gT0 hl rfl) rfl ?_
  refine g_ms (m2 := ms0 ++ [(11, 0, fun _ => 0, va_up (va_up (va_up (va_up (va_up (va_up (va_up (va_up (va_up (va_up (va_up (va_up (va_up (va_up (va_up (fun _ => none) 0 (some 175)) 2 (some 176)) 4 (some 177)) 5 (some 178)) 6 (some 179)) 7 (some 180)) 8 (some 181)) 9 (some 182)) 10 (some 183)) 12 (some 184)) 20 (some 185)) 21 (some 186)) 26 (some 187)) 27 (some 188)) 29 (some 189)), (14, 25, fun _ => 0, fun _ => none), (15, 6, fun _ => 0, fun _ => none), (14, 6, fun _ => 0, fun _ => none), (14, 6, fun _ => 0, fun _ => none), (14, 6, fun _ => 0, fun _ => none), (15, 6, fun _ => 0, fun _ => none), (14, 36, fun _ => 0, fun _ => none), (14, 6, fun _ => 0, fun _ => none), (12, 80, fun _ => 0, fun _ => none), (14, 16, fun _ => 0, fun _ => none), (14, 60, fun _ => 0, fun _ => none), (12, 40, fun _ => 0, fun _ => none), (14, 36, fun _ => 0, fun _ => none), (14, 300, fun _ => 0, fun _ => none), (14, 25, fun _ => 0, fun _ => none)]) (sT0 hl rfl) ?_
  refine g_aload_n (Y := YX11_init) (pc := 125) 0 dX11_init_125 rfl ?_
  refine g_sipush (Y := YX11_init) (pc := 126) (v := 240) dX11_init_126 (by decide) ?_
  refine h_newa (Y := YX11_init) (pc := 129) (b := 190) (N := 240) dX11_init_129 (by decide) ac_int (by decide) rfl (Nat.le_of_ble_eq_true rfl) (Nat.le_of_ble_eq_true rfl) (Nat.le_of_ble_eq_true rfl) (lT hl rfl) ?_
  refine g_ms (m2 := ms0 ++ [(11, 0, fun _ => 0, va_up (va_up (va_up (va_up (va_up (va_up (va_up (va_up (va_up (va_up (va_up (va_up (va_up (va_up (va_up (fun _ => none) 0 (some 175)) 2 (some 176)) 4 (some 177)) 5 (some 178)) 6 (some 179)) 7 (some 180)) 8 (some 181)) 9 (some 182)) 10 (some 183)) 12 (some 184)) 20 (some 185)) 21 (some 186)) 26 (some 187)) 27 (some 188)) 29 (some 189)), (14, 25, fun _ => 0, fun _ => none), (15, 6, fun _ => 0, fun _ => none), (14, 6, fun _ => 0, fun _ => none), (14, 6, fun _ => 0, fun _ => none), (14, 6, fun _ => 0, fun _ => none), (15, 6, fun _ => 0, fun _ => none), (14, 36, fun _ => 0, fun _ => none), (14, 6, fun _ => 0, fun _ => none), (12, 80, fun _ => 0, fun _ => none), (14, 16, fun _ => 0, fun _ => none), (14, 60, fun _ => 0, fun _ => none), (12, 40, fun _ => 0, fun _ => none), (14, 36, fun _ => 0, fun _ => none), (14, 300, fun _ => 0, fun _ => none), (14, 25, fun _ => 0, fun _ => none), (14, 240, fun _ => 0, fun _ => none)]) (List.append_assoc _ _ _) ?_
  refine g_putRF (Y := YX11_init) (pc := 131) (ci := 11) (f := 33) dX11_init_131 ⟨(RX11, TX11, 61), rfl, by decide, (in_t5 177 rfl rfl)⟩ rfl (fun a => ⟨rfl, rfl⟩) rfl rfl ⟨_, rfl, rfl⟩ (gT0 hl rfl) rfl ?_
  refine g_ms (m2 := ms0 ++ [(11, 0, fun _ => 0, va_up (va_up (va_up (va_up (va_up (va_up (va_up (va_up (va_up (va_up (va_up (va_up (va_up (va_up (va_up (va_up (fun _ => none) 0 (some 175)) 2 (some 176)) 4 (some 177)) 5 (some 178)) 6 (some 179)) 7 (some 180)) 8 (some 181)) 9 (some 182)) 10 (some 183)) 12 (some 184)) 20 (some 185)) 21 (some 186)) 26 (some 187)) 27 (some 188)) 29 (some 189)) 33 (some 190)), (14, 25, fun _ => 0, fun _ => none), (15, 6, fun _ => 0, fun _ => none), (14, 6, fun _ => 0, fun _ => none), (14, 6, fun _ => 0, fun _ => none), (14, 6, fun _ => 0, fun _ => none), (15, 6, fun _ => 0, fun _ => none), (14, 36, fun _ => 0, fun _ => none), (14, 6, fun _ => 0, fun _ => none), (12, 80, fun _ => 0, fun _ => none), (14, 16, fun _ => 0, fun _ => none), (14, 60, fun _ => 0, fun _ => none), (12, 40, fun _ => 0, fun _ => none), (14, 36, fun _ => 0, fun _ => none), (14, 300, fun _ => 0, fun _ => none), (14, 25, fun _ => 0, fun _ => none), (14, 240, fun _ => 0, fun _ => none)]) (sT0 hl rfl) ?_
  refine g_aload_n (Y := YX11_init) (pc := 134) 0 dX11_init_134 rfl ?_
  refine g_bipush (Y := YX11_init) (pc := 135) (v := 25) dX11_init_135 (by decide) ?_
  refine h_newa (Y := YX11_init) (pc := 137) (b := 191) (N := 25) dX11_init_137 (by decide) ac_int (by decide) rfl (Nat.le_of_ble_eq_true rfl) (Nat.le_of_ble_eq_true rfl) (Nat.le_of_ble_eq_true rfl) (lT hl rfl) ?_
  refine g_ms (m2 := ms0 ++ [(11, 0, fun _ => 0, va_up (va_up (va_up (va_up (va_up (va_up (va_up (va_up (va_up (va_up (va_up (va_up (va_up (va_up (va_up (va_up (fun _ => none) 0 (some 175)) 2 (some 176)) 4 (some 177)) 5 (some 178)) 6 (some 179)) 7 (some 180)) 8 (some 181)) 9 (some 182)) 10 (some 183)) 12 (some 184)) 20 (some 185)) 21 (some 186)) 26 (some 187)) 27 (some 188)) 29 (some 189)) 33 (some 190)), (14, 25, fun _ => 0, fun _ => none), (15, 6, fun _ => 0, fun _ => none), (14, 6, fun _ => 0, fun _ => none), (14, 6, fun _ => 0, fun _ => none), (14, 6, fun _ => 0, fun _ => none), (15, 6, fun _ => 0, fun _ => none), (14, 36, fun _ => 0, fun _ => none), (14, 6, fun _ => 0, fun _ => none), (12, 80, fun _ => 0, fun _ => none), (14, 16, fun _ => 0, fun _ => none), (14, 60, fun _ => 0, fun _ => none), (12, 40, fun _ => 0, fun _ => none), (14, 36, fun _ => 0, fun _ => none), (14, 300, fun _ => 0, fun _ => none), (14, 25, fun _ => 0, fun _ => none), (14, 240, fun _ => 0, fun _ => none), (14, 25, fun _ => 0, fun _ => none)]) (List.append_assoc _ _ _) ?_
  refine g_putRF (Y := YX11_init) (pc := 139) (ci := 11) (f := 35) dX11_init_139 ⟨(RX11, TX11, 61), rfl, by decide, (in_t5 179 rfl rfl)⟩ rfl (fun a => ⟨rfl, rfl⟩) rfl rfl ⟨_, rfl, rfl⟩ (gT0 hl rfl) rfl ?_
  refine g_ms (m2 := ms0 ++ [(11, 0, fun _ => 0, va_up (va_up (va_up (va_up (va_up (va_up (va_up (va_up (va_up (va_up (va_up (va_up (va_up (va_up (va_up (va_up (va_up (fun _ => none) 0 (some 175)) 2 (some 176)) 4 (some 177)) 5 (some 178)) 6 (some 179)) 7 (some 180)) 8 (some 181)) 9 (some 182)) 10 (some 183)) 12 (some 184)) 20 (some 185)) 21 (some 186)) 26 (some 187)) 27 (some 188)) 29 (some 189)) 33 (some 190)) 35 (some 191)), (14, 25, fun _ => 0, fun _ => none), (15, 6, fun _ => 0, fun _ => none), (14, 6, fun _ => 0, fun _ => none), (14, 6, fun _ => 0, fun _ => none), (14, 6, fun _ => 0, fun _ => none), (15, 6, fun _ => 0, fun _ => none), (14, 36, fun _ => 0, fun _ => none), (14, 6, fun _ => 0, fun _ => none), (12, 80, fun _ => 0, fun _ => none), (14, 16, fun _ => 0, fun _ => none), (14, 60, fun _ => 0, fun _ => none), (12, 40, fun _ => 0, fun _ => none), (14, 36, fun _ => 0, fun _ => none), (14, 300, fun _ => 0, fun _ => none), (14, 25, fun _ => 0, fun _ => none), (14, 240, fun _ => 0, fun _ => none), (14, 25, fun _ => 0, fun _ => none)]) (sT0 hl rfl) ?_
  refine g_aload_n (Y := YX11_init) (pc := 142) 0 dX11_init_142 rfl ?_
  refine g_bipush (Y := YX11_init) (pc := 143) (v := 6) dX11_init_143 (by decide) ?_
  refine h_newa (Y := YX11_init) (pc := 145) (b := 192) (N := 6) dX11_init_145 (by decide) ac_int (by decide) rfl (Nat.le_of_ble_eq_true rfl) (Nat.le_of_ble_eq_true rfl) (Nat.le_of_ble_eq_true rfl) (lT hl rfl) ?_
  refine g_ms (m2 := ms0 ++ [(11, 0, fun _ => 0, va_up (va_up (va_up (va_up (va_up (va_up (va_up (va_up (va_up (va_up (va_up (va_up (va_up (va_up (va_up (va_up (va_up (fun _ => none) 0 (some 175)) 2 (some 176)) 4 (some 177)) 5 (some 178)) 6 (some 179)) 7 (some 180)) 8 (some 181)) 9 (some 182)) 10 (some 183)) 12 (some 184)) 20 (some 185)) 21 (some 186)) 26 (some 187)) 27 (some 188)) 29 (some 189)) 33 (some 190)) 35 (some 191)), (14, 25, fun _ => 0, fun _ => none), (15, 6, fun _ => 0, fun _ => none), (14, 6, fun _ => 0, fun _ => none), (14, 6, fun _ => 0, fun _ => none), (14, 6, fun _ => 0, fun _ => none), (15, 6, fun _ => 0, fun _ => none), (14, 36, fun _ => 0, fun _ => none), (14, 6, fun _ => 0, fun _ => none), (12, 80, fun _ => 0, fun _ => none), (14, 16, fun _ => 0, fun _ => none), (14, 60, fun _ => 0, fun _ => none), (12, 40, fun _ => 0, fun _ => none), (14, 36, fun _ => 0, fun _ => none), (14, 300, fun _ => 0, fun _ => none), (14, 25, fun _ => 0, fun _ => none), (14, 240, fun _ => 0, fun _ => none), (14, 25, fun _ => 0, fun _ => none), (14, 6, fun _ => 0, fun _ => none)]) (List.append_assoc _ _ _) ?_
  refine g_putRF (Y := YX11_init) (pc := 147) (ci := 11) (f := 36) dX11_init_147 ⟨(RX11, TX11, 61), rfl, by decide, (in_t5 180 rfl rfl)⟩ rfl (fun a => ⟨rfl, rfl⟩) rfl rfl ⟨_, rfl, rfl⟩ (gT0 hl rfl) rfl ?_
  refine g_ms (m2 := ms0 ++ [(11, 0, fun _ => 0, va_up (va_up (va_up (va_up (va_up (va_up (va_up (va_up (va_up (va_up (va_up (va_up (va_up (va_up (va_up (va_up (va_up (va_up (fun _ => none) 0 (some 175)) 2 (some 176)) 4 (some 177)) 5 (some 178)) 6 (some 179)) 7 (some 180)) 8 (some 181)) 9 (some 182)) 10 (some 183)) 12 (some 184)) 20 (some 185)) 21 (some 186)) 26 (some 187)) 27 (some 188)) 29 (some 189)) 33 (some 190)) 35 (some 191)) 36 (some 192)), (14, 25, fun _ => 0, fun _ => none), (15, 6, fun _ => 0, fun _ => none), (14, 6, fun _ => 0, fun _ => none), (14, 6, fun _ => 0, fun _ => none), (14, 6, fun _ => 0, fun _ => none), (15, 6, fun _ => 0, fun _ => none), (14, 36, fun _ => 0, fun _ => none), (14, 6, fun _ => 0, fun _ => none), (12, 80, fun _ => 0, fun _ => none), (14, 16, fun _ => 0, fun _ => none), (14, 60, fun _ => 0, fun _ => none), (12, 40, fun _ => 0, fun _ => none), (14, 36, fun _ => 0, fun _ => none), (14, 300, fun _ => 0, fun _ => none), (14, 25, fun _ => 0, fun _ => none), (14, 240, fun _ => 0, fun _ => none), (14, 25, fun _ => 0, fun _ => none), (14, 6, fun _ => 0, fun _ => none)]) (sT0 hl rfl) ?_
  refine g_aload_n (Y := YX11_init) (pc := 150) 0 dX11_init_150 rfl ?_
  refine g_bipush (Y := YX11_init) (pc := 151) (v := 6) dX11_init_151 (by decide) ?_
  refine h_newa (Y := YX11_init) (pc := 153) (b := 193) (N := 6) dX11_init_153 (by decide) ac_int (by decide) rfl (Nat.le_of_ble_eq_true rfl) (Nat.le_of_ble_eq_true rfl) (Nat.le_of_ble_eq_true rfl) (lT hl rfl) ?_
  refine g_ms (m2 := ms0 ++ [(11, 0, fun _ => 0, va_up (va_up (va_up (va_up (va_up (va_up (va_up (va_up (va_up (va_up (va_up (va_up (va_up (va_up (va_up (va_up (va_up (va_up (fun _ => none) 0 (some 175)) 2 (some 176)) 4 (some 177)) 5 (some 178)) 6 (some 179)) 7 (some 180)) 8 (some 181)) 9 (some 182)) 10 (some 183)) 12 (some 184)) 20 (some 185)) 21 (some 186)) 26 (some 187)) 27 (some 188)) 29 (some 189)) 33 (some 190)) 35 (some 191)) 36 (some 192)), (14, 25, fun _ => 0, fun _ => none), (15, 6, fun _ => 0, fun _ => none), (14, 6, fun _ => 0, fun _ => none), (14, 6, fun _ => 0, fun _ => none), (14, 6, fun _ => 0, fun _ => none), (15, 6, fun _ => 0, fun _ => none), (14, 36, fun _ => 0, fun _ => none), (14, 6, fun _ => 0, fun _ => none), (12, 80, fun _ => 0, fun _ => none), (14, 16, fun _ => 0, fun _ => none), (14, 60, fun _ => 0, fun _ => none), (12, 40, fun _ => 0, fun _ => none), (14, 36, fun _ => 0, fun _ => none), (14, 300, fun _ => 0, fun _ => none), (14, 25, fun _ => 0, fun _ => none), (14, 240, fun _ => 0, fun _ => none), (14, 25, fun _ => 0, fun _ => none), (14, 6, fun _ => 0, fun _ => none), (14, 6, fun _ => 0, fun _ => none)]) (List.append_assoc _ _ _) ?_
  refine g_putRF (Y := YX11_init) (pc := 155) (ci := 11) (f := 38) dX11_init_155 ⟨(RX11, TX11, 61), rfl, by decide, (in_t5 182 rfl rfl)⟩ rfl (fun a => ⟨rfl, rfl⟩) rfl rfl ⟨_, rfl, rfl⟩ (gT0 hl rfl) rfl ?_
  refine g_ms (m2 := ms0 ++ [(11, 0, fun _ => 0, va_up (va_up (va_up (va_up (va_up (va_up (va_up (va_up (va_up (va_up (va_up (va_up (va_up (va_up (va_up (va_up (va_up (va_up (va_up (fun _ => none) 0 (some 175)) 2 (some 176)) 4 (some 177)) 5 (some 178)) 6 (some 179)) 7 (some 180)) 8 (some 181)) 9 (some 182)) 10 (some 183)) 12 (some 184)) 20 (some 185)) 21 (some 186)) 26 (some 187)) 27 (some 188)) 29 (some 189)) 33 (some 190)) 35 (some 191)) 36 (some 192)) 38 (some 193)), (14, 25, fun _ => 0, fun _ => none), (15, 6, fun _ => 0, fun _ => none), (14, 6, fun _ => 0, fun _ => none), (14, 6, fun _ => 0, fun _ => none), (14, 6, fun _ => 0, fun _ => none), (15, 6, fun _ => 0, fun _ => none), (14, 36, fun _ => 0, fun _ => none), (14, 6, fun _ => 0, fun _ => none), (12, 80, fun _ => 0, fun _ => none), (14, 16, fun _ => 0, fun _ => none), (14, 60, fun _ => 0, fun _ => none), (12, 40, fun _ => 0, fun _ => none), (14, 36, fun _ => 0, fun _ => none), (14, 300, fun _ => 0, fun _ => none), (14, 25, fun _ => 0, fun _ => none), (14, 240, fun _ => 0, fun _ => none), (14, 25, fun _ => 0, fun _ => none), (14, 6, fun _ => 0, fun _ => none), (14, 6, fun _ => 0, fun _ => none)]) (sT0 hl rfl) ?_
  refine g_aload_n (Y := YX11_init) (pc := 158) 0 dX11_init_158 rfl ?_
  refine g_bipush (Y := YX11_init) (pc := 159) (v := 6) dX11_init_159 (by decide) ?_
  refine h_newa (Y := YX11_init) (pc := 161) (b := 194) (N := 6) dX11_init_161 (by decide) ac_int (by decide) rfl (Nat.le_of_ble_eq_true rfl) (Nat.le_of_ble_eq_true rfl) (Nat.le_of_ble_eq_true rfl) (lT hl rfl) ?_
  refine g_ms (m2 := ms0 ++ [(11, 0, fun _ => 0, va_up (va_up (va_up (va_up (va_up (va_up (va_up (va_up (va_up (va_up (va_up (va_up (va_up (va_up (va_up (va_up (va_up (va_up (va_up (fun _ => none) 0 (some 175)) 2 (some 176)) 4 (some 177)) 5 (some 178)) 6 (some 179)) 7 (some 180)) 8 (some 181)) 9 (some 182)) 10 (some 183)) 12 (some 184)) 20 (some 185)) 21 (some 186)) 26 (some 187)) 27 (some 188)) 29 (some 189)) 33 (some 190)) 35 (some 191)) 36 (some 192)) 38 (some 193)), (14, 25, fun _ => 0, fun _ => none), (15, 6, fun _ => 0, fun _ => none), (14, 6, fun _ => 0, fun _ => none), (14, 6, fun _ => 0, fun _ => none), (14, 6, fun _ => 0, fun _ => none), (15, 6, fun _ => 0, fun _ => none), (14, 36, fun _ => 0, fun _ => none), (14, 6, fun _ => 0, fun _ => none), (12, 80, fun _ => 0, fun _ => none), (14, 16, fun _ => 0, fun _ => none), (14, 60, fun _ => 0, fun _ => none), (12, 40, fun _ => 0, fun _ => none), (14, 36, fun _ => 0, fun _ => none), (14, 300, fun _ => 0, fun _ => none), (14, 25, fun _ => 0, fun _ => none), (14, 240, fun _ => 0, fun _ => none), (14, 25, fun _ => 0, fun _ => none), (14, 6, fun _ => 0, fun _ => none), (14, 6, fun _ => 0, fun _ => none), (14, 6, fun _ => 0, fun _ => none)]) (List.append_assoc _ _ _) ?_
  refine g_putRF (Y := YX11_init) (pc := 163) (ci := 11) (f := 42) dX11_init_163 ⟨(RX11, TX11, 61), rfl, by decide, (in_t5 186 rfl rfl)⟩ rfl (fun a => ⟨rfl, rfl⟩) rfl rfl ⟨_, rfl, rfl⟩ (gT0 hl rfl) rfl ?_
  refine g_ms (m2 := ms0 ++ [(11, 0, fun _ => 0, va_up (va_up (va_up (va_up (va_up (va_up (va_up (va_up (va_up (va_up (va_up (va_up (va_up (va_up (va_up (va_up (va_up (va_up (va_up (va_up (fun _ => none) 0 (some 175)) 2 (some 176)) 4 (some 177)) 5 (some 178)) 6 (some 179)) 7 (some 180)) 8 (some 181)) 9 (some 182)) 10 (some 183)) 12 (some 184)) 20 (some 185)) 21 (some 186)) 26 (some 187)) 27 (some 188)) 29 (some 189)) 33 (some 190)) 35 (some 191)) 36 (some 192)) 38 (some 193)) 42 (some 194)), (14, 25, fun _ => 0, fun _ => none), (15, 6, fun _ => 0, fun _ => none), (14, 6, fun _ => 0, fun _ => none), (14, 6, fun _ => 0, fun _ => none), (14, 6, fun _ => 0, fun _ => none), (15, 6, fun _ => 0, fun _ => none), (14, 36, fun _ => 0, fun _ => none), (14, 6, fun _ => 0, fun _ => none), (12, 80, fun _ => 0, fun _ => none), (14, 16, fun _ => 0, fun _ => none), (14, 60, fun _ => 0, fun _ => none), (12, 40, fun _ => 0, fun _ => none), (14, 36, fun _ => 0, fun _ => none), (14, 300, fun _ => 0, fun _ => none), (14, 25, fun _ => 0, fun _ => none), (14, 240, fun _ => 0, fun _ => none), (14, 25, fun _ => 0, fun _ => none), (14, 6, fun _ => 0, fun _ => none), (14, 6, fun _ => 0, fun _ => none), (14, 6, fun _ => 0, fun _ => none)]) (sT0 hl rfl) ?_
  refine g_aload_n (Y := YX11_init) (pc := 166) 0 dX11_init_166 rfl ?_
  refine g_bipush (Y := YX11_init) (pc := 167) (v := 6) dX11_init_167 (by decide) ?_
  refine h_newa (Y := YX11_init) (pc := 169) (b := 195) (N := 6) dX11_init_169 (by decide) ac_int (by decide) rfl (Nat.le_of_ble_eq_true rfl) (Nat.le_of_ble_eq_true rfl) (Nat.le_of_ble_eq_true rfl) (lT hl rfl) ?_
  refine g_ms (m2 := ms0 ++ [(11, 0, fun _ => 0, va_up (va_up (va_up (va_up (va_up (va_up (va_up (va_up (va_up (va_up (va_up (va_up (va_up (va_up (va_up (va_up (va_up (va_up (va_up (va_up (fun _ => none) 0 (some 175)) 2 (some 176)) 4 (some 177)) 5 (some 178)) 6 (some 179)) 7 (some 180)) 8 (some 181)) 9 (some 182)) 10 (some 183)) 12 (some 184)) 20 (some 185)) 21 (some 186)) 26 (some 187)) 27 (some 188)) 29 (some 189)) 33 (some 190)) 35 (some 191)) 36 (some 192)) 38 (some 193)) 42 (some 194)), (14, 25, fun _ => 0, fun _ => none), (15, 6, fun _ => 0, fun _ => none), (14, 6, fun _ => 0, fun _ => none), (14, 6, fun _ => 0, fun _ => none), (14, 6, fun _ => 0, fun _ => none), (15, 6, fun _ => 0, fun _ => none), (14, 36, fun _ => 0, fun _ => none), (14, 6, fun _ => 0, fun _ => none), (12, 80, fun _ => 0, fun _ => none), (14, 16, fun _ => 0, fun _ => none), (14, 60, fun _ => 0, fun _ => none), (12, 40, fun _ => 0, fun _ => none), (14, 36, fun _ => 0, fun _ => none), (14, 300, fun _ => 0, fun _ => none), (14, 25, fun _ => 0, fun _ => none), (14, 240, fun _ => 0, fun _ => none), (14, 25, fun _ => 0, fun _ => none), (14, 6, fun _ => 0, fun _ => none), (14, 6, fun _ => 0, fun _ => none), (14, 6, fun _ => 0, fun _ => none), (14, 6, fun _ => 0, fun _ => none)]) (List.append_assoc _ _ _) ?_
  refine g_putRF (Y := YX11_init) (pc := 171) (ci := 11) (f := 43) dX11_init_171 ⟨(RX11, TX11, 61), rfl, by decide, (in_t5 187 rfl rfl)⟩ rfl (fun a => ⟨rfl, rfl⟩) rfl rfl ⟨_, rfl, rfl⟩ (gT0 hl rfl) rfl ?_
  refine g_ms (m2 := ms0 ++ [(11, 0, fun _ => 0, va_up (va_up (va_up (va_up (va_up (va_up (va_up (va_up (va_up (va_up (va_up (va_up (va_up (va_up (va_up (va_up (va_up (va_up (va_up (va_up (va_up (fun _ => none) 0 (some 175)) 2 (some 176)) 4 (some 177)) 5 (some 178)) 6 (some 179)) 7 (some 180)) 8 (some 181)) 9 (some 182)) 10 (some 183)) 12 (some 184)) 20 (some 185)) 21 (some 186)) 26 (some 187)) 27 (some 188)) 29 (some 189)) 33 (some 190)) 35 (some 191)) 36 (some 192)) 38 (some 193)) 42 (some 194)) 43 (some 195)), (14, 25, fun _ => 0, fun _ => none), (15, 6, fun _ => 0, fun _ => none), (14, 6, fun _ => 0, fun _ => none), (14, 6, fun _ => 0, fun _ => none), (14, 6, fun _ => 0, fun _ => none), (15, 6, fun _ => 0, fun _ => none), (14, 36, fun _ => 0, fun _ => none), (14, 6, fun _ => 0, fun _ => none), (12, 80, fun _ => 0, fun _ => none), (14, 16, fun _ => 0, fun _ => none), (14, 60, fun _ => 0, fun _ => none), (12, 40, fun _ => 0, fun _ => none), (14, 36, fun _ => 0, fun _ => none), (14, 300, fun _ => 0, fun _ => none), (14, 25, fun _ => 0, fun _ => none), (14, 240, fun _ => 0, fun _ => none), (14, 25, fun _ => 0, fun _ => none), (14, 6, fun _ => 0, fun _ => none), (14, 6, fun _ => 0, fun _ => none), (14, 6, fun _ => 0, fun _ => none), (14, 6, fun _ => 0, fun _ => none)]) (sT0 hl rfl) ?_
  refine g_aload_n (Y := YX11_init) (pc := 174) 0 dX11_init_174 rfl ?_
  refine g_bipush (Y := YX11_init) (pc := 175) (v := 6) dX11_init_175 (by decide) ?_
  refine h_newa (Y := YX11_init) (pc := 177) (b := 196) (N := 6) dX11_init_177 (by decide) ac_int (by decide) rfl (Nat.le_of_ble_eq_true rfl) (Nat.le_of_ble_eq_true rfl) (Nat.le_of_ble_eq_true rfl) (lT hl rfl) ?_
  refine g_ms (m2 := ms0 ++ [(11, 0, fun _ => 0, va_up (va_up (va_up (va_up (va_up (va_up (va_up (va_up (va_up (va_up (va_up (va_up (va_up (va_up (va_up (va_up (va_up (va_up (va_up (va_up (va_up (fun _ => none) 0 (some 175)) 2 (some 176)) 4 (some 177)) 5 (some 178)) 6 (some 179)) 7 (some 180)) 8 (some 181)) 9 (some 182)) 10 (some 183)) 12 (some 184)) 20 (some 185)) 21 (some 186)) 26 (some 187)) 27 (some 188)) 29 (some 189)) 33 (some 190)) 35 (some 191)) 36 (some 192)) 38 (some 193)) 42 (some 194)) 43 (some 195)), (14, 25, fun _ => 0, fun _ => none), (15, 6, fun _ => 0, fun _ => none), (14, 6, fun _ => 0, fun _ => none), (14, 6, fun _ => 0, fun _ => none), (14, 6, fun _ => 0, fun _ => none), (15, 6, fun _ => 0, fun _ => none), (14, 36, fun _ => 0, fun _ => none), (14, 6, fun _ => 0, fun _ => none), (12, 80, fun _ => 0, fun _ => none), (14, 16, fun _ => 0, fun _ => none), (14, 60, fun _ => 0, fun _ => none), (12, 40, fun _ => 0, fun _ => none), (14, 36, fun _ => 0, fun _ => none), (14, 300, fun _ => 0, fun _ => none), (14, 25, fun _ => 0, fun _ => none), (14, 240, fun _ => 0, fun _ => none), (14, 25, fun _ => 0, fun _ => none), (14, 6, fun _ => 0, fun _ => none), (14, 6, fun _ => 0, fun _ => none), (14, 6, fun _ => 0, fun _ => none), (14, 6, fun _ => 0, fun _ => none), (14, 6, fun _ => 0, fun _ => none)]) (List.append_assoc _ _ _) ?_
  refine g_putRF (Y := YX11_init) (pc := 179) (ci := 11) (f := 45) dX11_init_179 ⟨(RX11, TX11, 61), rfl, by decide, (in_t5 189 rfl rfl)⟩ rfl (fun a => ⟨rfl, rfl⟩) rfl rfl ⟨_, rfl, rfl⟩ (gT0 hl rfl) rfl ?_
  refine g_ms (m2 := ms0 ++ [(11, 0, fun _ => 0, va_up (va_up (va_up (va_up (va_up (va_up (va_up (va_up (va_up (va_up (va_up (va_up (va_up (va_up (va_up (va_up (va_up (va_up (va_up (va_up (va_up (va_up (fun _ => none) 0 (some 175)) 2 (some 176)) 4 (some 177)) 5 (some 178)) 6 (some 179)) 7 (some 180)) 8 (some 181)) 9 (some 182)) 10 (some 183)) 12 (some 184)) 20 (some 185)) 21 (some 186)) 26 (some 187)) 27 (some 188)) 29 (some 189)) 33 (some 190)) 35 (some 191)) 36 (some 192)) 38 (some 193)) 42 (some 194)) 43 (some 195)) 45 (some 196)), (14, 25, fun _ => 0, fun _ => none), (15, 6, fun _ => 0, fun _ => none), (14, 6, fun _ => 0, fun _ => none), (14, 6, fun _ => 0, fun _ => none), (14, 6, fun _ => 0, fun _ => none), (15, 6, fun _ => 0, fun _ => none), (14, 36, fun _ => 0, fun _ => none), (14, 6, fun _ => 0, fun _ => none), (12, 80, fun _ => 0, fun _ => none), (14, 16, fun _ => 0, fun _ => none), (14, 60, fun _ => 0, fun _ => none), (12, 40, fun _ => 0, fun _ => none), (14, 36, fun _ => 0, fun _ => none), (14, 300, fun _ => 0, fun _ => none), (14, 25, fun _ => 0, fun _ => none), (14, 240, fun _ => 0, fun _ => none), (14, 25, fun _ => 0, fun _ => none), (14, 6, fun _ => 0, fun _ => none), (14, 6, fun _ => 0, fun _ => none), (14, 6, fun _ => 0, fun _ => none), (14, 6, fun _ => 0, fun _ => none), (14, 6, fun _ => 0, fun _ => none)]) (sT0 hl rfl) ?_
  refine g_aload_n (Y := YX11_init) (pc := 182) 0 dX11_init_182 rfl ?_
  refine g_bipush (Y := YX11_init) (pc := 183) (v := 6) dX11_init_183 (by decide) ?_
  refine h_newa (Y := YX11_init) (pc := 185) (b := 197) (N := 6) dX11_init_185 (by decide) ac_int (by decide) rfl (Nat.le_of_ble_eq_true rfl) (Nat.le_of_ble_eq_true rfl) (Nat.le_of_ble_eq_true rfl) (lT hl rfl) ?_
  refine g_ms (m2 := ms0 ++ [(11, 0, fun _ => 0, va_up (va_up (va_up (va_up (va_up (va_up (va_up (va_up (va_up (va_up (va_up (va_up (va_up (va_up (va_up (va_up (va_up (va_up (va_up (va_up (va_up (va_up (fun _ => none) 0 (some 175)) 2 (some 176)) 4 (some 177)) 5 (some 178)) 6 (some 179)) 7 (some 180)) 8 (some 181)) 9 (some 182)) 10 (some 183)) 12 (some 184)) 20 (some 185)) 21 (some 186)) 26 (some 187)) 27 (some 188)) 29 (some 189)) 33 (some 190)) 35 (some 191)) 36 (some 192)) 38 (some 193)) 42 (some 194)) 43 (some 195)) 45 (some 196)), (14, 25, fun _ => 0, fun _ => none), (15, 6, fun _ => 0, fun _ => none), (14, 6, fun _ => 0, fun _ => none), (14, 6, fun _ => 0, fun _ => none), (14, 6, fun _ => 0, fun _ => none), (15, 6, fun _ => 0, fun _ => none), (14, 36, fun _ => 0, fun _ => none), (14, 6, fun _ => 0, fun _ => none), (12, 80, fun _ => 0, fun _ => none), (14, 16, fun _ => 0, fun _ => none), (14, 60, fun _ => 0, fun _ => none), (12, 40, fun _ => 0, fun _ => none), (14, 36, fun _ => 0, fun _ => none), (14, 300, fun _ => 0, fun _ => none), (14, 25, fun _ => 0, fun _ => none), (14, 240, fun _ => 0, fun _ => none), (14, 25, fun _ => 0, fun _ => none), (14, 6, fun _ => 0, fun _ => none), (14, 6, fun _ => 0, fun _ => none), (14, 6, fun _ => 0, fun _ => none), (14, 6, fun _ => 0, fun _ => none), (14, 6, fun _ => 0, fun _ => none), (14, 6, fun _ => 0, fun _ => none)]) (List.append_assoc _ _ _) ?_
  refine g_putRF (Y := YX11_init) (pc := 187) (ci := 11) (f := 46) dX11_init_187 ⟨(RX11, TX11, 61), rfl, by decide, (in_t5 190 rfl rfl)⟩ rfl (fun a => ⟨rfl, rfl⟩) rfl rfl ⟨_, rfl, rfl⟩ (gT0 hl rfl) rfl ?_
  refine g_ms (m2 := ms0 ++ [(11, 0, fun _ => 0, va_up (va_up (va_up (va_up (va_up (va_up (va_up (va_up (va_up (va_up (va_up (va_up (va_up (va_up (va_up (va_up (va_up (va_up (va_up (va_up (va_up (va_up (va_up (fun _ => none) 0 (some 175)) 2 (some 176)) 4 (some 177)) 5 (some 178)) 6 (some 179)) 7 (some 180)) 8 (some 181)) 9 (some 182)) 10 (some 183)) 12 (some 184)) 20 (some 185)) 21 (some 186)) 26 (some 187)) 27 (some 188)) 29 (some 189)) 33 (some 190)) 35 (some 191)) 36 (some 192)) 38 (some 193)) 42 (some 194)) 43 (some 195)) 45 (some 196)) 46 (some 197)), (14, 25, fun _ => 0, fun _ => none), (15, 6, fun _ => 0, fun _ => none), (14, 6, fun _ => 0, fun _ => none), (14, 6, fun _ => 0, fun _ => none), (14, 6, fun _ => 0, fun _ => none), (15, 6, fun _ => 0, fun _ => none), (14, 36, fun _ => 0, fun _ => none), (14, 6, fun _ => 0, fun _ => none), (12, 80, fun _ => 0, fun _ => none), (14, 16, fun _ => 0, fun _ => none), (14, 60, fun _ => 0, fun _ => none), (12, 40, fun _ => 0, fun _ => none), (14, 36, fun _ => 0, fun _ => none), (14, 300, fun _ => 0, fun _ => none), (14, 25, fun _ => 0, fun _ => none), (14, 240, fun _ => 0, fun _ => none), (14, 25, fun _ => 0, fun _ => none), (14, 6, fun _ => 0, fun _ => none), (14, 6, fun _ => 0, fun _ => none), (14, 6, fun _ => 0, fun _ => none), (14, 6, fun _ => 0, fun _ => none), (14, 6, fun _ => 0, fun _ => none), (14, 6, fun _ => 0, fun _ => none)]) (sT0 hl rfl) ?_
  refine g_aload_n (Y := YX11_init) (pc := 190) 0 dX11_init_190 rfl ?_
  refine g_bipush (Y := YX11_init) (pc := 191) (v := 6) dX11_init_191 (by decide) ?_
  refine h_newa (Y := YX11_init) (pc := 193) (b := 198) (N := 6) dX11_init_193 (by decide) ac_int (by decide) rfl (Nat.le_of_ble_eq_true rfl) (Nat.le_of_ble_eq_true rfl) (Nat.le_of_ble_eq_true rfl) (lT hl rfl) ?_
  refine g_ms (m2 := ms0 ++ [(11, 0, fun _ => 0, va_up (va_up (va_up (va_up (va_up (va_up (va_up (va_up (va_up (va_up (va_up (va_up (va_up (va_up (va_up (va_up (va_up (va_up (va_up (va_up (va_up (va_up (va_up (fun _ => none) 0 (some 175)) 2 (some 176)) 4 (some 177)) 5 (some 178)) 6 (some 179)) 7 (some 180)) 8 (some 181)) 9 (some 182)) 10 (some 183)) 12 (some 184)) 20 (some 185)) 21 (some 186)) 26 (some 187)) 27 (some 188)) 29 (some 189)) 33 (some 190)) 35 (some 191)) 36 (some 192)) 38 (some 193)) 42 (some 194)) 43 (some 195)) 45 (some 196)) 46 (some 197)), (14, 25, fun _ => 0, fun _ => none), (15, 6, fun _ => 0, fun _ => none), (14, 6, fun _ => 0, fun _ => none), (14, 6, fun _ => 0, fun _ => none), (14, 6, fun _ => 0, fun _ => none), (15, 6, fun _ => 0, fun _ => none), (14, 36, fun _ => 0, fun _ => none), (14, 6, fun _ => 0, fun _ => none), (12, 80, fun _ => 0, fun _ => none), (14, 16, fun _ => 0, fun _ => none), (14, 60, fun _ => 0, fun _ => none), (12, 40, fun _ => 0, fun _ => none), (14, 36, fun _ => 0, fun _ => none), (14, 300, fun _ => 0, fun _ => none), (14, 25, fun _ => 0, fun _ => none), (14, 240, fun _ => 0, fun _ => none), (14, 25, fun _ => 0, fun _ => none), (14, 6, fun _ => 0, fun _ => none), (14, 6, fun _ => 0, fun _ => none), (14, 6, fun _ => 0, fun _ => none), (14, 6, fun _ => 0, fun _ => none), (14, 6, fun _ => 0, fun _ => none), (14, 6, fun _ => 0, fun _ => none), (14, 6, fun _ => 0, fun _ => none)]) (List.append_assoc _ _ _) ?_
  refine g_putRF (Y := YX11_init) (pc := 195) (ci := 11) (f := 47) dX11_init_195 ⟨(RX11, TX11, 61), rfl, by decide, (in_t5 191 rfl rfl)⟩ rfl (fun a => ⟨rfl, rfl⟩) rfl rfl ⟨_, rfl, rfl⟩ (gT0 hl rfl) rfl ?_
  refine g_ms (m2 := ms0 ++ [(11, 0, fun _ => 0, va_up (va_up (va_up (va_up (va_up (va_up (va_up (va_up (va_up (va_up (va_up (va_up (va_up (va_up (va_up (va_up (va_up (va_up (va_up (va_up (va_up (va_up (va_up (va_up (fun _ => none) 0 (some 175)) 2 (some 176)) 4 (some 177)) 5 (some 178)) 6 (some 179)) 7 (some 180)) 8 (some 181)) 9 (some 182)) 10 (some 183)) 12 (some 184)) 20 (some 185)) 21 (some 186)) 26 (some 187)) 27 (some 188)) 29 (some 189)) 33 (some 190)) 35 (some 191)) 36 (some 192)) 38 (some 193)) 42 (some 194)) 43 (some 195)) 45 (some 196)) 46 (some 197)) 47 (some 198)), (14, 25, fun _ => 0, fun _ => none), (15, 6, fun _ => 0, fun _ => none), (14, 6, fun _ => 0, fun _ => none), (14, 6, fun _ => 0, fun _ => none), (14, 6, fun _ => 0, fun _ => none), (15, 6, fun _ => 0, fun _ => none), (14, 36, fun _ => 0, fun _ => none), (14, 6, fun _ => 0, fun _ => none), (12, 80, fun _ => 0, fun _ => none), (14, 16, fun _ => 0, fun _ => none), (14, 60, fun _ => 0, fun _ => none), (12, 40, fun _ => 0, fun _ => none), (14, 36, fun _ => 0, fun _ => none), (14, 300, fun _ => 0, fun _ => none), (14, 25, fun _ => 0, fun _ => none), (14, 240, fun _ => 0, fun _ => none), (14, 25, fun _ => 0, fun _ => none), (14, 6, fun _ => 0, fun _ => none), (14, 6, fun _ => 0, fun _ => none), (14, 6, fun _ => 0, fun _ => none), (14, 6, fun _ => 0, fun _ => none), (14, 6, fun _ => 0, fun _ => none), (14, 6, fun _ => 0, fun _ => none), (14, 6, fun _ => 0, fun _ => none)]) (sT0 hl rfl) ?_
  refine g_aload_n (Y := YX11_init) (pc := 198) 0 dX11_init_198 rfl ?_
  refine g_bipush (Y := YX11_init) (pc := 199) (v := 6) dX11_init_199 (by decide) ?_
  refine h_newa (Y := YX11_init) (pc := 201) (b := 199) (N := 6) dX11_init_201 (by decide) ac_int (by decide) rfl (Nat.le_of_ble_eq_true rfl) (Nat.le_of_ble_eq_true rfl) (Nat.le_of_ble_eq_true rfl) (lT hl rfl) ?_
  refine g_ms (m2 := ms0 ++ [(11, 0, fun _ => 0, va_up (va_up (va_up (va_up (va_up (va_up (va_up (va_up (va_up (va_up (va_up (va_up (va_up (va_up (va_up (va_up (va_up (va_up (va_up (va_up (va_up (va_up (va_up (va_up (fun _ => none) 0 (some 175)) 2 (some 176)) 4 (some 177)) 5 (some 178)) 6 (some 179)) 7 (some 180)) 8 (some 181)) 9 (some 182)) 10 (some 183)) 12 (some 184)) 20 (some 185)) 21 (some 186)) 26 (some 187)) 27 (some 188)) 29 (some 189)) 33 (some 190)) 35 (some 191)) 36 (some 192)) 38 (some 193)) 42 (some 194)) 43 (some 195)) 45 (some 196)) 46 (some 197)) 47 (some 198)), (14, 25, fun _ => 0, fun _ => none), (15, 6, fun _ => 0, fun _ => none), (14, 6, fun _ => 0, fun _ => none), (14, 6, fun _ => 0, fun _ => none), (14, 6, fun _ => 0, fun _ => none), (15, 6, fun _ => 0, fun _ => none), (14, 36, fun _ => 0, fun _ => none), (14, 6, fun _ => 0, fun _ => none), (12, 80, fun _ => 0, fun _ => none), (14, 16, fun _ => 0, fun _ => none), (14, 60, fun _ => 0, fun _ => none), (12, 40, fun _ => 0, fun _ => none), (14, 36, fun _ => 0, fun _ => none), (14, 300, fun _ => 0, fun _ => none), (14, 25, fun _ => 0, fun _ => none), (14, 240, fun _ => 0, fun _ => none), (14, 25, fun _ => 0, fun _ => none), (14, 6, fun _ => 0, fun _ => none), (14, 6, fun _ => 0, fun _ => none), (14, 6, fun _ => 0, fun _ => none), (14, 6, fun _ => 0, fun _ => none), (14, 6, fun _ => 0, fun _ => none), (14, 6, fun _ => 0, fun _ => none), (14, 6, fun _ => 0, fun _ => none), (14, 6, fun _ => 0, fun _ => none)]) (List.append_assoc _ _ _) ?_
  refine g_putRF (Y := YX11_init) (pc := 203) (ci := 11) (f := 48) dX11_init_203 ⟨(RX11, TX11, 61), rfl, by decide, (in_t5 192 rfl rfl)⟩ rfl (fun a => ⟨rfl, rfl⟩) rfl rfl ⟨_, rfl, rfl⟩ (gT0 hl rfl) rfl ?_
  refine g_ms (m2 := ms0 ++ [(11, 0, fun _ => 0, va_up (va_up (va_up (va_up (va_up (va_up (va_up (va_up (va_up (va_up (va_up (va_up (va_up (va_up (va_up (va_up (va_up (va_up (va_up (va_up (va_up (va_up (va_up (va_up (va_up (fun _ => none) 0 (some 175)) 2 (some 176)) 4 (some 177)) 5 (some 178)) 6 (some 179)) 7 (some 180)) 8 (some 181)) 9 (some 182)) 10 (some 183)) 12 (some 184)) 20 (some 185)) 21 (some 186)) 26 (some 187)) 27 (some 188)) 29 (some 189)) 33 (some 190)) 35 (some 191)) 36 (some 192)) 38 (some 193)) 42 (some 194)) 43 (some 195)) 45 (some 196)) 46 (some 197)) 47 (some 198)) 48 (some 199)), (14, 25, fun _ => 0, fun _ => none), (15, 6, fun _ => 0, fun _ => none), (14, 6, fun _ => 0, fun _ => none), (14, 6, fun _ => 0, fun _ => none), (14, 6, fun _ => 0, fun _ => none), (15, 6, fun _ => 0, fun _ => none), (14, 36, fun _ => 0, fun _ => none), (14, 6, fun _ => 0, fun _ => none), (12, 80, fun _ => 0, fun _ => none), (14, 16, fun _ => 0, fun _ => none), (14, 60, fun _ => 0, fun _ => none), (12, 40, fun _ => 0, fun _ => none), (14, 36, fun _ => 0, fun _ => none), (14, 300, fun _ => 0, fun _ => none), (14, 25, fun _ => 0, fun _ => none), (14, 240, fun _ => 0, fun _ => none), (14, 25, fun _ => 0, fun _ => none), (14, 6, fun _ => 0, fun _ => none), (14, 6, fun _ => 0, fun _ => none), (14, 6, fun _ => 0, fun _ => none), (14, 6, fun _ => 0, fun _ => none), (14, 6, fun _ => 0, fun _ => none), (14, 6, fun _ => 0, fun _ => none), (14, 6, fun _ => 0, fun _ => none), (14, 6, fun _ => 0, fun _ => none)]) (sT0 hl rfl) ?_
  refine g_aload_n (Y := YX11_init) (pc := 206) 0 dX11_init_206 rfl ?_
  refine g_bipush (Y := YX11_init) (pc := 207) (v := 36) dX11_init_207 (by decide) ?_
  refine h_newa (Y := YX11_init) (pc := 209) (b := 200) (N := 36) dX11_init_209 (by decide) ac_int (by decide) rfl (Nat.le_of_ble_eq_true rfl) (Nat.le_of_ble_eq_true rfl) (Nat.le_of_ble_eq_true rfl) (lT hl rfl) ?_
  refine g_ms (m2 := ms0 ++ [(11, 0, fun _ => 0, va_up (va_up (va_up (va_up (va_up (va_up (va_up (va_up (va_up (va_up (va_up (va_up (va_up (va_up (va_up (va_up (va_up (va_up (va_up (va_up (va_up (va_up (va_up (va_up (va_up (fun _ => none) 0 (some 175)) 2 (some 176)) 4 (some 177)) 5 (some 178)) 6 (some 179)) 7 (some 180)) 8 (some 181)) 9 (some 182)) 10 (some 183)) 12 (some 184)) 20 (some 185)) 21 (some 186)) 26 (some 187)) 27 (some 188)) 29 (some 189)) 33 (some 190)) 35 (some 191)) 36 (some 192)) 38 (some 193)) 42 (some 194)) 43 (some 195)) 45 (some 196)) 46 (some 197)) 47 (some 198)) 48 (some 199)), (14, 25, fun _ => 0, fun _ => none), (15, 6, fun _ => 0, fun _ => none), (14, 6, fun _ => 0, fun _ => none), (14, 6, fun _ => 0, fun _ => none), (14, 6, fun _ => 0, fun _ => none), (15, 6, fun _ => 0, fun _ => none), (14, 36, fun _ => 0, fun _ => none), (14, 6, fun _ => 0, fun _ => none), (12, 80, fun _ => 0, fun _ => none), (14, 16, fun _ => 0, fun _ => none), (14, 60, fun _ => 0, fun _ => none), (12, 40, fun _ => 0, fun _ => none), (14, 36, fun _ => 0, fun _ => none), (14, 300, fun _ => 0, fun _ => none), (14, 25, fun _ => 0, fun _ => none), (14, 240, fun _ => 0, fun _ => none), (14, 25, fun _ => 0, fun _ => none), (14, 6, fun _ => 0, fun _ => none), (14, 6, fun _ => 0, fun _ => none), (14, 6, fun _ => 0, fun _ => none), (14, 6, fun _ => 0, fun _ => none), (14, 6, fun _ => 0, fun _ => none), (14, 6, fun _ => 0, fun _ => none), (14, 6, fun _ => 0, fun _ => none), (14, 6, fun _ => 0, fun _ => none), (14, 36, fun _ => 0, fun _ => none)]) (List.append_assoc _ _ _) ?_
  refine g_putRF (Y := YX11_init) (pc := 211) (ci := 11) (f := 51) dX11_init_211 ⟨(RX11, TX11, 61), rfl, by decide, (in_t5 195 rfl rfl)⟩ rfl (fun a => ⟨rfl, rfl⟩) rfl rfl ⟨_, rfl, rfl⟩ (gT0 hl rfl) rfl ?_
  refine g_ms (m2 := ms0 ++ [(11, 0, fun _ => 0, va_up (va_up (va_up (va_up (va_up (va_up (va_up (va_up (va_up (va_up (va_up (va_up (va_up (va_up (va_up (va_up (va_up (va_up (va_up (va_up (va_up (va_up (va_up (va_up (va_up (va_up (fun _ => none) 0 (some 175)) 2 (some 176)) 4 (some 177)) 5 (some 178)) 6 (some 179)) 7 (some 180)) 8 (some 181)) 9 (some 182)) 10 (some 183)) 12 (some 184)) 20 (some 185)) 21 (some 186)) 26 (some 187)) 27 (some 188)) 29 (some 189)) 33 (some 190)) 35 (some 191)) 36 (some 192)) 38 (some 193)) 42 (some 194)) 43 (some 195)) 45 (some 196)) 46 (some 197)) 47 (some 198)) 48 (some 199)) 51 (some 200)), (14, 25, fun _ => 0, fun _ => none), (15, 6, fun _ => 0, fun _ => none), (14, 6, fun _ => 0, fun _ => none), (14, 6, fun _ => 0, fun _ => none), (14, 6, fun _ => 0, fun _ => none), (15, 6, fun _ => 0, fun _ => none), (14, 36, fun _ => 0, fun _ => none), (14, 6, fun _ => 0, fun _ => none), (12, 80, fun _ => 0, fun _ => none), (14, 16, fun _ => 0, fun _ => none), (14, 60, fun _ => 0, fun _ => none), (12, 40, fun _ => 0, fun _ => none), (14, 36, fun _ => 0, fun _ => none), (14, 300, fun _ => 0, fun _ => none), (14, 25, fun _ => 0, fun _ => none), (14, 240, fun _ => 0, fun _ => none), (14, 25, fun _ => 0, fun _ => none), (14, 6, fun _ => 0, fun _ => none), (14, 6, fun _ => 0, fun _ => none), (14, 6, fun _ => 0, fun _ => none), (14, 6, fun _ => 0, fun _ => none), (14, 6, fun _ => 0, fun _ => none), (14, 6, fun _ => 0, fun _ => none), (14, 6, fun _ => 0, fun _ => none), (14, 6, fun _ => 0, fun _ => none), (14, 36, fun _ => 0, fun _ => none)]) (sT0 hl rfl) ?_
  refine g_aload_n (Y := YX11_init) (pc := 214) 0 dX11_init_214 rfl ?_
  refine g_bipush (Y := YX11_init) (pc := 215) (v := 50) dX11_init_215 (by decide) ?_
  refine h_newa (Y := YX11_init) (pc := 217) (b := 201) (N := 50) dX11_init_217 (by decide) ac_int (by decide) rfl (Nat.le_of_ble_eq_true rfl) (Nat.le_of_ble_eq_true rfl) (Nat.le_of_ble_eq_true rfl) (lT hl rfl) ?_
  refine g_ms (m2 := ms0 ++ [(11, 0, fun _ => 0, va_up (va_up (va_up (va_up (va_up (va_up (va_up (va_up (va_up (va_up (va_up (va_up (va_up (va_up (va_up (va_up (va_up (va_up (va_up (va_up (va_up (va_up (va_up (va_up (va_up (va_up (fun _ => none) 0 (some 175)) 2 (some 176)) 4 (some 177)) 5 (some 178)) 6 (some 179)) 7 (some 180)) 8 (some 181)) 9 (some 182)) 10 (some 183)) 12 (some 184)) 20 (some 185)) 21 (some 186)) 26 (some 187)) 27 (some 188)) 29 (some 189)) 33 (some 190)) 35 (some 191)) 36 (some 192)) 38 (some 193)) 42 (some 194)) 43 (some 195)) 45 (some 196)) 46 (some 197)) 47 (some 198)) 48 (some 199)) 51 (some 200)), (14, 25, fun _ => 0, fun _ => none), (15, 6, fun _ => 0, fun _ => none), (14, 6, fun _ => 0, fun _ => none), (14, 6, fun _ => 0, fun _ => none), (14, 6, fun _ => 0, fun _ => none), (15, 6, fun _ => 0, fun _ => none), (14, 36, fun _ => 0, fun _ => none), (14, 6, fun _ => 0, fun _ => none), (12, 80, fun _ => 0, fun _ => none), (14, 16, fun _ => 0, fun _ => none), (14, 60, fun _ => 0, fun _ => none), (12, 40, fun _ => 0, fun _ => none), (14, 36, fun _ => 0, fun _ => none), (14, 300, fun _ => 0, fun _ => none), (14, 25, fun _ => 0, fun _ => none), (14, 240, fun _ => 0, fun _ => none), (14, 25, fun _ => 0, fun _ => none), (14, 6, fun _ => 0, fun _ => none), (14, 6, fun _ => 0, fun _ => none), (14, 6, fun _ => 0, fun _ => none), (14, 6, fun _ => 0, fun _ => none), (14, 6, fun _ => 0, fun _ => none), (14, 6, fun _ => 0, fun _ => none), (14, 6, fun _ => 0, fun _ => none), (14, 6, fun _ => 0, fun _ => none), (14, 36, fun _ => 0, fun _ => none), (14, 50, fun _ => 0, fun _ => none)]) (List.append_assoc _ _ _) ?_
  refine g_putRF (Y := YX11_init) (pc := 219) (ci := 11) (f := 58) dX11_init_219 ⟨(RX11, TX11, 61), rfl, by decide, (in_t5 202 rfl rfl)⟩ rfl (fun a => ⟨rfl, rfl⟩) rfl rfl ⟨_, rfl, rfl⟩ (gT0 hl rfl) rfl ?_
  refine g_ms (m2 := ms0 ++ [(11, 0, fun _ => 0, va_up (va_up (va_up (va_up (va_up (va_up (va_up (va_up (va_up (va_up (va_up (va_up (va_up (va_up (va_up (va_up (va_up (va_up (va_up (va_up (va_up (va_up (va_up (va_up (va_up (va_up (va_up (fun _ => none) 0 (some 175)) 2 (some 176)) 4 (some 177)) 5 (some 178)) 6 (some 179)) 7 (some 180)) 8 (some 181)) 9 (some 182)) 10 (some 183)) 12 (some 184)) 20 (some 185)) 21 (some 186)) 26 (some 187)) 27 (some 188)) 29 (some 189)) 33 (some 190)) 35 (some 191)) 36 (some 192)) 38 (some 193)) 42 (some 194)) 43 (some 195)) 45 (some 196)) 46 (some 197)) 47 (some 198)) 48 (some 199)) 51 (some 200)) 58 (some 201)), (14, 25, fun _ => 0, fun _ => none), (15, 6, fun _ => 0, fun _ => none), (14, 6, fun _ => 0, fun _ => none), (14, 6, fun _ => 0, fun _ => none), (14, 6, fun _ => 0, fun _ => none), (15, 6, fun _ => 0, fun _ => none), (14, 36, fun _ => 0, fun _ => none), (14, 6, fun _ => 0, fun _ => none), (12, 80, fun _ => 0, fun _ => none), (14, 16, fun _ => 0, fun _ => none), (14, 60, fun _ => 0, fun _ => none), (12, 40, fun _ => 0, fun _ => none), (14, 36, fun _ => 0, fun _ => none), (14, 300, fun _ => 0, fun _ => none), (14, 25, fun _ => 0, fun _ => none), (14, 240, fun _ => 0, fun _ => none), (14, 25, fun _ => 0, fun _ => none), (14, 6, fun _ => 0, fun _ => none), (14, 6, fun _ => 0, fun _ => none), (14, 6, fun _ => 0, fun _ => none), (14, 6, fun _ => 0, fun _ => none), (14, 6, fun _ => 0, fun _ => none), (14, 6, fun _ => 0, fun _ => none), (14, 6, fun _ => 0, fun _ => none), (14, 6, fun _ => 0, fun _ => none), (14, 36, fun _ => 0, fun _ => none), (14, 50, fun _ => 0, fun _ => none)]) (sT0 hl rfl) ?_
  refine g_aload_n (Y := YX11_init) (pc := 222) 0 dX11_init_222 rfl ?_
  refine g_iconst (Y := YX11_init) (pc := 223) (v := 2) dX11_init_223 (by decide) ?_
  refine h_newa (Y := YX11_init) (pc := 224) (b := 202) (N := 2) dX11_init_224 (by decide) ac_boolean (by decide) rfl (Nat.le_of_ble_eq_true rfl) (Nat.le_of_ble_eq_true rfl) (Nat.le_of_ble_eq_true rfl) (lT hl rfl) ?_
  refine g_ms (m2 := ms0 ++ [(11, 0, fun _ => 0, va_up (va_up (va_up (va_up (va_up (va_up (va_up (va_up (va_up (va_up (va_up (va_up (va_up (va_up (va_up (va_up (va_up (va_up (va_up (va_up (va_up (va_up (va_up (va_up (va_up (va_up (va_up (fun _ => none) 0 (some 175)) 2 (some 176)) 4 (some 177)) 5 (some 178)) 6 (some 179)) 7 (some 180)) 8 (some 181)) 9 (some 182)) 10 (some 183)) 12 (some 184)) 20 (some 185)) 21 (some 186)) 26 (some 187)) 27 (some 188)) 29 (some 189)) 33 (some 190)) 35 (some 191)) 36 (some 192)) 38 (some 193)) 42 (some 194)) 43 (some 195)) 45 (some 196)) 46 (some 197)) 47 (some 198)) 48 (some 199)) 51 (some 200)) 58 (some 201)), (14, 25, fun _ => 0, fun _ => none), (15, 6, fun _ => 0, fun _ => none), (14, 6, fun _ => 0, fun _ => none), (14, 6, fun _ => 0, fun _ => none), (14, 6, fun _ => 0, fun _ => none), (15, 6, fun _ => 0, fun _ => none), (14, 36, fun _ => 0, fun _ => none), (14, 6, fun _ => 0, fun _ => none), (12, 80, fun _ => 0, fun _ => none), (14, 16, fun _ => 0, fun _ => none), (14, 60, fun _ => 0, fun _ => none), (12, 40, fun _ => 0, fun _ => none), (14, 36, fun _ => 0, fun _ => none), (14, 300, fun _ => 0, fun _ => none), (14, 25, fun _ => 0, fun _ => none), (14, 240, fun _ => 0, fun _ => none), (14, 25, fun _ => 0, fun _ => none), (14, 6, fun _ => 0, fun _ => none), (14, 6, fun _ => 0, fun _ => none), (14, 6, fun _ => 0, fun _ => none), (14, 6, fun _ => 0, fun _ => none), (14, 6, fun _ => 0, fun _ => none), (14, 6, fun _ => 0, fun _ => none), (14, 6, fun _ => 0, fun _ => none), (14, 6, fun _ => 0, fun _ => none), (14, 36, fun _ => 0, fun _ => none), (14, 50, fun _ => 0, fun _ => none), (15, 2, fun _ => 0, fun _ => none)]) (List.append_assoc _ _ _) ?_
  refine g_putRF (Y := YX11_init) (pc := 226) (ci := 11) (f := 59) dX11_init_226 ⟨(RX11, TX11, 61), rfl, by decide, (in_t5 203 rfl rfl)⟩ rfl (fun a => ⟨rfl, rfl⟩) rfl rfl ⟨_, rfl, rfl⟩ (gT0 hl rfl) rfl ?_
  refine g_ms (m2 := ms0 ++ [(11, 0, fun _ => 0, va_up (va_up (va_up (va_up (va_up (va_up (va_up (va_up (va_up (va_up (va_up (va_up (va_up (va_up (va_up (va_up (va_up (va_up (va_up (va_up (va_up (va_up (va_up (va_up (va_up (va_up (va_up (va_up (fun _ => none) 0 (some 175)) 2 (some 176)) 4 (some 177)) 5 (some 178)) 6 (some 179)) 7 (some 180)) 8 (some 181)) 9 (some 182)) 10 (some 183)) 12 (some 184)) 20 (some 185)) 21 (some 186)) 26 (some 187)) 27 (some 188)) 29 (some 189)) 33 (some 190)) 35 (some 191)) 36 (some 192)) 38 (some 193)) 42 (some 194)) 43 (some 195)) 45 (some 196)) 46 (some 197)) 47 (some 198)) 48 (some 199)) 51 (some 200)) 58 (some 201)) 59 (some 202)), (14, 25, fun _ => 0, fun _ => none), (15, 6, fun _ => 0, fun _ => none), (14, 6, fun _ => 0, fun _ => none), (14, 6, fun _ => 0, fun _ => none), (14, 6, fun _ => 0, fun _ => none), (15, 6, fun _ => 0, fun _ => none), (14, 36, fun _ => 0, fun _ => none), (14, 6, fun _ => 0, fun _ => none), (12, 80, fun _ => 0, fun _ => none), (14, 16, fun _ => 0, fun _ => none), (14, 60, fun _ => 0, fun _ => none), (12, 40, fun _ => 0, fun _ => none), (14, 36, fun _ => 0, fun _ => none), (14, 300, fun _ => 0, fun _ => none), (14, 25, fun _ => 0, fun _ => none), (14, 240, fun _ => 0, fun _ => none), (14, 25, fun _ => 0, fun _ => none), (14, 6, fun _ => 0, fun _ => none), (14, 6, fun _ => 0, fun _ => none), (14, 6, fun _ => 0, fun _ => none), (14, 6, fun _ => 0, fun _ => none), (14, 6, fun _ => 0, fun _ => none), (14, 6, fun _ => 0, fun _ => none), (14, 6, fun _ => 0, fun _ => none), (14, 6, fun _ => 0, fun _ => none), (14, 36, fun _ => 0, fun _ => none), (14, 50, fun _ => 0, fun _ => none), (15, 2, fun _ => 0, fun _ => none)]) (sT0 hl rfl) ?_
  refine g_aload_n (Y := YX11_init) (pc := 229) 0 dX11_init_229 rfl ?_
  refine g_iconst (Y := YX11_init) (pc := 230) (v := 2) dX11_init_230 (by decide) ?_
  refine h_newa (Y := YX11_init) (pc := 231) (b := 203) (N := 2) dX11_init_231 (by decide) ac_int (by decide) rfl (Nat.le_of_ble_eq_true rfl) (Nat.le_of_ble_eq_true rfl) (Nat.le_of_ble_eq_true rfl) (lT hl rfl) ?_
  refine g_ms (m2 := ms0 ++ [(11, 0, fun _ => 0, va_up (va_up (va_up (va_up (va_up (va_up (va_up (va_up (va_up (va_up (va_up (va_up (va_up (va_up (va_up (va_up (va_up (va_up (va_up (va_up (va_up (va_up (va_up (va_up (va_up (va_up (va_up (va_up (fun _ => none) 0 (some 175)) 2 (some 176)) 4 (some 177)) 5 (some 178)) 6 (some 179)) 7 (some 180)) 8 (some 181)) 9 (some 182)) 10 (some 183)) 12 (some 184)) 20 (some 185)) 21 (some 186)) 26 (some 187)) 27 (some 188)) 29 (some 189)) 33 (some 190)) 35 (some 191)) 36 (some 192)) 38 (some 193)) 42 (some 194)) 43 (some 195)) 45 (some 196)) 46 (some 197)) 47 (some 198)) 48 (some 199)) 51 (some 200)) 58 (some 201)) 59 (some 202)), (14, 25, fun _ => 0, fun _ => none), (15, 6, fun _ => 0, fun _ => none), (14, 6, fun _ => 0, fun _ => none), (14, 6, fun _ => 0, fun _ => none), (14, 6, fun _ => 0, fun _ => none), (15, 6, fun _ => 0, fun _ => none), (14, 36, fun _ => 0, fun _ => none), (14, 6, fun _ => 0, fun _ => none), (12, 80, fun _ => 0, fun _ => none), (14, 16, fun _ => 0, fun _ => none), (14, 60, fun _ => 0, fun _ => none), (12, 40, fun _ => 0, fun _ => none), (14, 36, fun _ => 0, fun _ => none), (14, 300, fun _ => 0, fun _ => none), (14, 25, fun _ => 0, fun _ => none), (14, 240, fun _ => 0, fun _ => none), (14, 25, fun _ => 0, fun _ => none), (14, 6, fun _ => 0, fun _ => none), (14, 6, fun _ => 0, fun _ => none), (14, 6, fun _ => 0, fun _ => none), (14, 6, fun _ => 0, fun _ => none), (14, 6, fun _ => 0, fun _ => none), (14, 6, fun _ => 0, fun _ => none), (14, 6, fun _ => 0, fun _ => none), (14, 6, fun _ => 0, fun _ => none), (14, 36, fun _ => 0, fun _ => none), (14, 50, fun _ => 0, fun _ => none), (15, 2, fun _ => 0, fun _ => none), (14, 2, fun _ => 0, fun _ => none)]) (List.append_assoc _ _ _) ?_
  refine g_putRF (Y := YX11_init) (pc := 233) (ci := 11) (f := 60) dX11_init_233 ⟨(RX11, TX11, 61), rfl, by decide, (in_t5 204 rfl rfl)⟩ rfl (fun a => ⟨rfl, rfl⟩) rfl rfl ⟨_, rfl, rfl⟩ (gT0 hl rfl) rfl ?_
  refine g_ms (m2 := ms0 ++ [(11, 0, fun _ => 0, va_up (va_up (va_up (va_up (va_up (va_up (va_up (va_up (va_up (va_up (va_up (va_up (va_up (va_up (va_up (va_up (va_up (va_up (va_up (va_up (va_up (va_up (va_up (va_up (va_up (va_up (va_up (va_up (va_up (fun _ => none) 0 (some 175)) 2 (some 176)) 4 (some 177)) 5 (some 178)) 6 (some 179)) 7 (some 180)) 8 (some 181)) 9 (some 182)) 10 (some 183)) 12 (some 184)) 20 (some 185)) 21 (some 186)) 26 (some 187)) 27 (some 188)) 29 (some 189)) 33 (some 190)) 35 (some 191)) 36 (some 192)) 38 (some 193)) 42 (some 194)) 43 (some 195)) 45 (some 196)) 46 (some 197)) 47 (some 198)) 48 (some 199)) 51 (some 200)) 58 (some 201)) 59 (some 202)) 60 (some 203)), (14, 25, fun _ => 0, fun _ => none), (15, 6, fun _ => 0, fun _ => none), (14, 6, fun _ => 0, fun _ => none), (14, 6, fun _ => 0, fun _ => none), (14, 6, fun _ => 0, fun _ => none), (15, 6, fun _ => 0, fun _ => none), (14, 36, fun _ => 0, fun _ => none), (14, 6, fun _ => 0, fun _ => none), (12, 80, fun _ => 0, fun _ => none), (14, 16, fun _ => 0, fun _ => none), (14, 60, fun _ => 0, fun _ => none), (12, 40, fun _ => 0, fun _ => none), (14, 36, fun _ => 0, fun _ => none), (14, 300, fun _ => 0, fun _ => none), (14, 25, fun _ => 0, fun _ => none), (14, 240, fun _ => 0, fun _ => none), (14, 25, fun _ => 0, fun _ => none), (14, 6, fun _ => 0, fun _ => none), (14, 6, fun _ => 0, fun _ => none), (14, 6, fun _ => 0, fun _ => none), (14, 6, fun _ => 0, fun _ => none), (14, 6, fun _ => 0, fun _ => none), (14, 6, fun _ => 0, fun _ => none), (14, 6, fun _ => 0, fun _ => none), (14, 6, fun _ => 0, fun _ => none), (14, 36, fun _ => 0, fun _ => none), (14, 50, fun _ => 0, fun _ => none), (15, 2, fun _ => 0, fun _ => none), (14, 2, fun _ => 0, fun _ => none)]) (sT0 hl rfl) ?_
  exact g_vret dX11_init_236 rfl (Nat.le_of_ble_eq_true rfl) (Nat.le_of_ble_eq_true rfl)
