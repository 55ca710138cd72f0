/-! the law's own methods that catch -/
def oc (f : Nat → Int32) : Cel := (18, 1, f, fun _ => none)
theorem oc_cE {cy : Nat → ClassId} {ad : Nat → Nat} {f : Nat → Int32} : cE cy ad (oc f) = .inl (cy 18, 1, .inr (.inl (fun j => (f j).toInt64))) := rfl
theorem xw_same {u U : State} (e : u.vm = U.vm) (h : ∀ w ∈ xwA, va_Nw w u) : ∀ w ∈ xwA, va_Nw w U := by
  intro w hw
  have h1 := h w hw
  simp only [xwA, List.mem_cons, List.not_mem_nil, or_false] at hw
  rcases hw with rfl | rfl | rfl | rfl <;> exact va_Nw.same rfl e h1
theorem ZX.call {l : Launch} {A A' : Nat → Prop} {s U : State} {H : Heap} {locs : List Loc} (h : ZX l A s) (hS : va_S A s.heap H locs) (hAA : ∀ q, A' q → A q) (hU : U.heap = H) (hWm : s.WarmedH U.vm) : ZX l A' U := by
  refine ⟨h.1, xw_warm hWm h.2.1, ?_, ?_⟩
  · rw [hU]; exact ((h.2.2.1.kept (fun a h1 h2 => hS.2.1 a h1 h2)).narrow hAA).moved hWm.alike
  · rw [hU]; exact ((h.2.2.2.kept (fun a h1 h2 => hS.2.1 a h1 h2)).narrow hAA).moved hWm.alike
theorem fb_PcX {l : Launch} {D : va_G} {cy : Nat → ClassId} {ad : Nat → Nat} {vs : List Value} {sz : Nat} {ms : Mm} {A : Nat → Prop} : FrameBlind (va_Pc vs (fun U => U.heap.size = sz ∧ Wd D cy (fun _ => True) ad ms U.heap ∧ Kx D cy U ∧ ZX l A U)) := by
  intro a U g mk h
  obtain ⟨h1, h2, h3, h5, z1, z2, z3, z4⟩ := h
  exact ⟨h1, h2, h3, ⟨va_K.moved (u := U) (U := U.calling g mk a) (Vm.Alike.refl U.vm) h5.1, nw_same (u := U) (U := U.calling g mk a) rfl h5.2.1, va_AO.moved (u := U) (U := U.calling g mk a) (Vm.Alike.refl U.vm) h5.2.2.1, va_RR.moved (u := U) (U := U.calling g mk a) (Vm.Alike.refl U.vm) h5.2.2.2⟩, z1, xw_same (u := U) (U := U.calling g mk a) rfl z2, vx_Zq.moved (u := U) (U := U.calling g mk a) (Vm.Alike.refl U.vm) z3, vx_Zq.moved (u := U) (U := U.calling g mk a) (Vm.Alike.refl U.vm) z4⟩
section NXH
variable {l : Launch} {D : va_G} {cy : Nat → ClassId} {ad : Nat → Nat} {ms : Mm} {n k pc : Nat}
/-- behind a call that may throw -/
theorem callX_on {p : Program} {e : Env} {s : State} {m : MethodId} {args : Array Value} {below : List Frame} {meth : Method} {c : Code} {A : Nat → Prop} {H : Heap} {locs : List Loc} {ls : Array Slot} {R : Room} {Q : State → Prop} {cc' cs' : Nat} {st0 rest : List Value} {av : Array Value} {P : Option Int32} {ms1 : Mm}
    (hA : ∀ q, s.heap.size ≤ q → A q) (hW : Wd D cy A ad ms H) (hS : va_S A s.heap H locs)
    (run : vx_Run p l e R s m args below meth c H locs n k cc' cs' (F0 m pc ls st0) rest (Qx D cy ad (va_A (Wo cy ad ms) H.size) P ms1 av) (XX D cy ad (va_A (Wo cy ad ms) H.size) P ms1) (va_A (Wo cy ad ms) H.size))
    (kk : ∀ (v : Int32) (H1 : Heap) (locs1 : List Loc), P = some v → Wd D cy A ad ms1 H1 → va_S A s.heap H1 locs1 → W p l e R s m args below meth c H1 locs1 (n + cc') (k + cs') Q (F0 m (pc + 3) ls (.int v :: rest)))
    (kx : ∀ (H1 : Heap) (locs1 : List Loc) (q : Addr) (ce : Cell), P = none → Wd D cy A ad ms1 H1 → va_S A s.heap H1 locs1 → H1[q]? = some ce → ce.vm = .none → s.vm.findClass RE = some ce.cls → vx_W p l e R s m args below meth c H1 locs1 (n + cc') (k + cs') Q (F0 m pc ls rest) q) : W p l e R s m args below meth c H locs n k Q (F0 m pc ls st0) := by
  have free : ∀ q, va_A (Wo cy ad ms) H.size q → A q := by
    rintro q (⟨i, x, h⟩ | h)
    · exact hW.2.2 i (q, x) h
    · exact hA q (Nat.le_trans hS.1 h)
  intro T hT X
  have hSS : ∀ {st₀ t T' : State} {Lc : List Loc}, st₀.heap = H → T'.heap = t.heap → (∀ q ∈ Lc, va_A (Wo cy ad ms) H.size q.base) → va_F (va_A (Wo cy ad ms) H.size) st₀ t → va_S A s.heap T'.heap (locs ++ Lc) := by
    intro st₀ t T' Lc h0 e1 hL hF
    unfold va_F at hF
    rw [h0, ← e1] at hF
    exact ⟨Nat.le_trans hS.1 hF.1, fun q h1 h2 => (hF.2 q (Nat.lt_of_lt_of_le h1 hS.1) (fun z => h2 (free q z))).trans (hS.2.1 q h1 h2), fun q hq => by
      rcases List.mem_append.mp hq with h | h
      · exact hS.2.2 q h
      · exact free _ (hL q h)⟩
  rcases run T hT X with ⟨v, st₀, t, T', Lc, h0, X', hL, e1, e2, ⟨Rv, hP, ⟨hv, hW1, hz1⟩, hF⟩, stp⟩ | ⟨q, st₀, t, T', Lc, E, ce, h0, X', hL, e1, e2, ⟨hP, hE, hW1, hF⟩, hce, hcv, hcl, stp⟩
  · have hv2 : v = some (.int Rv) := Outcome.returned.inj hv
    subst hv2
    rw [← e1] at hW1
    obtain ⟨t2, a1, b1⟩ := kk Rv T'.heap (locs ++ Lc) hP ⟨hW1.1, hW1.2.weaken (fun _ q _ h => free q.1 h)⟩ (hSS h0 e1 hL hF) T' rfl X'
    exact ⟨t2, stp t2 a1, b1⟩
  · rw [hE] at hcl
    rw [← e1] at hW1 hce
    obtain ⟨t2, a1, b1⟩ := kx T'.heap (locs ++ Lc) q ce hP ⟨hW1.1, hW1.2.weaken (fun _ q _ h => free q.1 h)⟩ (hSS h0 e1 hL hF) hce hcv hcl T' rfl X'
    exact ⟨t2, stp.trans a1, b1⟩
/-- the contract of a method of the law's that catches -/
def RunH (l : Launch) (D : va_G) (cy : Nat → ClassId) (ad : Nat → Nat) (y : MethodName) (cc : ByteArray) (nL : Nat) (hh : List (Nat × Nat × Nat × Nat)) (as : List Value) (ms : Mm) (r : Int32) (ms' : Mm) : Prop :=
  ∀ sz : Nat, vx_Met l y (Cond.codeWith y cc nL (some .int) hh :: wsA) (rmD 7 1 6) (va_Pc (as.map (cv ad)) (fun U => U.heap.size = sz ∧ Wd D cy (fun _ => True) ad ms U.heap ∧ Kx D cy U ∧ ZX l (va_A (Wo cy ad ms) sz) U)) (Qm D cy ad none (va_A (Wo cy ad ms) sz) (some (.int r)) ms') (fun _ _ _ => False) 1 6 (va_A (Wo cy ad ms) sz)
end NXH
theorem lay_oset {M : Mem} {c c' : Cel} : (lay [c] M).set 204 c' = lay [c'] M := by
  unfold lay
  rw [List.set_append_right _ _ (by simp)]
  simp
theorem upL_eq (f : Nat → Int32) (v : Int32) : vp_updL (fun j => (f j).toInt64) 0 v.toInt64 = fun j => (upd f 0 v j).toInt64 := by
  funext j
  unfold vp_updL upd
  split <;> rfl
def thK (P : Option Int32) : Int32 := match P with
  | none => 1
  | some _ => 0
def thF (f : Nat → Int32) (P : Option Int32) : Nat → Int32 := match P with
  | none => f
  | some v => upd f 0 v

def yLgroup : MethodName := ⟨RL, "group", "(LNoTwoInOneRoom;II[J)I"⟩
theorem dLgroup_0 : decode method_3_code 0 = .ok (.aload_n 3, 1) := by decide +kernel
theorem dLgroup_1 : decode method_3_code 1 = .ok (.iconst 0, 1) := by decide +kernel
theorem dLgroup_2 : decode method_3_code 2 = .ok (.aload_n 0, 1) := by decide +kernel
theorem dLgroup_3 : decode method_3_code 3 = .ok (.iload_n 1, 1) := by decide +kernel
theorem dLgroup_4 : decode method_3_code 4 = .ok (.iload_n 2, 1) := by decide +kernel
theorem dLgroup_5 : decode method_3_code 5 = .ok (.invokevirtual 7, 3) := by decide +kernel
theorem dLgroup_8 : decode method_3_code 8 = .ok (.i2l, 1) := by decide +kernel
theorem dLgroup_9 : decode method_3_code 9 = .ok (.lastore, 1) := by decide +kernel
theorem dLgroup_10 : decode method_3_code 10 = .ok (.goto 7, 3) := by decide +kernel
theorem dLgroup_13 : decode method_3_code 13 = .ok (.astore 4, 2) := by decide +kernel
theorem dLgroup_15 : decode method_3_code 15 = .ok (.iconst 1, 1) := by decide +kernel
theorem dLgroup_16 : decode method_3_code 16 = .ok (.ireturn, 1) := by decide +kernel
theorem dLgroup_17 : decode method_3_code 17 = .ok (.iconst 0, 1) := by decide +kernel
theorem dLgroup_18 : decode method_3_code 18 = .ok (.ireturn, 1) := by decide +kernel
set_option maxRecDepth 100000 in
theorem lkLgroup : Cond.methodLink RL 7 YX10_group.1 ∈ wsA := in_t5 58 rfl rfl
set_option maxRecDepth 100000 in
theorem law_group {l : Launch} {D : va_G} {cy : Nat → ClassId} {ad : Nat → Nat} {x1 x2 : Int32} {M M' : Mem} {P : Option Int32} {f : Nat → Int32} (hF : f_X10_group x1 x2 M = some (P, M')) : RunH l D cy ad yLgroup method_3_code 5 [(0, 10, 13, 13)] [.ref 0, .int x1, .int x2, .ref 204] (lay [oc f] M) (thK P) (lay [oc (thF f P)] M') := by
  intro sz
  refine vx_ofWH (by decide +kernel) rfl ?_
  intro p e s m args below meth c s₁ B hml hv
  obtain ⟨rfl, hsz, hW0, hK, hZ⟩ := hv
  subst hsz
  have hts : ∀ w ∈ wsA, w.before _ s = true := fun w hw => atoms_spec (ws := Cond.codeWith yLgroup method_3_code 5 (some .int) [(0, 10, 13, 13)] :: wsA) B.pre w (List.mem_cons_of_mem _ hw)
  have htb : c.exceptionTable.toList = tableOf [(0, 10, 13, 13)] := vx_table (x := yLgroup) B (atoms_spec (ws := Cond.codeWith yLgroup method_3_code 5 (some .int) [(0, 10, 13, 13)] :: wsA) B.pre _ List.mem_cons_self)
  have hown : s.vm.findClass RL = some m.cls := findClass_of_methodNamed B.named
  have hA : ∀ q, s.heap.size ≤ q → va_A (Wo cy ad (lay [oc f] M)) s.heap.size q := fun q h => Or.inr h
  have hW : Wd D cy (va_A (Wo cy ad (lay [oc f] M)) s.heap.size) ad (lay [oc f] M) s.heap := ⟨hW0.1, hW0.2.self⟩
  have hS : va_S (va_A (Wo cy ad (lay [oc f] M)) s.heap.size) s.heap s.heap [] := va_S.rf
  have hl := lv_entry (([.ref 0, .int x1, .int x2, .ref 204] : List Value).map (cv ad)) (n := 5) (Nat.le_of_ble_eq_true rfl)
  rw [lg_entry_eq]
  generalize (lg_sl (([.ref 0, .int x1, .int x2, .ref 204] : List Value).map (cv ad)) ++ List.replicate (5 - (lg_sl (([.ref 0, .int x1, .int x2, .ref 204] : List Value).map (cv ad))).length) Slot.unset).toArray = ls at hl ⊢
  have hl : lv_has ls 5 [(0, .ref (ad 0)), (1, .int x1), (2, .int x2), (3, .ref (ad 204))] := hl
  refine lv_aload_n B.exec B.bytes dLgroup_0 rfl (lv_at hl 3 rfl) ?_
  refine lv_iconst (v := 0) B.exec B.bytes dLgroup_1 rfl ?_
  refine lv_aload_n B.exec B.bytes dLgroup_2 rfl (lv_at hl 0 rfl) ?_
  refine lv_iload_n B.exec B.bytes dLgroup_3 rfl (lv_at hl 1 rfl) ?_
  refine lv_iload_n B.exec B.bytes dLgroup_4 rfl (lv_at hl 2 rfl) ?_
  obtain ⟨cellB, b1, b2, b3⟩ := va_recv hK.1 hW.1 (ci := 10) (q0 := 0) (a := ad 0) (fs := flds ad (KD 0, LN 0, M 0, RFd 0 (M 0))) (q := (RX10, TX10, 17)) rfl (by rw [Wo_get (lay_get (by decide))]; rfl)
  refine callX_on (ms := lay [oc f] M) (ms1 := lay [oc f] M') (P := P) hA hW hS (vx_runV (As := [.int x1, .int x2]) (rest := [.int 0, .ref (ad 204)]) (b := ad 0) ⟨B.exec, B.bytes, hml, hown, hts⟩ (r_X10_group (X := [oc f]) hF s.heap.size) ⟨callB_of 2 hts (goodIn_wY miX10_group.1.1) rfl rfl rfl (hts _ miX10_group.1.2.1) (hts _ lkLgroup) miX10_group.1.2.2.2.1 (room_ok (Rm := rmD 7 1 6) (by decide) (by decide) miX10_group.1.2.2.2.2), hts _ miX10_group.2.1, hts _ miX10_group.2.2.1⟩ ⟨fb_PcX, ⟨cellB, b1, b2, b3⟩, fun U hU hWm => ⟨rfl, by rw [hU], by rw [hU]; exact ⟨hW.1, hW.2.weaken (fun _ _ _ _ => trivial)⟩, Kx.warm hWm hK, hZ.call hS (fun _ h => h) hU hWm⟩⟩ rfl rfl hl.1 rfl (lv_room (Nat.le_of_ble_eq_true rfl)) dLgroup_5 ⟨Nat.le_refl 1, Nat.le_refl 6⟩) (fun v H1 locs1 hP hW1 hS1 => ?_) (fun H1 locs1 q ce hP hW1 hS1 hce hcv hcl => ?_)
  · subst hP
    refine lv_i2l B.exec B.bytes dLgroup_8 rfl ?_
    refine va_last B.exec B.bytes hK.1 hW1.1 hW1.2 hS1 204 6 (a := ad 204) (cA := cy 18) (n := 1) (f := fun j => (f j).toInt64) (by rw [Wo_get (lay_hi (by decide))]; rfl) rfl (vin_of (by decide) (by decide)) dLgroup_9 (fun H2 locs2 hP2 hD2 hS2 => ?_)
    have e9 : (Wo cy ad (lay [oc f] M')).set 204 (ad 204, .inl (cy 18, 1, .inr (.inl (vp_updL (fun j => (f j).toInt64) (0 : Int32).toNatClampNeg v.toInt64)))) = Wo cy ad (lay [oc (thF f (some v))] M') := by
      rw [show (0 : Int32).toNatClampNeg = 0 from by decide, upL_eq]
      have := Wo_set (cy := cy) (ad := ad) (ms := lay [oc f] M') (i := 204) (c := oc (upd f 0 v))
      rw [lay_oset] at this
      exact this
    rw [e9] at hP2 hD2
    refine lv_goto (tgt := 17) B.exec B.bytes dLgroup_10 (by decide) ?_
    refine lv_iconst (v := 0) B.exec B.bytes dLgroup_17 rfl ?_
    exact vx_ret (W.widen (k := 1) (n := 6) (by decide) (by decide) (W.iret (v := 0) B.exec B.bytes B.returns (fun t ht hWm => ⟨⟨rfl, by rw [ht]; exact ⟨hP2, hD2⟩, trivial⟩, hS2.F ht⟩) hS2.2.2 dLgroup_18 (hlocks := B.notSynchronized)))
  · subst hP
    refine vx_catch hown [] { startPc := 0, endPc := 10, handlerPc := 13, catchType := 13 } [] htb (fun z hz => by cases hz) (by decide) (by decide) (hts (Cond.classLink RL 13 RE) (in_t5 57 rfl rfl)) (va_Nw.use rfl (hZ.2.1 (.castable RE RE) (by simp [xwA]))) hce hcv hcl ?_
    refine lv_astore (lv' := (4, .ref q) :: [(0, .ref (ad 0)), (1, .int x1), (2, .int x2), (3, .ref (ad 204))]) B.exec B.bytes dLgroup_13 hl (by decide) rfl (fun ls hl => ?_)
    refine lv_iconst (v := 1) B.exec B.bytes dLgroup_15 rfl ?_
    exact vx_ret (W.widen (k := 1) (n := 6) (by decide) (by decide) (W.iret (v := 1) B.exec B.bytes B.returns (fun t ht hWm => ⟨⟨rfl, by rw [ht]; exact hW1, trivial⟩, hS1.F ht⟩) hS1.2.2 dLgroup_16 (hlocks := B.notSynchronized)))
def yLroom : MethodName := ⟨RL, "room", "(LNoTwoInOneRoom;II[J)I"⟩
theorem dLroom_0 : decode method_4_code 0 = .ok (.aload_n 3, 1) := by decide +kernel
theorem dLroom_1 : decode method_4_code 1 = .ok (.iconst 0, 1) := by decide +kernel
theorem dLroom_2 : decode method_4_code 2 = .ok (.aload_n 0, 1) := by decide +kernel
theorem dLroom_3 : decode method_4_code 3 = .ok (.iload_n 1, 1) := by decide +kernel
theorem dLroom_4 : decode method_4_code 4 = .ok (.iload_n 2, 1) := by decide +kernel
theorem dLroom_5 : decode method_4_code 5 = .ok (.invokevirtual 15, 3) := by decide +kernel
theorem dLroom_8 : decode method_4_code 8 = .ok (.i2l, 1) := by decide +kernel
theorem dLroom_9 : decode method_4_code 9 = .ok (.lastore, 1) := by decide +kernel
theorem dLroom_10 : decode method_4_code 10 = .ok (.goto 7, 3) := by decide +kernel
theorem dLroom_13 : decode method_4_code 13 = .ok (.astore 4, 2) := by decide +kernel
theorem dLroom_15 : decode method_4_code 15 = .ok (.iconst 1, 1) := by decide +kernel
theorem dLroom_16 : decode method_4_code 16 = .ok (.ireturn, 1) := by decide +kernel
theorem dLroom_17 : decode method_4_code 17 = .ok (.iconst 0, 1) := by decide +kernel
theorem dLroom_18 : decode method_4_code 18 = .ok (.ireturn, 1) := by decide +kernel
set_option maxRecDepth 100000 in
theorem lkLroom : Cond.methodLink RL 15 YX10_room.1 ∈ wsA := in_t5 126 rfl rfl
set_option maxRecDepth 100000 in
theorem law_room {l : Launch} {D : va_G} {cy : Nat → ClassId} {ad : Nat → Nat} {x1 x2 : Int32} {M M' : Mem} {P : Option Int32} {f : Nat → Int32} (hF : f_X10_room x1 x2 M = some (P, M')) : RunH l D cy ad yLroom method_4_code 5 [(0, 10, 13, 13)] [.ref 0, .int x1, .int x2, .ref 204] (lay [oc f] M) (thK P) (lay [oc (thF f P)] M') := by
  intro sz
  refine vx_ofWH (by decide +kernel) rfl ?_
  intro p e s m args below meth c s₁ B hml hv
  obtain ⟨rfl, hsz, hW0, hK, hZ⟩ := hv
  subst hsz
  have hts : ∀ w ∈ wsA, w.before _ s = true := fun w hw => atoms_spec (ws := Cond.codeWith yLroom method_4_code 5 (some .int) [(0, 10, 13, 13)] :: wsA) B.pre w (List.mem_cons_of_mem _ hw)
  have htb : c.exceptionTable.toList = tableOf [(0, 10, 13, 13)] := vx_table (x := yLgroup) B (atoms_spec (ws := Cond.codeWith yLroom method_4_code 5 (some .int) [(0, 10, 13, 13)] :: wsA) B.pre _ List.mem_cons_self)
  have hown : s.vm.findClass RL = some m.cls := findClass_of_methodNamed B.named
  have hA : ∀ q, s.heap.size ≤ q → va_A (Wo cy ad (lay [oc f] M)) s.heap.size q := fun q h => Or.inr h
  have hW : Wd D cy (va_A (Wo cy ad (lay [oc f] M)) s.heap.size) ad (lay [oc f] M) s.heap := ⟨hW0.1, hW0.2.self⟩
  have hS : va_S (va_A (Wo cy ad (lay [oc f] M)) s.heap.size) s.heap s.heap [] := va_S.rf
  have hl := lv_entry (([.ref 0, .int x1, .int x2, .ref 204] : List Value).map (cv ad)) (n := 5) (Nat.le_of_ble_eq_true rfl)
  rw [lg_entry_eq]
  generalize (lg_sl (([.ref 0, .int x1, .int x2, .ref 204] : List Value).map (cv ad)) ++ List.replicate (5 - (lg_sl (([.ref 0, .int x1, .int x2, .ref 204] : List Value).map (cv ad))).length) Slot.unset).toArray = ls at hl ⊢
  have hl : lv_has ls 5 [(0, .ref (ad 0)), (1, .int x1), (2, .int x2), (3, .ref (ad 204))] := hl
  refine lv_aload_n B.exec B.bytes dLroom_0 rfl (lv_at hl 3 rfl) ?_
  refine lv_iconst (v := 0) B.exec B.bytes dLroom_1 rfl ?_
  refine lv_aload_n B.exec B.bytes dLroom_2 rfl (lv_at hl 0 rfl) ?_
  refine lv_iload_n B.exec B.bytes dLroom_3 rfl (lv_at hl 1 rfl) ?_
  refine lv_iload_n B.exec B.bytes dLroom_4 rfl (lv_at hl 2 rfl) ?_
  obtain ⟨cellB, b1, b2, b3⟩ := va_recv hK.1 hW.1 (ci := 10) (q0 := 0) (a := ad 0) (fs := flds ad (KD 0, LN 0, M 0, RFd 0 (M 0))) (q := (RX10, TX10, 17)) rfl (by rw [Wo_get (lay_get (by decide))]; rfl)
  refine callX_on (ms := lay [oc f] M) (ms1 := lay [oc f] M') (P := P) hA hW hS (vx_runV (As := [.int x1, .int x2]) (rest := [.int 0, .ref (ad 204)]) (b := ad 0) ⟨B.exec, B.bytes, hml, hown, hts⟩ (r_X10_room (X := [oc f]) hF s.heap.size) ⟨callB_of 2 hts (goodIn_wY miX10_room.1.1) rfl rfl rfl (hts _ miX10_room.1.2.1) (hts _ lkLroom) miX10_room.1.2.2.2.1 (room_ok (Rm := rmD 7 1 6) (by decide) (by decide) miX10_room.1.2.2.2.2), hts _ miX10_room.2.1, hts _ miX10_room.2.2.1⟩ ⟨fb_PcX, ⟨cellB, b1, b2, b3⟩, fun U hU hWm => ⟨rfl, by rw [hU], by rw [hU]; exact ⟨hW.1, hW.2.weaken (fun _ _ _ _ => trivial)⟩, Kx.warm hWm hK, hZ.call hS (fun _ h => h) hU hWm⟩⟩ rfl rfl hl.1 rfl (lv_room (Nat.le_of_ble_eq_true rfl)) dLroom_5 ⟨Nat.le_refl 1, Nat.le_refl 6⟩) (fun v H1 locs1 hP hW1 hS1 => ?_) (fun H1 locs1 q ce hP hW1 hS1 hce hcv hcl => ?_)
  · subst hP
    refine lv_i2l B.exec B.bytes dLroom_8 rfl ?_
    refine va_last B.exec B.bytes hK.1 hW1.1 hW1.2 hS1 204 6 (a := ad 204) (cA := cy 18) (n := 1) (f := fun j => (f j).toInt64) (by rw [Wo_get (lay_hi (by decide))]; rfl) rfl (vin_of (by decide) (by decide)) dLroom_9 (fun H2 locs2 hP2 hD2 hS2 => ?_)
    have e9 : (Wo cy ad (lay [oc f] M')).set 204 (ad 204, .inl (cy 18, 1, .inr (.inl (vp_updL (fun j => (f j).toInt64) (0 : Int32).toNatClampNeg v.toInt64)))) = Wo cy ad (lay [oc (thF f (some v))] M') := by
      rw [show (0 : Int32).toNatClampNeg = 0 from by decide, upL_eq]
      have := Wo_set (cy := cy) (ad := ad) (ms := lay [oc f] M') (i := 204) (c := oc (upd f 0 v))
      rw [lay_oset] at this
      exact this
    rw [e9] at hP2 hD2
    refine lv_goto (tgt := 17) B.exec B.bytes dLroom_10 (by decide) ?_
    refine lv_iconst (v := 0) B.exec B.bytes dLroom_17 rfl ?_
    exact vx_ret (W.widen (k := 1) (n := 6) (by decide) (by decide) (W.iret (v := 0) B.exec B.bytes B.returns (fun t ht hWm => ⟨⟨rfl, by rw [ht]; exact ⟨hP2, hD2⟩, trivial⟩, hS2.F ht⟩) hS2.2.2 dLroom_18 (hlocks := B.notSynchronized)))
  · subst hP
    refine vx_catch hown [] { startPc := 0, endPc := 10, handlerPc := 13, catchType := 13 } [] htb (fun z hz => by cases hz) (by decide) (by decide) (hts (Cond.classLink RL 13 RE) (in_t5 57 rfl rfl)) (va_Nw.use rfl (hZ.2.1 (.castable RE RE) (by simp [xwA]))) hce hcv hcl ?_
    refine lv_astore (lv' := (4, .ref q) :: [(0, .ref (ad 0)), (1, .int x1), (2, .int x2), (3, .ref (ad 204))]) B.exec B.bytes dLroom_13 hl (by decide) rfl (fun ls hl => ?_)
    refine lv_iconst (v := 1) B.exec B.bytes dLroom_15 rfl ?_
    exact vx_ret (W.widen (k := 1) (n := 6) (by decide) (by decide) (W.iret (v := 1) B.exec B.bytes B.returns (fun t ht hWm => ⟨⟨rfl, by rw [ht]; exact hW1, trivial⟩, hS1.F ht⟩) hS1.2.2 dLroom_16 (hlocks := B.notSynchronized)))
def yLrow : MethodName := ⟨RL, "row", "(LNoTwoInOneRoom;I[J)I"⟩
theorem dLrow_0 : decode method_5_code 0 = .ok (.aload_n 2, 1) := by decide +kernel
theorem dLrow_1 : decode method_5_code 1 = .ok (.iconst 0, 1) := by decide +kernel
theorem dLrow_2 : decode method_5_code 2 = .ok (.aload_n 0, 1) := by decide +kernel
theorem dLrow_3 : decode method_5_code 3 = .ok (.iload_n 1, 1) := by decide +kernel
theorem dLrow_4 : decode method_5_code 4 = .ok (.invokevirtual 18, 3) := by decide +kernel
theorem dLrow_7 : decode method_5_code 7 = .ok (.i2l, 1) := by decide +kernel
theorem dLrow_8 : decode method_5_code 8 = .ok (.lastore, 1) := by decide +kernel
theorem dLrow_9 : decode method_5_code 9 = .ok (.goto 6, 3) := by decide +kernel
theorem dLrow_12 : decode method_5_code 12 = .ok (.astore_n 3, 1) := by decide +kernel
theorem dLrow_13 : decode method_5_code 13 = .ok (.iconst 1, 1) := by decide +kernel
theorem dLrow_14 : decode method_5_code 14 = .ok (.ireturn, 1) := by decide +kernel
theorem dLrow_15 : decode method_5_code 15 = .ok (.iconst 0, 1) := by decide +kernel
theorem dLrow_16 : decode method_5_code 16 = .ok (.ireturn, 1) := by decide +kernel
set_option maxRecDepth 100000 in
theorem lkLrow : Cond.methodLink RL 18 YX10_row.1 ∈ wsA := in_t5 134 rfl rfl
set_option maxRecDepth 100000 in
theorem law_row {l : Launch} {D : va_G} {cy : Nat → ClassId} {ad : Nat → Nat} {x1 : Int32} {M M' : Mem} {P : Option Int32} {f : Nat → Int32} (hF : f_X10_row x1 M = some (P, M')) : RunH l D cy ad yLrow method_5_code 4 [(0, 9, 12, 13)] [.ref 0, .int x1, .ref 204] (lay [oc f] M) (thK P) (lay [oc (thF f P)] M') := by
  intro sz
  refine vx_ofWH (by decide +kernel) rfl ?_
  intro p e s m args below meth c s₁ B hml hv
  obtain ⟨rfl, hsz, hW0, hK, hZ⟩ := hv
  subst hsz
  have hts : ∀ w ∈ wsA, w.before _ s = true := fun w hw => atoms_spec (ws := Cond.codeWith yLrow method_5_code 4 (some .int) [(0, 9, 12, 13)] :: wsA) B.pre w (List.mem_cons_of_mem _ hw)
  have htb : c.exceptionTable.toList = tableOf [(0, 9, 12, 13)] := vx_table (x := yLgroup) B (atoms_spec (ws := Cond.codeWith yLrow method_5_code 4 (some .int) [(0, 9, 12, 13)] :: wsA) B.pre _ List.mem_cons_self)
  have hown : s.vm.findClass RL = some m.cls := findClass_of_methodNamed B.named
  have hA : ∀ q, s.heap.size ≤ q → va_A (Wo cy ad (lay [oc f] M)) s.heap.size q := fun q h => Or.inr h
  have hW : Wd D cy (va_A (Wo cy ad (lay [oc f] M)) s.heap.size) ad (lay [oc f] M) s.heap := ⟨hW0.1, hW0.2.self⟩
  have hS : va_S (va_A (Wo cy ad (lay [oc f] M)) s.heap.size) s.heap s.heap [] := va_S.rf
  have hl := lv_entry (([.ref 0, .int x1, .ref 204] : List Value).map (cv ad)) (n := 4) (Nat.le_of_ble_eq_true rfl)
  rw [lg_entry_eq]
  generalize (lg_sl (([.ref 0, .int x1, .ref 204] : List Value).map (cv ad)) ++ List.replicate (4 - (lg_sl (([.ref 0, .int x1, .ref 204] : List Value).map (cv ad))).length) Slot.unset).toArray = ls at hl ⊢
  have hl : lv_has ls 4 [(0, .ref (ad 0)), (1, .int x1), (2, .ref (ad 204))] := hl
  refine lv_aload_n B.exec B.bytes dLrow_0 rfl (lv_at hl 2 rfl) ?_
  refine lv_iconst (v := 0) B.exec B.bytes dLrow_1 rfl ?_
  refine lv_aload_n B.exec B.bytes dLrow_2 rfl (lv_at hl 0 rfl) ?_
  refine lv_iload_n B.exec B.bytes dLrow_3 rfl (lv_at hl 1 rfl) ?_
  obtain ⟨cellB, b1, b2, b3⟩ := va_recv hK.1 hW.1 (ci := 10) (q0 := 0) (a := ad 0) (fs := flds ad (KD 0, LN 0, M 0, RFd 0 (M 0))) (q := (RX10, TX10, 17)) rfl (by rw [Wo_get (lay_get (by decide))]; rfl)
  refine callX_on (ms := lay [oc f] M) (ms1 := lay [oc f] M') (P := P) hA hW hS (vx_runV (As := [.int x1]) (rest := [.int 0, .ref (ad 204)]) (b := ad 0) ⟨B.exec, B.bytes, hml, hown, hts⟩ (r_X10_row (X := [oc f]) hF s.heap.size) ⟨callB_of 1 hts (goodIn_wY miX10_row.1.1) rfl rfl rfl (hts _ miX10_row.1.2.1) (hts _ lkLrow) miX10_row.1.2.2.2.1 (room_ok (Rm := rmD 7 1 6) (by decide) (by decide) miX10_row.1.2.2.2.2), hts _ miX10_row.2.1, hts _ miX10_row.2.2.1⟩ ⟨fb_PcX, ⟨cellB, b1, b2, b3⟩, fun U hU hWm => ⟨rfl, by rw [hU], by rw [hU]; exact ⟨hW.1, hW.2.weaken (fun _ _ _ _ => trivial)⟩, Kx.warm hWm hK, hZ.call hS (fun _ h => h) hU hWm⟩⟩ rfl rfl hl.1 rfl (lv_room (Nat.le_of_ble_eq_true rfl)) dLrow_4 ⟨Nat.le_refl 1, Nat.le_refl 6⟩) (fun v H1 locs1 hP hW1 hS1 => ?_) (fun H1 locs1 q ce hP hW1 hS1 hce hcv hcl => ?_)
  · subst hP
    refine lv_i2l B.exec B.bytes dLrow_7 rfl ?_
    refine va_last B.exec B.bytes hK.1 hW1.1 hW1.2 hS1 204 6 (a := ad 204) (cA := cy 18) (n := 1) (f := fun j => (f j).toInt64) (by rw [Wo_get (lay_hi (by decide))]; rfl) rfl (vin_of (by decide) (by decide)) dLrow_8 (fun H2 locs2 hP2 hD2 hS2 => ?_)
    have e9 : (Wo cy ad (lay [oc f] M')).set 204 (ad 204, .inl (cy 18, 1, .inr (.inl (vp_updL (fun j => (f j).toInt64) (0 : Int32).toNatClampNeg v.toInt64)))) = Wo cy ad (lay [oc (thF f (some v))] M') := by
      rw [show (0 : Int32).toNatClampNeg = 0 from by decide, upL_eq]
      have := Wo_set (cy := cy) (ad := ad) (ms := lay [oc f] M') (i := 204) (c := oc (upd f 0 v))
      rw [lay_oset] at this
      exact this
    rw [e9] at hP2 hD2
    refine lv_goto (tgt := 15) B.exec B.bytes dLrow_9 (by decide) ?_
    refine lv_iconst (v := 0) B.exec B.bytes dLrow_15 rfl ?_
    exact vx_ret (W.widen (k := 1) (n := 6) (by decide) (by decide) (W.iret (v := 0) B.exec B.bytes B.returns (fun t ht hWm => ⟨⟨rfl, by rw [ht]; exact ⟨hP2, hD2⟩, trivial⟩, hS2.F ht⟩) hS2.2.2 dLrow_16 (hlocks := B.notSynchronized)))
  · subst hP
    refine vx_catch hown [] { startPc := 0, endPc := 9, handlerPc := 12, catchType := 13 } [] htb (fun z hz => by cases hz) (by decide) (by decide) (hts (Cond.classLink RL 13 RE) (in_t5 57 rfl rfl)) (va_Nw.use rfl (hZ.2.1 (.castable RE RE) (by simp [xwA]))) hce hcv hcl ?_
    refine lv_astore_n (lv' := (3, .ref q) :: [(0, .ref (ad 0)), (1, .int x1), (2, .ref (ad 204))]) B.exec B.bytes dLrow_12 rfl hl (by decide) rfl (fun ls hl => ?_)
    refine lv_iconst (v := 1) B.exec B.bytes dLrow_13 rfl ?_
    exact vx_ret (W.widen (k := 1) (n := 6) (by decide) (by decide) (W.iret (v := 1) B.exec B.bytes B.returns (fun t ht hWm => ⟨⟨rfl, by rw [ht]; exact hW1, trivial⟩, hS1.F ht⟩) hS1.2.2 dLrow_14 (hlocks := B.notSynchronized)))
