/-! rules: calls -/
theorem fb_Pc {D : va_G} {cy : Nat → ClassId} {ad : Nat → Nat} {hb : Option Nat} {vs : List Value} {sz : Nat} {ms : Mm} : FrameBlind (va_Pc vs (fun U => U.heap.size = sz ∧ Wd D cy (fun _ => True) ad ms U.heap ∧ Sz hb ad ms U.heap ∧ Kx D cy U)) := by
  intro a U g mk h
  obtain ⟨h1, h2, h3, h4, h5⟩ := h
  exact ⟨h1, h2, h3, h4, va_K.moved (u := U) (U := U.calling g mk a) (Vm.Alike.refl U.vm) h5.1, nw_same (u := U) (U := U.calling g mk a) rfl h5.2.1, va_AO.moved (u := U) (U := U.calling g mk a) (Vm.Alike.refl U.vm) h5.2.2.1, va_RR.moved (u := U) (U := U.calling g mk a) (Vm.Alike.refl U.vm) h5.2.2.2⟩
theorem cats_cv (ad : Nat → Nat) (st : List Value) : ((st.map (cv ad)).map fun v => v.category).sum = (st.map fun v => v.category).sum := by
  rw [List.map_map]
  have : ((fun v : Value => v.category) ∘ cv ad) = fun v => v.category := funext fun v => cv_cat ad v
  rw [this]
section NX5
variable {l : Launch} {D : va_G} {cy : Nat → ClassId} {ad : Nat → Nat} {hb : Option Nat} {Y : MRec} {Rm : Room} {Qf : List Frame → Array Value → State → (Nat → Prop) → State → Prop} {n k pc : Nat} {L L' : List (Nat × Value)} {st : List Value} {ms : Mm}
theorem room_ok {d' m : Nat} {a b : Nat} (h : d' + 1 ≤ Rm.frames) (hl : 40 * (d' + 1) ≤ Rm.locals) (hm : m ≤ 20) : (rmD d' a b).frames + 1 ≤ Rm.frames ∧ 8 + (m + 11) + (rmD d' a b).locals ≤ Rm.locals := by
  refine ⟨h, ?_⟩
  show 8 + (m + 11) + 40 * d' ≤ Rm.locals
  omega
/-- behind a call -/
theorem call_on {p : Program} {e : Env} {s : State} {m : MethodId} {args : Array Value} {below : List Frame} {meth : Method} {c : Code} {A : Nat → Prop} {H : Heap} {locs : List Loc} {ls : Array Slot} {R : Room} {Q : State → Prop} {cc' cs' : Nat} {st0 : List Value} {av : Array Value} {r1 : Option Value} {ms1 : Mm}
    (hA : ∀ q, s.heap.size ≤ q → A q) (hW : Wd D cy A ad ms H) (hS : va_S A s.heap H locs)
    (run : va_Run p l e R s m args below meth c H locs n k cc' cs' (F0 m pc ls st0) (st.map (cv ad)) (Qm D cy ad hb (va_A (Wo cy ad ms) H.size) r1 ms1 av) (va_A (Wo cy ad ms) H.size))
    (kk : ∀ (H1 : Heap) (locs1 : List Loc), Wd D cy A ad ms1 H1 → Sz hb ad ms1 H1 → va_S A s.heap H1 locs1 → W p l e R s m args below meth c H1 locs1 (n + cc') (k + cs') Q (F0 m (pc + 3) ls ((r1.toList ++ st).map (cv ad)))) : W p l e R s m args below meth c H locs n k Q (F0 m pc ls st0) := by
  have free : ∀ q, va_A (Wo cy ad ms) H.size q → A q := by
    rintro q (⟨i, x, h⟩ | h)
    · exact hW.2.2 i (q, x) h
    · exact hA q (Nat.le_trans hS.1 h)
  intro T hT X
  obtain ⟨v, st₀, t, T', Lc, h0, X', hL, e1, e2, ⟨⟨hv, hW1, hz1⟩, hF⟩, stp⟩ := run T hT X
  have hv2 : v = r1.map (cv ad) := Outcome.returned.inj hv
  subst hv2
  rw [← e1] at hW1 hz1
  unfold va_F at hF
  rw [h0, ← e1] at hF
  obtain ⟨t2, a1, b1⟩ := kk T'.heap (locs ++ Lc) ⟨hW1.1, hW1.2.weaken (fun _ q _ h => free q.1 h)⟩ hz1 ⟨Nat.le_trans hS.1 hF.1, fun q h1 h2 => (hF.2 q (Nat.lt_of_lt_of_le h1 hS.1) (fun z => h2 (free q z))).trans (hS.2.1 q h1 h2), fun q hq => by
    rcases List.mem_append.mp hq with h | h
    · exact hS.2.2 q h
    · exact free _ (hL q h)⟩ T' rfl X'
  refine ⟨t2, stp t2 ?_, b1⟩
  have : (r1.toList ++ st).map (cv ad) = (r1.map (cv ad)).toList ++ st.map (cv ad) := by cases r1 <;> simp
  rw [this] at a1
  exact a1
theorem g_callV {Y' : MRec} {d' np idx ob cc' cs' : Nat} {as : List Value} {r1 : Option Value} {ms1 : Mm} {c : Cel} {q : vw_C} (hR : Run l D cy ad hb Y' d' cc' cs' (.ref ob :: as) ms r1 ms1) (hok : MOK Y' np) (hlk : Cond.methodLink Y.1.cls idx Y'.1 ∈ wsA) (hin : Cond.instanceMethod Y'.1 ∈ wsA) (hsel : Cond.selects Y'.1.cls Y'.1 Y'.1 ∈ wsA) (hd : decode Y.2.1 pc = .ok (.invokevirtual idx, 3)) (hc : ms[ob]? = some c) (hq : vwCl[c.1]? = some q) (hqn : q.1 = Y'.1.cls) (hn : as.length = np) (hst : (st.map fun v => v.category).sum ≤ 8) (hdd : d' + 1 ≤ Rm.frames) (hdl : 40 * (d' + 1) ≤ Rm.locals) (hcc : n + cc' ≤ Rm.cells) (hcs : k + cs' ≤ Rm.slots) {st0 : List Value} (hs0 : st0 = as.reverse ++ .ref ob :: st)
    (kk : RunG l D cy ad hb Y Rm Qf (n + cc') (k + cs') (pc + 3) L (r1.toList ++ st) ms1) : RunG l D cy ad hb Y Rm Qf n k pc L st0 ms := by
  intro p e s m args below meth cd A C H locs ls hW hz hS hl
  subst hs0
  have hts : ∀ w ∈ wsA, w.before args s = true := C.2.2.2.2.2.1
  have cw : CallW Rm s args Y.1.cls Y'.1.cls idx Y'.1 Y'.2.1 Y'.2.2.1 Y'.2.2.2 (wY Y') (rmD d' cc' cs') cc' cs' np := ⟨callB_of np C.2.2.2.2.2.1 (goodIn_wY hok.1) rfl rfl rfl (hts _ hok.2.1) (hts _ hlk) hok.2.2.2.1 (room_ok hdd hdl hok.2.2.2.2), hts _ hin, hts _ hsel⟩
  obtain ⟨cellB, b1, b2, b3⟩ := va_recv C.2.2.2.2.2.2.2.2.1.1 hW.1 hq (q0 := ob) (a := ad ob) (fs := flds ad c) (by rw [Wo_get hc, cE_obj (ctab _ _ hq).2.2.2.2])
  rw [hqn] at b3
  refine call_on (ms := ms) (ms1 := ms1) (r1 := r1) (hb := hb) C.2.2.2.2.2.2.2.2.2 hW hS (va_runV (As := as.map (cv ad)) (rest := st.map (cv ad)) (b := ad ob) ⟨C.1, C.2.1, C.2.2.2.1, C.2.2.2.2.1, C.2.2.2.2.2.1⟩ (hR H.size) cw ⟨fb_Pc, ⟨cellB, b1, b2, b3⟩, fun U hU hWm => ⟨rfl, by rw [hU], by rw [hU]; exact ⟨hW.1, hW.2.weaken (fun _ _ _ _ => trivial)⟩, by rw [hU]; exact hz, Kx.warm hWm C.2.2.2.2.2.2.2.2.1⟩⟩ rfl (by rw [List.length_map]; exact hn) hl.1 (by simp [cv]) (lv_room (by rw [cats_cv]; exact hst)) hd ⟨hcc, hcs⟩) (fun H1 locs1 hW1 hz1 hS1 => kk p e s m args below meth cd A C H1 locs1 ls hW1 hz1 hS1 hl)
theorem g_callS {Y' : MRec} {d' np idx cc' cs' : Nat} {as : List Value} {r1 : Option Value} {ms1 : Mm} (hR : Run l D cy ad hb Y' d' cc' cs' as ms r1 ms1) (hok : MOK Y' np) (hlk : Cond.methodLink Y.1.cls idx Y'.1 ∈ wsA) (hstt : Cond.static Y'.1 ∈ wsA) (hd : decode Y.2.1 pc = .ok (.invokestatic idx, 3)) (hn : as.length = np) (hst : (st.map fun v => v.category).sum ≤ 8) (hdd : d' + 1 ≤ Rm.frames) (hdl : 40 * (d' + 1) ≤ Rm.locals) (hcc : n + cc' ≤ Rm.cells) (hcs : k + cs' ≤ Rm.slots) {st0 : List Value} (hs0 : st0 = as.reverse ++ st)
    (kk : RunG l D cy ad hb Y Rm Qf (n + cc') (k + cs') (pc + 3) L (r1.toList ++ st) ms1) : RunG l D cy ad hb Y Rm Qf n k pc L st0 ms := by
  intro p e s m args below meth cd A C H locs ls hW hz hS hl
  subst hs0
  have hts : ∀ w ∈ wsA, w.before args s = true := C.2.2.2.2.2.1
  have cw : CallB Rm s args Y.1.cls idx Y'.1 Y'.2.1 Y'.2.2.1 Y'.2.2.2 (wY Y') (rmD d' cc' cs') cc' cs' np ∧ (Cond.static Y'.1).before args s = true := ⟨callB_of np C.2.2.2.2.2.1 (goodIn_wY hok.1) rfl rfl rfl (hts _ hok.2.1) (hts _ hlk) hok.2.2.2.1 (room_ok hdd hdl hok.2.2.2.2), hts _ hstt⟩
  refine call_on (ms := ms) (ms1 := ms1) (r1 := r1) (hb := hb) C.2.2.2.2.2.2.2.2.2 hW hS (va_runS (As := as.map (cv ad)) (rest := st.map (cv ad)) ⟨C.1, C.2.1, C.2.2.2.1, C.2.2.2.2.1, C.2.2.2.2.2.1⟩ (hR H.size) cw ⟨fb_Pc, fun U hU hWm => ⟨rfl, by rw [hU], by rw [hU]; exact ⟨hW.1, hW.2.weaken (fun _ _ _ _ => trivial)⟩, by rw [hU]; exact hz, Kx.warm hWm C.2.2.2.2.2.2.2.2.1⟩⟩ rfl (by rw [List.length_map]; exact hn) hl.1 (by simp [cv]) (lv_room (by rw [cats_cv]; exact hst)) hd ⟨hcc, hcs⟩) (fun H1 locs1 hW1 hz1 hS1 => kk p e s m args below meth cd A C H1 locs1 ls hW1 hz1 hS1 hl)
theorem g_callSN {Y' : MRec} {d' np idx cc' cs' : Nat} {as : List Value} {r1 : Option Value} {ms1 : Mm} {host : String} (hR : Run l D cy ad hb Y' d' cc' cs' as ms r1 ms1) (hok : MOK Y' np) (hlk : Cond.methodLinkNest Y.1.cls idx Y'.1 host ∈ nwA) (hstt : Cond.static Y'.1 ∈ wsA) (hd : decode Y.2.1 pc = .ok (.invokestatic idx, 3)) (hn : as.length = np) (hst : (st.map fun v => v.category).sum ≤ 8) (hdd : d' + 1 ≤ Rm.frames) (hdl : 40 * (d' + 1) ≤ Rm.locals) (hcc : n + cc' ≤ Rm.cells) (hcs : k + cs' ≤ Rm.slots) {st0 : List Value} (hs0 : st0 = as.reverse ++ st)
    (kk : RunG l D cy ad hb Y Rm Qf (n + cc') (k + cs') (pc + 3) L (r1.toList ++ st) ms1) : RunG l D cy ad hb Y Rm Qf n k pc L st0 ms := by
  intro p e s m args below meth cd A C H locs ls hW hz hS hl
  subst hs0
  have hts : ∀ w ∈ wsA, w.before args s = true := C.2.2.2.2.2.1
  have cw := va_cnB (R := Rm) (rm := rmD d' cc' cs') np C.2.2.2.2.2.1 (goodIn_wY hok.1) rfl rfl rfl (C.2.2.2.2.2.2.2.2.1.2.1 _ hlk) (hts _ hok.2.1) hok.2.2.2.1 (room_ok hdd hdl hok.2.2.2.2)
  refine call_on (ms := ms) (ms1 := ms1) (r1 := r1) (hb := hb) C.2.2.2.2.2.2.2.2.2 hW hS (va_runSN (As := as.map (cv ad)) (rest := st.map (cv ad)) ⟨C.1, C.2.1, C.2.2.2.1, C.2.2.2.2.1, C.2.2.2.2.2.1⟩ (hR H.size) ⟨cw, hts _ hstt, trivial⟩ ⟨fb_Pc, fun U hU hWm => ⟨rfl, by rw [hU], by rw [hU]; exact ⟨hW.1, hW.2.weaken (fun _ _ _ _ => trivial)⟩, by rw [hU]; exact hz, Kx.warm hWm C.2.2.2.2.2.2.2.2.1⟩⟩ rfl (by rw [List.length_map]; exact hn) hl.1 (by simp [cv]) (lv_room (by rw [cats_cv]; exact hst)) hd ⟨hcc, hcs⟩) (fun H1 locs1 hW1 hz1 hS1 => kk p e s m args below meth cd A C H1 locs1 ls hW1 hz1 hS1 hl)
theorem g_callI {Y' : MRec} {d' np idx ob cc' cs' : Nat} {as : List Value} {ms1 : Mm} (hR : Run l D cy ad hb Y' d' cc' cs' (.ref ob :: as) ms none ms1) (hok : MOK Y' np) (hnm : Y'.1.name = "<init>") (hret : Y'.2.2.2 = none) (hlk : Cond.methodLink Y.1.cls idx Y'.1 ∈ wsA) (hin : Cond.instanceMethod Y'.1 ∈ wsA) (hd : decode Y.2.1 pc = .ok (.invokespecial idx, 3)) (hn : as.length = np) (hst : (st.map fun v => v.category).sum ≤ 8) (hdd : d' + 1 ≤ Rm.frames) (hdl : 40 * (d' + 1) ≤ Rm.locals) (hcc : n + cc' ≤ Rm.cells) (hcs : k + cs' ≤ Rm.slots) {st0 : List Value} (hs0 : st0 = as.reverse ++ .ref ob :: st)
    (kk : RunG l D cy ad hb Y Rm Qf (n + cc') (k + cs') (pc + 3) L st ms1) : RunG l D cy ad hb Y Rm Qf n k pc L st0 ms := by
  intro p e s m args below meth cd A C H locs ls hW hz hS hl
  subst hs0
  have hts : ∀ w ∈ wsA, w.before args s = true := C.2.2.2.2.2.1
  have cw : CallB Rm s args Y.1.cls idx Y'.1 Y'.2.1 Y'.2.2.1 none (wY Y') (rmD d' cc' cs') cc' cs' np ∧ Y'.1.name = "<init>" ∧ (Cond.instanceMethod Y'.1).before args s = true := by
    refine ⟨?_, hnm, hts _ hin⟩
    rw [← hret]
    exact callB_of np C.2.2.2.2.2.1 (goodIn_wY hok.1) rfl rfl rfl (hts _ hok.2.1) (hts _ hlk) hok.2.2.2.1 (room_ok hdd hdl hok.2.2.2.2)
  refine call_on (ms := ms) (ms1 := ms1) (r1 := none) (hb := hb) C.2.2.2.2.2.2.2.2.2 hW hS (va_runI (As := as.map (cv ad)) (rest := st.map (cv ad)) (b := ad ob) ⟨C.1, C.2.1, C.2.2.2.1, C.2.2.2.2.1, C.2.2.2.2.2.1⟩ (hR H.size) cw ⟨fb_Pc, fun U hU hWm => ⟨rfl, by rw [hU], by rw [hU]; exact ⟨hW.1, hW.2.weaken (fun _ _ _ _ => trivial)⟩, by rw [hU]; exact hz, Kx.warm hWm C.2.2.2.2.2.2.2.2.1⟩⟩ rfl (by rw [List.length_map]; exact hn) hl.1 (by simp [cv]) (lv_room (by rw [cats_cv]; exact hst)) hd ⟨hcc, hcs⟩) (fun H1 locs1 hW1 hz1 hS1 => kk p e s m args below meth cd A C H1 locs1 ls hW1 hz1 hS1 hl)
end NX5
