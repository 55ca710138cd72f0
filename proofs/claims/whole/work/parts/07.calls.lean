/-! rules: stores of small arrays, arraycopy, max and min, calls, returns -/
section NX4
variable {l : Launch} {D : va_G} {cy : Nat → ClassId} {ad : Nat → Nat} {hb : Option Nat} {Y : MRec} {Rm : Room} {Qf : List Frame → Array Value → State → (Nat → Prop) → State → Prop} {n k pc : Nat} {L L' : List (Nat × Value)} {st : List Value} {ms : Mm}
theorem cE_upd {i : Nat} {c : Cel} {g : Nat → Int32} (h : 12 ≤ c.1) (h2 : c.1 < 16) : ((ad i, Sum.inl (cy c.1, c.2.1, .inl g)) : Nat × va_E) = (ad i, cE cy ad (c.1, c.2.1, g, c.2.2.2)) := by rw [cE_int (c := (c.1, c.2.1, g, c.2.2.2)) h h2]
theorem g_bast {i : Nat} {j x : Int32} {c : Cel} (hd : decode Y.2.1 pc = .ok (.bastore, 1)) (hc : ms[i]? = some c) (hci : c.1 = 12) (h1 : 0 ≤ j) (h2 : j.toNatClampNeg < c.2.1) (kk : RunG l D cy ad none Y Rm Qf n k (pc + 1) L st (ms.set i (c.1, c.2.1, upd c.2.2.1 j.toNatClampNeg (vp_nar .byte x), c.2.2.2))) : RunG l D cy ad none Y Rm Qf n k pc L (.int x :: .int j :: .ref i :: st) ms := by
  intro p e s m args below meth cd A C H locs ls hW hz hS hl
  refine va_bast C.1 C.2.1 C.2.2.2.2.2.2.2.2.1.1 hW.1 hW.2 hS i 0 (cA := cy c.1) (n := c.2.1) (f := c.2.2.1) (by rw [Wo_get hc, cE_int (by omega) (by omega)]) (by rw [hci]; rfl) (vin_of h1 h2) hd (fun H1 locs1 hP1 hD1 hS1 => ?_)
  rw [cE_upd (by omega) (by omega), Wo_set] at hP1 hD1
  exact kk p e s m args below meth cd A C H1 locs1 ls ⟨hP1, hD1⟩ trivial hS1 hl
theorem g_zast {i : Nat} {j x : Int32} {c : Cel} (hd : decode Y.2.1 pc = .ok (.bastore, 1)) (hc : ms[i]? = some c) (hci : c.1 = 15) (h1 : 0 ≤ j) (h2 : j.toNatClampNeg < c.2.1) (kk : RunG l D cy ad none Y Rm Qf n k (pc + 1) L st (ms.set i (c.1, c.2.1, upd c.2.2.1 j.toNatClampNeg (vp_nar .boolean x), c.2.2.2))) : RunG l D cy ad none Y Rm Qf n k pc L (.int x :: .int j :: .ref i :: st) ms := by
  intro p e s m args below meth cd A C H locs ls hW hz hS hl
  refine va_zast C.1 C.2.1 C.2.2.2.2.2.2.2.2.1.1 hW.1 hW.2 hS i 3 (cA := cy c.1) (n := c.2.1) (f := c.2.2.1) (by rw [Wo_get hc, cE_int (by omega) (by omega)]) (by rw [hci]; rfl) (vin_of h1 h2) hd (fun H1 locs1 hP1 hD1 hS1 => ?_)
  rw [cE_upd (by omega) (by omega), Wo_set] at hP1 hD1
  exact kk p e s m args below meth cd A C H1 locs1 ls ⟨hP1, hD1⟩ trivial hS1 hl
theorem g_cast {i : Nat} {j x : Int32} {c : Cel} (hd : decode Y.2.1 pc = .ok (.castore, 1)) (hc : ms[i]? = some c) (hci : c.1 = 13) (h1 : 0 ≤ j) (h2 : j.toNatClampNeg < c.2.1) (kk : RunG l D cy ad none Y Rm Qf n k (pc + 1) L st (ms.set i (c.1, c.2.1, upd c.2.2.1 j.toNatClampNeg (vp_nar .char x), c.2.2.2))) : RunG l D cy ad none Y Rm Qf n k pc L (.int x :: .int j :: .ref i :: st) ms := by
  intro p e s m args below meth cd A C H locs ls hW hz hS hl
  refine va_cast C.1 C.2.1 C.2.2.2.2.2.2.2.2.1.1 hW.1 hW.2 hS i 1 (cA := cy c.1) (n := c.2.1) (f := c.2.2.1) (by rw [Wo_get hc, cE_int (by omega) (by omega)]) (by rw [hci]; rfl) (vin_of h1 h2) hd (fun H1 locs1 hP1 hD1 hS1 => ?_)
  rw [cE_upd (by omega) (by omega), Wo_set] at hP1 hD1
  exact kk p e s m args below meth cd A C H1 locs1 ls ⟨hP1, hD1⟩ trivial hS1 hl
theorem tys_at {c : Cel} (h : 12 ≤ c.1) (h2 : c.1 < 18) : ∃ ty, (tysA cy)[c.1 - 12]? = some (cy c.1, ty) := by
  obtain ⟨k, q⟩ := c
  dsimp only at h h2 ⊢
  have : k = 12 ∨ k = 13 ∨ k = 14 ∨ k = 15 ∨ k = 16 ∨ k = 17 := by omega
  rcases this with rfl | rfl | rfl | rfl | rfl | rfl <;> exact ⟨_, rfl⟩
theorem g_alen {i : Nat} {c : Cel} {v : Int32} (hd : decode Y.2.1 pc = .ok (.arraylength, 1)) (hc : ms[i]? = some c) (hci : 12 ≤ c.1 ∧ c.1 < 16) (hv : Int32.ofNat c.2.1 = v) (kk : RunG l D cy ad hb Y Rm Qf n k (pc + 1) L (.int v :: st) ms) : RunG l D cy ad hb Y Rm Qf n k pc L (.ref i :: st) ms := by
  intro p e s m args below meth cd A C H locs ls hW hz hS hl
  obtain ⟨ty, hty⟩ := tys_at (cy := cy) (c := c) hci.1 (by omega)
  exact va_alen C.1 C.2.1 C.2.2.2.2.2.2.2.2.1.1 hW.1 i (c.1 - 12) (cA := cy c.1) (x := (c.2.1, .inl c.2.2.1)) (by rw [Wo_get hc, cE_int hci.1 hci.2]) hty hv hd (kk p e s m args below meth cd A C H locs ls hW hz hS hl)
/-- arraycopy between two arrays of one kind (ints 14, chars 13) -/
theorem g_copy {idx i0 i1 : Nat} {sp dp w : Int32} {c0 c1 : Cel} (hd : decode Y.2.1 pc = .ok (.invokestatic idx, 3)) (hlk : Cond.methodLink Y.1.cls idx arraycopyName ∈ wsA) (hnat : Cond.native arraycopyName ∈ wsA) (hstt : Cond.static arraycopyName ∈ wsA) (hini : Cond.initialized "java/lang/System" ∈ wsA) (h0 : ms[i0]? = some c0) (h1 : ms[i1]? = some c1) (e0 : c0.1 = c1.1) (e1 : c1.1 = 14 ∨ (c1.1 = 13 ∧ ∀ i, i < w.toNatClampNeg → fits .char (.int (c0.2.2.1 (sp.toNatClampNeg + i))) = true))
    (g1 : ¬ sp < 0) (g2 : ¬ dp < 0) (g3 : ¬ w < 0) (g4 : sp.toNatClampNeg + w.toNatClampNeg ≤ c0.2.1) (g5 : dp.toNatClampNeg + w.toNatClampNeg ≤ c1.2.1) (hst : (st.map fun v => v.category).sum ≤ 8) (hdp : 1 ≤ Rm.frames) (hdl : 40 ≤ Rm.locals)
    (kk : RunG l D cy ad none Y Rm Qf n k (pc + 3) L st (ms.set i1 (c1.1, c1.2.1, va_cpy c0.2.2.1 c1.2.2.1 sp.toNatClampNeg dp.toNatClampNeg w.toNatClampNeg, c1.2.2.2))) : RunG l D cy ad none Y Rm Qf n k pc L (.int w :: .int dp :: .ref i1 :: .int sp :: .ref i0 :: st) ms := by
  intro p e s m args below meth cd A C H locs ls hW hz hS hl
  have hts : ∀ w ∈ wsA, w.before args s = true := C.2.2.2.2.2.1
  have hcat : ((st.map (cv ad)).map fun v => v.category).sum ≤ 8 := by
    rw [List.map_map]
    have : ((fun v : Value => v.category) ∘ cv ad) = fun v => v.category := funext fun v => cv_cat ad v
    rw [this]
    exact hst
  have kind : c1.1 < 16 := by rcases e1 with h | h <;> omega
  have kind2 : 12 ≤ c1.1 := by rcases e1 with h | h <;> omega
  obtain ⟨ty, hty, hprim, hfit⟩ : ∃ ty, (tysA cy)[c1.1 - 12]? = some (cy c1.1, ty) ∧ refKind ty = false ∧ ∀ i, i < w.toNatClampNeg → fits ty (.int (c0.2.2.1 (sp.toNatClampNeg + i))) = true := by
    rcases e1 with h | ⟨h, hf⟩
    · rw [h]; exact ⟨.int, rfl, rfl, fun _ _ => rfl⟩
    · rw [h]; exact ⟨.char, rfl, rfl, hf⟩
  refine va_copyi C.1 C.2.1 (C.2.2.2.1.trans hl.1.symm) C.2.2.2.2.1 (hts _ hlk) (hts _ hnat) (hts _ hstt) (hts _ hini) C.2.2.2.2.2.2.2.2.1.1 hW.1 hW.2 hS i0 i1 (c1.1 - 12) (c1.1 - 12) (c0 := cy c1.1) (c1 := cy c1.1) (n0 := c0.2.1) (n1 := c1.2.1) (f := c0.2.2.1) (g := c1.2.2.1) (ty := ty) (by rw [Wo_get h0, cE_int (by omega) (by omega), e0]) (by rw [Wo_get h1, cE_int kind2 kind]) hty hty hprim g1 g2 g3 g4 g5 hfit hdp (by
    show _ + (nativeFrameWords "java/lang/System" "arraycopy" 5 + 11) ≤ Rm.locals
    have : nativeFrameWords "java/lang/System" "arraycopy" 5 + 11 ≤ 32 := by decide
    omega) hd (fun H1 locs1 hP1 hD1 hS1 => ?_)
  rw [cE_upd kind2 kind, Wo_set] at hP1 hD1
  exact kk p e s m args below meth cd A C H1 locs1 ls ⟨hP1, hD1⟩ trivial hS1 hl
end NX4
section NX4b
variable {l : Launch} {D : va_G} {cy : Nat → ClassId} {ad : Nat → Nat} {hb : Option Nat} {Y : MRec} {d cc cs : Nat} {r : Option Value} {ms' : Mm} {n k pc : Nat} {L L' : List (Nat × Value)} {st : List Value} {ms : Mm}
theorem g_iret {v : Int32} (hd : decode Y.2.1 pc = .ok (.ireturn, 1)) (hY : Y.2.2.2 = some .int) (h1 : n ≤ cc) (h2 : k ≤ cs) : RunF l D cy ad hb Y d cc cs (some (.int v)) ms n k pc L [.int v] ms := by
  intro p e s m args below meth cd A C H locs ls hW hz hS hl
  refine W.widen h1 h2 ?_
  exact W.iret (v := v) C.1 C.2.1 (C.2.2.1.trans hY) (fun t ht hWm => ⟨⟨rfl, by rw [ht]; exact hW, by rw [ht]; exact hz⟩, hS.F ht⟩) hS.2.2 hd (hlocks := C.2.2.2.2.2.2.1.1)
theorem g_zret {v : Int32} (hd : decode Y.2.1 pc = .ok (.ireturn, 1)) (hY : Y.2.2.2 = some .boolean) (hv : v = 0 ∨ v = 1) (h1 : n ≤ cc) (h2 : k ≤ cs) : RunF l D cy ad hb Y d cc cs (some (.int v)) ms n k pc L [.int v] ms := by
  intro p e s m args below meth cd A C H locs ls hW hz hS hl
  refine W.widen h1 h2 ?_
  exact W.zret (v := v) C.1 C.2.1 (C.2.2.1.trans hY) (by rcases hv with rfl | rfl <;> decide) (fun t ht hWm => ⟨⟨rfl, by rw [ht]; exact hW, by rw [ht]; exact hz⟩, hS.F ht⟩) hS.2.2 hd (hlocks := C.2.2.2.2.2.2.1.1)
theorem g_vret (hd : decode Y.2.1 pc = .ok (.return_, 1)) (hY : Y.2.2.2 = none) (h1 : n ≤ cc) (h2 : k ≤ cs) : RunF l D cy ad hb Y d cc cs none ms n k pc L [] ms := by
  intro p e s m args below meth cd A C H locs ls hW hz hS hl
  refine W.widen h1 h2 ?_
  exact W.vret C.1 C.2.1 (C.2.2.1.trans hY) (fun t ht hWm => ⟨⟨rfl, by rw [ht]; exact hW, by rw [ht]; exact hz⟩, hS.F ht⟩) hS.2.2 hd (hlocks := C.2.2.2.2.2.2.1.1)
end NX4b
