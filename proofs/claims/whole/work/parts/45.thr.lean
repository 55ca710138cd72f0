/-! methods that may throw: rules and contract (p: none where it throws) -/
def ZX (l : Launch) (A : Nat → Prop) (s : State) : Prop := l.stackTraces = false ∧ (∀ w ∈ xwA, va_Nw w s) ∧ vx_Zq Bundle.tN "UNASSIGNED_STACK" Bundle.steD A s s.heap ∧ vx_Zq Bundle.tN "SUPPRESSED_SENTINEL" Bundle.listD A s s.heap
def Qx (D : va_G) (cy : Nat → ClassId) (ad : Nat → Nat) (A : Nat → Prop) (p : Option Int32) (ms : Mm) : Array Value → State → Outcome → State → Prop := fun a st o t => ∃ R : Int32, p = some R ∧ Qm D cy ad none A (some (.int R)) ms a st o t
def XX (D : va_G) (cy : Nat → ClassId) (ad : Nat → Nat) (A : Nat → Prop) (p : Option Int32) (ms : Mm) : String → State → State → Prop := fun E st t => p = none ∧ E = RE ∧ Wd D cy A ad ms t.heap ∧ va_F A st t
def QX (l : Launch) (D : va_G) (cy : Nat → ClassId) (ad : Nat → Nat) (p : Option Int32) (ms : Mm) : List Frame → Array Value → State → (Nat → Prop) → State → Prop := fun below args s A t => ZX l A s → vx_MQ below (Qx D cy ad A p ms) (XX D cy ad A p ms) args s 1 6 A t
section NXT
variable {l : Launch} {D : va_G} {cy : Nat → ClassId} {ad : Nat → Nat} {Y : MRec} {d pc : Nat} {L : List (Nat × Value)} {ms : Mm}
theorem x_iret {v : Int32} (hd : decode Y.2.1 pc = .ok (.ireturn, 1)) (hY : Y.2.2.2 = some .int) : RunG l D cy ad none Y (rmD d 1 6) (QX l D cy ad (some v) ms) 0 0 pc L [.int v] ms := by
  intro p e s m args below meth cd A C H locs ls hW hz hS hl
  have h : W p l e (rmD d 1 6) s m args below meth cd H locs 0 0 (vx_MQ below (Qx D cy ad A (some v) ms) (XX D cy ad A (some v) ms) args s 1 6 A) (F0 m pc ls [.int v]) :=
    vx_ret (W.widen (k := 1) (n := 6) (by decide) (by decide) (W.iret (v := v) C.1 C.2.1 (C.2.2.1.trans hY) (fun t ht hWm => ⟨v, rfl, ⟨rfl, by rw [ht]; exact hW, trivial⟩, hS.F ht⟩) hS.2.2 hd (hlocks := C.2.2.2.2.2.2.1.1)))
  intro T hT X
  obtain ⟨t, a1, b1⟩ := h T hT X
  exact ⟨t, a1, fun _ => b1⟩
theorem x_throw (hY : Y.1.cls = RX10) (d0 : decode Y.2.1 pc = .ok (.new 155, 3)) (d3 : decode Y.2.1 (pc + 3) = .ok (.dup, 1)) (d4 : decode Y.2.1 (pc + 4) = .ok (.invokespecial 157, 3)) (d7 : decode Y.2.1 (pc + 7) = .ok (.athrow, 1)) (hdd : 6 ≤ d) : RunG l D cy ad none Y (rmD d 1 6) (QX l D cy ad none ms) 0 0 pc L [] ms := by
  intro p e s m args below meth cd A C H locs ls hW hz hS hl
  by_cases hz9 : ZX l A s
  · have h : W p l e (rmD d 1 6) s m args below meth cd H locs 0 0 (vx_MQ below (Qx D cy ad A none ms) (XX D cy ad A none ms) args s 1 6 A) (F0 m pc ls []) :=
      vx_throw0 (A := A) (rest := []) C.1 C.2.1 hz9.1 (own := RX10) (cls := RE) (names := exN) (ik := 155) (ic := 157) (by rw [← hY]; exact C.2.2.2.2.1) (by decide +kernel) (by decide +kernel) (C.2.2.2.2.2.1 _ ex_link.1) (C.2.2.2.2.2.1 _ ex_link.2) (ex_before C.2.2.2.2.2.1 hz9.2.1) ex_ot hz9.2.2.1 hz9.2.2.2 hS (hl.1.trans C.2.2.2.1.symm) d0 d3 d4 d7 (fun x hx => absurd (C.2.2.2.2.2.2.1.2 x hx) id) (by show 2 + 3 < d; omega) (by show 0 + (13 * (2 + 1) + 42) ≤ 40 * d; omega) (Nat.le_refl 1) (Nat.le_refl 6) C.2.2.2.2.2.2.1.1
        (fun t hvm hsz ho => ⟨rfl, rfl, ⟨hW.1.kept (fun k q hk => ho q.1 ((hW.1 k q hk).lt)), hW.2⟩, Nat.le_trans hS.1 hsz, fun q h1 h2 => (ho q (Nat.lt_of_lt_of_le h1 hS.1)).trans (hS.2.1 q h1 h2)⟩) hS.2.2 (Nat.le_refl 1) (Nat.le_refl 6)
    intro T hT X
    obtain ⟨t, a1, b1⟩ := h T hT X
    exact ⟨t, a1, fun _ => b1⟩
  · intro T hT X
    exact ⟨_, Steps.refl _, fun h => absurd h hz9⟩
/-- the contract of a method that may throw -/
def RunX (l : Launch) (D : va_G) (cy : Nat → ClassId) (ad : Nat → Nat) (Y : MRec) (d : Nat) (as : List Value) (ms : Mm) (p : Option Int32) (ms' : Mm) : Prop :=
  ∀ sz : Nat, vx_Met l Y.1 (wY Y) (rmD d 1 6) (va_Pc (as.map (cv ad)) (fun U => U.heap.size = sz ∧ Wd D cy (fun _ => True) ad ms U.heap ∧ Kx D cy U ∧ ZX l (va_A (Wo cy ad ms) sz) U)) (Qx D cy ad (va_A (Wo cy ad ms) sz) p ms') (XX D cy ad (va_A (Wo cy ad ms) sz) p ms') 1 6 (va_A (Wo cy ad ms) sz)
theorem RunX.of {as : List Value} {q : Option Int32} (np : Nat) (hok : MOK Y np) (hl : (lg_sl as).length ≤ Y.2.2.1) {ms' : Mm} (h : RunG l D cy ad none Y (rmD d 1 6) (QX l D cy ad q ms') 0 0 0 (lv_args 0 as) [] ms) : RunX l D cy ad Y d as ms q ms' := by
  intro sz
  refine vx_ofW (cc := Y.2.1) (maxL := Y.2.2.1) (ret := Y.2.2.2) (ws' := wsA) hok.2.2.1 rfl ?_
  intro p e s m args below meth c s₁ B hml ht hv
  obtain ⟨rfl, hsz, hW, hK, hZ⟩ := hv
  subst hsz
  have hl2 := lv_entry (as.map (cv ad)) (n := Y.2.2.1) (by rw [lg_sl_cv]; exact hl)
  rw [lg_entry_eq]
  rw [lcv_args] at hl2
  have h9 := h p e s m _ below meth c (va_A (Wo cy ad ms) s.heap.size) ⟨B.exec, B.bytes, B.returns, hml, findClass_of_methodNamed B.named, (fun w hw => atoms_spec (ws := wY Y) B.pre w (List.mem_cons_of_mem _ hw)), ⟨B.notSynchronized, ht⟩, (name_of_methodNamed B.named B.method).1, hK, fun q h => Or.inr h⟩ s.heap [] _ ⟨hW.1, hW.2.self⟩ trivial va_S.rf hl2
  intro T hT X
  obtain ⟨t, a1, b1⟩ := h9 T hT X
  exact ⟨t, a1, b1 hZ⟩
theorem y_iret {X : Mm} {M M' : Mem} {v : Int32} {P : Option Int32} (hd : decode Y.2.1 pc = .ok (.ireturn, 1)) (hY : Y.2.2.2 = some .int) (hF : some (some v, M) = some (P, M')) : RunG l D cy ad none Y (rmD d 1 6) (QX l D cy ad P (lay X M')) 0 0 pc L [.int v] (lay X M) := by
  cases hF
  exact x_iret hd hY
theorem y_throw {X : Mm} {M M' : Mem} {P : Option Int32} (hY : Y.1.cls = RX10) (d0 : decode Y.2.1 pc = .ok (.new 155, 3)) (d3 : decode Y.2.1 (pc + 3) = .ok (.dup, 1)) (d4 : decode Y.2.1 (pc + 4) = .ok (.invokespecial 157, 3)) (d7 : decode Y.2.1 (pc + 7) = .ok (.athrow, 1)) (hdd : 6 ≤ d) (hF : some ((none : Option Int32), M) = some (P, M')) : RunG l D cy ad none Y (rmD d 1 6) (QX l D cy ad P (lay X M')) 0 0 pc L [] (lay X M) := by
  cases hF
  exact x_throw hY d0 d3 d4 d7 hdd
theorem z_callVi {X : Mm} {M : Mem} {st : List Value} {Qf : List Frame → Array Value → State → (Nat → Prop) → State → Prop} {Y' : MRec} {d' np idx ob ci : Nat} {as : List Value} {R : Int32} {M1 : Mem} (hR : RunS l D cy ad Y' d' (.ref ob :: as) X M (some (.int R)) M1) (hm : MI Y' np ci) (hlk : Cond.methodLink Y.1.cls idx Y'.1 ∈ wsA) (hd : decode Y.2.1 pc = .ok (.invokevirtual idx, 3)) (hk : kinds[ob]? = some ci) (hn : as.length = np) (hst : (st.map fun v => v.category).sum ≤ 8) (hdd : d' + 1 ≤ d) {st0 : List Value} (hs0 : st0 = as.reverse ++ .ref ob :: st) (kk : RunG l D cy ad none Y (rmD d 1 6) Qf 0 0 (pc + 3) L (.int R :: st) (lay X M1)) : RunG l D cy ad none Y (rmD d 1 6) Qf 0 0 pc L st0 (lay X M) := by
  obtain ⟨q, h1, h2⟩ := hm.2.2.2
  exact g_callV hR hm.1 hlk hm.2.1 hm.2.2.1 hd (lay_get (kd_lt hk).1) (q := q) (by show vwCl[KD ob]? = some q; rw [(kd_lt hk).2]; exact h1) h2 hn hst hdd (Nat.mul_le_mul_left 40 hdd) (Nat.zero_le 1) (Nat.zero_le 6) hs0 kk
end NXT
