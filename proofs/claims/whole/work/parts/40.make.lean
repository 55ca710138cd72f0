/-! rules that make cells: the addresses go up one by one (hb = some h) -/
theorem def_all : ∀ ci, ci < 12 → ∀ j, j < nF ci → defaultValue (tyF ci j) = if isRf ci j then .null else .int 0 := by decide +kernel
section NX8
variable {l : Launch} {D : va_G} {cy : Nat → ClassId} {ad : Nat → Nat} {h : Nat} {Y : MRec} {Rm : Room} {Qf : List Frame → Array Value → State → (Nat → Prop) → State → Prop} {n k pc : Nat} {L L' : List (Nat × Value)} {st : List Value} {ms : Mm}
/-- a cell comes behind the others -/
theorem wd_push {A : Nat → Prop} {H H1 : Heap} {c : Cel} {s0 : Heap} {locs : List Loc} (hW : Wd D cy A ad ms H) (hz : Sz (some h) ad ms H) (hS : va_S A s0 H locs) (hA : ∀ q, s0.size ≤ q → A q) (e1 : va_at D vwCl (H.size, cE cy ad c) H1) (z1 : H1.size = H.size + 1) (o1 : ∀ q, q < H.size → H1[q]? = H[q]?) : Wd D cy A ad (ms ++ [c]) H1 ∧ Sz (some h) ad (ms ++ [c]) H1 ∧ va_S A s0 H1 locs := by
  have ea : ad ms.length = H.size := by rw [hz.2, hz.1]
  have hk : ∀ (i : Nat) (x : Nat × va_E), (Wo cy ad ms)[i]? = some x → H1[x.1]? = H[x.1]? := fun i x hx => o1 x.1 ((hW.1 i x hx).lt)
  refine ⟨⟨?_, ?_⟩, ⟨?_, hz.2⟩, ⟨Nat.le_trans hS.1 (by omega), fun x h1 h2 => (o1 x (Nat.lt_of_lt_of_le h1 hS.1)).trans (hS.2.1 x h1 h2), hS.2.2⟩⟩
  · rw [← Wo_push, ea]
    refine (hW.1.kept hk).app (fun i x hx => ?_)
    have h0 : i < 1 := (List.getElem?_eq_some_iff.mp hx).1
    rw [show i = 0 by omega] at hx
    cases hx
    exact e1
  · rw [← Wo_push]
    exact hW.2.push hW.1 ea (by rw [ea]; exact hA _ hS.1)
  · rw [z1, hz.1, List.length_append]
    rfl
theorem g_objInit {idx i : Nat} (hd : decode Y.2.1 pc = .ok (.invokespecial idx, 3)) (hlk : Cond.methodLink Y.1.cls idx Lib.objectInit ∈ wsA) (hw : Cond.instanceMethod Lib.objectInit ∈ wsA ∧ Cond.code Lib.objectInit ⟨#[0xb1]⟩ 1 none ∈ wsA) (hf : 1 ≤ Rm.frames) (hl0 : 40 ≤ Rm.locals) (hst : (st.map fun v => v.category).sum ≤ 8) {hb : Option Nat} (kk : RunG l D cy ad hb Y Rm Qf n k (pc + 3) L st ms) : RunG l D cy ad hb Y Rm Qf n k pc L (.ref i :: st) ms := by
  intro p e s m args below meth c A C H locs ls hW hz hS hl
  have hm := lv_room (m := m) (pc := pc) (ls := ls) (rest := (Value.ref i :: st).map (cv ad)) (st := st.map (cv ad)) (by rw [cats_cv]; exact hst)
  exact W.objInit C.1 C.2.1 C.2.2.2.2.1 (C.2.2.2.2.2.1 _ hlk) (C.2.2.2.2.2.1 _ hw.1) (C.2.2.2.2.2.1 _ hw.2) rfl (hl.1.trans C.2.2.2.1.symm) rfl hd hf (by omega) (kk p e s m args below meth c A C H locs ls hW hz hS hl)
theorem g_new {idx ci : Nat} {q : vw_C} (hd : decode Y.2.1 pc = .ok (.new idx, 3)) (hq : vwCl[ci]? = some q) (hcl : Cond.classLink Y.1.cls idx q.1 ∈ wsA) (hin : Cond.instantiable q.1 q.2.2 ∈ wsA) (hini : Cond.initialized q.1 ∈ wsA) (hc : n + 1 ≤ Rm.cells) (hs : k + q.2.2 ≤ Rm.slots) (kk : RunG l D cy ad (some h) Y Rm Qf (n + 1) (k + q.2.2) (pc + 3) L (.ref ms.length :: st) (ms ++ [(ci, 0, fun _ => 0, fun _ => none)])) : RunG l D cy ad (some h) Y Rm Qf n k pc L st ms := by
  intro p e s m args below meth c A C H locs ls hW hz hS hl
  obtain ⟨t1, t2, t3, t4, t5⟩ := ctab ci q hq
  have hKn := C.2.2.2.2.2.2.2.2.1.1.1 ci q hq
  refine W.newcK C.1 C.2.1 C.2.2.2.2.1 (C.2.2.2.2.2.1 _ hcl) (C.2.2.2.2.2.1 _ hin) (C.2.2.2.2.2.1 _ hini) rfl hd hc hs hKn.2.1 rfl fun H1 kC hkC e1 z1 o1 => ?_
  have ea : ad ms.length = H.size := by rw [hz.2, hz.1]
  obtain ⟨a1, a2, a3⟩ := wd_push (c := (ci, 0, fun _ => 0, fun _ => none)) hW hz hS C.2.2.2.2.2.2.2.2.2 (by
    rw [cE_obj (c := (ci, 0, fun _ => 0, fun _ => none)) t5]
    refine ⟨q, hq, (u_born (tyF ci) C.2.2.2.2.2.1 t1 hKn hkC e1 t2).to (fun j hj => ?_)⟩
    rw [def_all ci t5 j (by rw [t4]; exact hj)]
    show _ = (flds ad (ci, 0, fun _ => 0, fun _ => none)).getD j .null
    rw [List.getD_eq_getElem?_getD, flds_get (c := (ci, 0, fun _ => 0, fun _ => none)) (by rw [t4]; exact hj)]
    rfl) z1 o1
  have kk2 := kk p e s m args below meth c A C H1 locs ls a1 a2 a3 hl
  rw [List.map_cons, show cv ad (.ref ms.length) = .ref H.size by show Value.ref (ad ms.length) = _; rw [ea]] at kk2
  exact kk2
/-- rows of numbers: kind by the type -/
def kOf : ArrayType → Nat
  | .byte => 12
  | .char => 13
  | .int => 14
  | .boolean => 15
  | _ => 99
theorem g_newa {at' : ArrayType} {N : Nat} {x : Int32} (hd : decode Y.2.1 pc = .ok (.newarray at', 2)) (hk : kOf at' < 16) (harr : Cond.arrayClass (newarray.typeOf at') ∈ wsA) (hn : ¬ x < 0) (hN : x.toNatClampNeg = N) (hb : N ≤ 1000) (hc : n + 1 ≤ Rm.cells) (hs : k + N ≤ Rm.slots) (kk : RunG l D cy ad (some h) Y Rm Qf (n + 1) (k + N) (pc + 2) L (.ref ms.length :: st) (ms ++ [(kOf at', N, fun _ => 0, fun _ => none)])) : RunG l D cy ad (some h) Y Rm Qf n k pc L (.int x :: st) ms := by
  intro p e s m args below meth c A C H locs ls hW hz hS hl
  have hK := C.2.2.2.2.2.2.2.2.1.1
  have ea : ad ms.length = H.size := by rw [hz.2, hz.1]
  refine va_newaK C.1 C.2.1 (C.2.2.2.2.2.1 _ harr) rfl hd rfl hn hN (by
    have : componentBytes (newarray.typeOf at') ≤ 8 := by cases at' <;> decide
    have := Nat.mul_le_mul hb this
    omega) hc hs rfl fun H1 cA e1 z1 o1 _ hfc => ?_
  have ecA : cA = cy (kOf at') ∧ defaultValue (newarray.typeOf at') = .int 0 := by
    cases at' <;> first | (exact absurd hk (by decide)) | skip
    · exact ⟨Option.some.inj (hfc.symm.trans (hK.2 3 _ rfl).2), rfl⟩
    · exact ⟨Option.some.inj (hfc.symm.trans (hK.2 1 _ rfl).2), rfl⟩
    · exact ⟨Option.some.inj (hfc.symm.trans (hK.2 0 _ rfl).2), rfl⟩
    · exact ⟨Option.some.inj (hfc.symm.trans (hK.2 2 _ rfl).2), rfl⟩
  have hk12 : 12 ≤ kOf at' := by cases at' <;> decide
  obtain ⟨a1, a2, a3⟩ := wd_push (c := (kOf at', N, fun _ => 0, fun _ => none)) hW hz hS C.2.2.2.2.2.2.2.2.2 (by
    rw [cE_int (c := (kOf at', N, fun _ => 0, fun _ => none)) hk12 hk]
    show H1[H.size]? = some (vp_cell (cy (kOf at')) (N, .inl (fun _ => 0)))
    rw [e1, ecA.1, ecA.2, vp_cell_i]) z1 o1
  have kk2 := kk p e s m args below meth c A C H1 locs ls a1 a2 a3 hl
  rw [List.map_cons, show cv ad (.ref ms.length) = .ref H.size by show Value.ref (ad ms.length) = _; rw [ea]] at kk2
  exact kk2
end NX8
