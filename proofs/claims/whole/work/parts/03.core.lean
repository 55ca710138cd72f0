/-! memory as a list of cells (kind, length, ints, references), its picture in the heap, runs of a method over it -/
abbrev Cel : Type := Nat × Nat × (Nat → Int32) × (Nat → Option Nat)
abbrev Mm : Type := List Cel
abbrev MRec : Type := MethodName × ByteArray × Nat × Option FieldType
def wsA : List Cond := lw_tbl.filter goodWord
def wY (Y : MRec) : List Cond := Cond.code Y.1 Y.2.1 Y.2.2.1 Y.2.2.2 :: wsA
theorem in_wsA {w : Cond} (i : Nat) (h : lw_tbl[i]? = some w) (hg : goodWord w = true) : w ∈ wsA := List.mem_filter.mpr ⟨List.mem_of_getElem? h, hg⟩
theorem good_wsA {w : Cond} (h : w ∈ wsA) : (w.onTables && w.keeps) = true ∨ ∃ ty, w = .arrayClass ty := good_of_word (List.mem_filter.mp h).2
theorem goodIn_wY {Y' : MRec} (h : Cond.code Y'.1 Y'.2.1 Y'.2.2.1 Y'.2.2.2 ∈ wsA) : GoodIn wsA (wY Y') := by
  intro w hw
  rcases List.mem_cons.mp hw with rfl | hw
  · exact ⟨h, good_wsA h⟩
  · exact ⟨hw, good_wsA hw⟩
def MOK (Y : MRec) (n : Nat) : Prop := Cond.code Y.1 Y.2.1 Y.2.2.1 Y.2.2.2 ∈ wsA ∧ Cond.initialized Y.1.cls ∈ wsA ∧ plainName Y.1.cls = true ∧ (Y.1.cls ≠ "java/lang/invoke/MethodHandle" ∧ Y.1.cls ≠ "java/lang/invoke/VarHandle" ∧ (parseMethodDescriptor Y.1.desc).map (fun d => d.parameters.length) = some n) ∧ Y.2.2.1 ≤ 20
def cv (ad : Nat → Nat) (v : Value) : Value := match v with
  | .ref i => .ref (ad i)
  | w => w
theorem cv_cat (ad : Nat → Nat) (v : Value) : (cv ad v).category = v.category := by cases v <;> rfl
theorem cv_rf (ad : Nat → Nat) (r : Option Nat) : cv ad (va_rf r) = va_rf (r.map ad) := by cases r <;> rfl
def nF : Nat → Nat := fun c => ([4, 11, 5, 13, 3, 2, 3, 8, 3, 7, 17, 61] : List Nat).getD c 0
def tyF (c k : Nat) : FieldType := match c with
  | 0 => tyX0 k
  | 1 => tyX1 k
  | 2 => tyX2 k
  | 3 => tyX3 k
  | 4 => tyX4 k
  | 5 => tyX5 k
  | 6 => tyX6 k
  | 7 => tyX7 k
  | 8 => tyX8 k
  | 9 => tyX9 k
  | 10 => tyX10 k
  | _ => tyX11 k
def isRf (c k : Nat) : Bool := match tyF c k with
  | .int => false
  | .boolean => false
  | _ => true
def flds (ad : Nat → Nat) (c : Cel) : List Value := (List.range (nF c.1)).map (fun k => if isRf c.1 k then va_rf ((c.2.2.2 k).map ad) else .int (c.2.2.1 k))
def cE (cy : Nat → ClassId) (ad : Nat → Nat) (c : Cel) : va_E :=
  if c.1 < 12 then .inr (c.1, flds ad c) else if c.1 < 16 then .inl (cy c.1, c.2.1, .inl c.2.2.1) else if c.1 = 18 then .inl (cy 18, c.2.1, .inr (.inl (fun j => (c.2.2.1 j).toInt64))) else .inl (cy c.1, c.2.1, .inr (.inr (.inr (.inr (fun j => (c.2.2.2 j).map ad)))))
def Wo (cy : Nat → ClassId) (ad : Nat → Nat) (ms : Mm) : va_W := ms.mapIdx (fun i c => (ad i, cE cy ad c))
theorem Wo_get {cy : Nat → ClassId} {ad : Nat → Nat} {ms : Mm} {i : Nat} {c : Cel} (h : ms[i]? = some c) : (Wo cy ad ms)[i]? = some (ad i, cE cy ad c) := by
  unfold Wo
  rw [List.getElem?_mapIdx, h]
  rfl
theorem Wo_set {cy : Nat → ClassId} {ad : Nat → Nat} {ms : Mm} {i : Nat} {c : Cel} : (Wo cy ad ms).set i (ad i, cE cy ad c) = Wo cy ad (ms.set i c) := by
  unfold Wo
  apply List.ext_getElem?
  intro j
  rw [List.getElem?_mapIdx, List.getElem?_set, List.getElem?_set, List.getElem?_mapIdx, List.length_mapIdx]
  by_cases h : i = j
  · subst h
    by_cases h2 : i < ms.length <;> simp [h2]
  · simp [h]
theorem Wo_push {cy : Nat → ClassId} {ad : Nat → Nat} {ms : Mm} {c : Cel} : Wo cy ad ms ++ [(ad ms.length, cE cy ad c)] = Wo cy ad (ms ++ [c]) := by
  unfold Wo
  rw [List.mapIdx_append]
  simp
def tysA (cy : Nat → ClassId) : List (ClassId × FieldType) := [(cy 12, .byte), (cy 13, .char), (cy 14, .int), (cy 15, .boolean), (cy 16, .object RX7), (cy 17, .array .int), (cy 18, .long)]
def nwA : List Cond := [.methodLinkNest RX7 50 yX10_has RX10, .methodLinkNest RX0 49 yX10_has RX10, .methodLinkNest RX5 25 yX10_has RX10, .methodLinkNest RX1 65 yX10_has RX10]
theorem nw_warm {s U : State} (hW : s.WarmedH U.vm) (h : ∀ w ∈ nwA, va_Nw w s) : ∀ w ∈ nwA, va_Nw w U := by
  intro w hw
  have h1 := h w hw
  simp only [nwA, List.mem_cons, List.not_mem_nil, or_false] at hw
  rcases hw with rfl | rfl | rfl | rfl <;> exact va_Nw.warmM hW h1
theorem nw_same {u U : State} (e : u.vm = U.vm) (h : ∀ w ∈ nwA, va_Nw w u) : ∀ w ∈ nwA, va_Nw w U := by
  intro w hw
  have h1 := h w hw
  simp only [nwA, List.mem_cons, List.not_mem_nil, or_false] at hw
  rcases hw with rfl | rfl | rfl | rfl <;> exact va_Nw.same rfl e h1
/-- the class of rows of rows of numbers stays made -/
def va_RR (U : State) : Prop := (Cond.arrayOver (.array .int)).before #[] U = true
theorem va_RR.moved {u U : State} (hvm : u.vm.Alike U.vm) (h : va_RR u) : va_RR U := by
  unfold va_RR Cond.before Cond.holds at h
  simp only [Cond.value, beq_iff_eq] at h
  cases hc : u.vm.findClass (FieldType.array .int).toString with
  | none => simp [hc] at h
  | some comp =>
    simp only [hc, Option.bind_some, Option.bind_eq_some_iff, Option.map_eq_some_iff] at h
    obtain ⟨c, hi, k, hk, hb⟩ := h
    obtain ⟨k', hk', he⟩ := hvm.2.2 _ _ hk
    have hi2 : (U.vm.classes.findIdx? fun (x : Class) => match x.kind with | .array component _ => component == comp | _ => false) = some c := by
      have e0 : U.vm.bare = u.vm.bare := by first | exact hvm.bare_eq | exact hvm.bare_eq.symm
      have e1 := va_idx_bare U.vm comp
      have e2 := va_idx_bare u.vm comp
      rw [e0] at e1
      exact (e1.symm.trans e2).trans hi
    have f1 : U.vm.findClass (FieldType.array .int).toString = some comp := by rw [hvm.findClass]; exact hc
    cases hkind : k.kind with
    | array component ty =>
      rw [hkind] at hb
      simp at hb
      have hk3 : k'.kind = .array component ty := by rw [he]; exact hkind
      have f2 : U.vm.findClass ("[" ++ (FieldType.array .int).toString) = some c := by rw [hvm.findClass]; exact hb.2
      unfold va_RR Cond.before Cond.holds
      simp only [Cond.value]
      rw [f1, Option.bind_some]
      refine (congrArg (fun o : Option Nat => (o.bind (fun c => (U.vm.classes[c]?).map fun (k : Class) => match k.kind with | .array _ ty => decide (ty = FieldType.array .int) && decide (U.vm.findClass ("[" ++ (FieldType.array .int).toString) = some c) | _ => false) == some true)) hi2).trans ?_
      simp [hk', hk3, f2, hb.1]
    | _ => rw [hkind] at hb; simp at hb
def Kx (D : va_G) (cy : Nat → ClassId) (U : State) : Prop := va_K D vwCl (tysA cy) U ∧ (∀ w ∈ nwA, va_Nw w U) ∧ va_AO RX7 U ∧ va_RR U
theorem Kx.warm {D : va_G} {cy : Nat → ClassId} {s U : State} (hW : s.WarmedH U.vm) (h : Kx D cy s) : Kx D cy U := ⟨va_K.moved hW.alike h.1, nw_warm hW h.2.1, va_AO.moved hW.alike h.2.2.1, va_RR.moved hW.alike h.2.2.2⟩
def Wd (D : va_G) (cy : Nat → ClassId) (A : Nat → Prop) (ad : Nat → Nat) (ms : Mm) (H : Heap) : Prop := va_P D vwCl (Wo cy ad ms) H ∧ va_D A (Wo cy ad ms)
/-- where cells are made: the addresses go up one by one from hb; none: no cell is made -/
def Sz (hb : Option Nat) (ad : Nat → Nat) (ms : Mm) (H : Heap) : Prop := match hb with
  | none => True
  | some h => H.size = h + ms.length ∧ ∀ i, ad i = h + i
def rmD (d k n : Nat) : Room := { frames := d, cells := k, slots := n, locals := 40 * d }
def Cx (D : va_G) (cy : Nat → ClassId) (Y : MRec) (p : Program) (s : State) (m : MethodId) (args : Array Value) (meth : Method) (c : Code) (A : Nat → Prop) : Prop :=
  p.tables.exec = Jvm.exec ∧ c.code = Y.2.1 ∧ meth.sig.returnType = Y.2.2.2 ∧ c.maxLocals = Y.2.2.1 ∧ s.vm.findClass Y.1.cls = some m.cls ∧ (∀ w ∈ wsA, w.before args s = true) ∧ (meth.locks = false ∧ ∀ x ∈ c.exceptionTable.toList, False) ∧ meth.name = Y.1.name ∧ Kx D cy s ∧ ∀ q, s.heap.size ≤ q → A q
def Qm (D : va_G) (cy : Nat → ClassId) (ad : Nat → Nat) (hb : Option Nat) (A : Nat → Prop) (r : Option Value) (ms' : Mm) : Array Value → State → Outcome → State → Prop := fun _ st oc t =>
  (oc = .returned (r.map (cv ad)) ∧ Wd D cy A ad ms' t.heap ∧ Sz hb ad ms' t.heap) ∧ va_F A st t
def lcv (ad : Nat → Nat) (L : List (Nat × Value)) : List (Nat × Value) := L.map (fun q => (q.1, cv ad q.2))
def RunG (l : Launch) (D : va_G) (cy : Nat → ClassId) (ad : Nat → Nat) (hb : Option Nat) (Y : MRec) (Rm : Room) (Qf : List Frame → Array Value → State → (Nat → Prop) → State → Prop) (n k pc : Nat) (L : List (Nat × Value)) (st : List Value) (ms : Mm) : Prop :=
  ∀ (p : Program) (e : Env) (s : State) (m : MethodId) (args : Array Value) (below : List Frame) (meth : Method) (c : Code) (A : Nat → Prop), Cx D cy Y p s m args meth c A → ∀ (H : Heap) (locs : List Loc) (ls : Array Slot), Wd D cy A ad ms H → Sz hb ad ms H → va_S A s.heap H locs → lv_has ls Y.2.2.1 (lcv ad L) →
    W p l e Rm s m args below meth c H locs n k (Qf below args s A) (F0 m pc ls (st.map (cv ad)))
abbrev RunF (l : Launch) (D : va_G) (cy : Nat → ClassId) (ad : Nat → Nat) (hb : Option Nat) (Y : MRec) (d cc cs : Nat) (r : Option Value) (ms' : Mm) (n k pc : Nat) (L : List (Nat × Value)) (st : List Value) (ms : Mm) : Prop :=
  RunG l D cy ad hb Y (rmD d cc cs) (fun below args s A => MQ below (Qm D cy ad hb A r ms') args s cc cs A) n k pc L st ms
def Run (l : Launch) (D : va_G) (cy : Nat → ClassId) (ad : Nat → Nat) (hb : Option Nat) (Y : MRec) (d cc cs : Nat) (as : List Value) (ms : Mm) (r : Option Value) (ms' : Mm) : Prop :=
  ∀ sz : Nat, Met l Y.1 (wY Y) (rmD d cc cs) (va_Pc (as.map (cv ad)) (fun U => U.heap.size = sz ∧ Wd D cy (fun _ => True) ad ms U.heap ∧ Sz hb ad ms U.heap ∧ Kx D cy U)) (Qm D cy ad hb (va_A (Wo cy ad ms) sz) r ms') cc cs (va_A (Wo cy ad ms) sz)
theorem lcv_args (ad : Nat → Nat) : ∀ (vs : List Value) (i : Nat), lv_args i (vs.map (cv ad)) = lcv ad (lv_args i vs)
  | [], _ => rfl
  | v :: vs, i => by
    show (i, cv ad v) :: lv_args (if (cv ad v).category = 2 then i + 2 else i + 1) (vs.map (cv ad)) = (i, cv ad v) :: lcv ad (lv_args (if v.category = 2 then i + 2 else i + 1) vs)
    rw [cv_cat, lcv_args ad vs]
theorem lg_sl_cv (ad : Nat → Nat) : ∀ vs : List Value, (lg_sl (vs.map (cv ad))).length = (lg_sl vs).length
  | [] => rfl
  | v :: vs => by
    have h := lg_sl_cv ad vs
    simp only [lg_sl, List.map_cons, List.flatMap_cons, List.length_append, cv_cat] at h ⊢
    rw [h]
    split <;> rfl
section NX0
variable {l : Launch} {D : va_G} {cy : Nat → ClassId} {ad : Nat → Nat} {hb : Option Nat} {Y : MRec} {d cc cs : Nat} {r : Option Value} {ms' : Mm} {n k pc : Nat} {L L' : List (Nat × Value)} {st : List Value} {ms : Mm}
/-- a method's run out of the run of its frame -/
theorem Run.of {as : List Value} (np : Nat) (hok : MOK Y np) (hl : (lg_sl as).length ≤ Y.2.2.1) (h : RunF l D cy ad hb Y d cc cs r ms' 0 0 0 (lv_args 0 as) [] ms) : Run l D cy ad hb Y d cc cs as ms r ms' := by
  intro sz
  refine Met.ofW (cc := Y.2.1) (maxL := Y.2.2.1) (ret := Y.2.2.2) (ws' := wsA) hok.2.2.1 rfl ?_
  intro p e s m args below meth c s₁ B hml hv
  obtain ⟨rfl, hsz, hW, hz, hK⟩ := hv
  subst hsz
  have hl2 := lv_entry (as.map (cv ad)) (n := Y.2.2.1) (by rw [lg_sl_cv]; exact hl)
  rw [lg_entry_eq]
  rw [lcv_args] at hl2
  have ht : ∀ x ∈ c.exceptionTable.toList, False := by
    obtain ⟨meth9, c9, h1, h2, -, -, -, -, h7, -⟩ := Cond.code_spec B.named (atoms_spec (ws := wY Y) B.pre _ List.mem_cons_self)
    cases Option.some.inj (h1.symm.trans B.method)
    cases Option.some.inj (h2.symm.trans (Stand.of_body B).code)
    intro x hx
    rw [Array.isEmpty_iff.mp h7] at hx
    cases hx
  exact h p e s m _ below meth c (va_A (Wo cy ad ms) s.heap.size) ⟨B.exec, B.bytes, B.returns, hml, findClass_of_methodNamed B.named, (fun w hw => atoms_spec (ws := wY Y) B.pre w (List.mem_cons_of_mem _ hw)), ⟨B.notSynchronized, ht⟩, (name_of_methodNamed B.named B.method).1, hK, fun q h => Or.inr h⟩ s.heap [] _ ⟨hW.1, hW.2.self⟩ hz va_S.rf hl2
end NX0
section NX1
variable {l : Launch} {D : va_G} {cy : Nat → ClassId} {ad : Nat → Nat} {hb : Option Nat} {Y : MRec} {Rm : Room} {Qf : List Frame → Array Value → State → (Nat → Prop) → State → Prop} {n k pc : Nat} {L L' : List (Nat × Value)} {st : List Value} {ms : Mm}
theorem lhat {ls : Array Slot} {nL : Nat} (h : lv_has ls nL (lcv ad L)) {j i : Nat} {v : Value} (hk : L[j]? = some (i, v)) : ls[i]? = some (.val (cv ad v)) := lv_at h j (by rw [lcv, List.getElem?_map, hk]; rfl)
def stL (i : Nat) (v : Value) (L : List (Nat × Value)) : List (Nat × Value) := (i, v) :: L.filter (fun q => !(q.1 == i) && !(q.1 + 1 == i && q.2.category == 2))
theorem stL_cv {i : Nat} {v : Value} (hl : stL i v L = L') : (i, cv ad v) :: (lcv ad L).filter (fun q => !(q.1 == i) && !(q.1 + 1 == i && q.2.category == 2)) = lcv ad L' := by
  subst hl
  unfold stL lcv
  rw [List.filter_map, List.map_cons]
  congr 2
  apply List.filter_congr
  intro q _
  simp [cv_cat]
/-- fewer locals -/
theorem g_loc (ks : List Nat) (hp : lv_pick L ks = L') (kk : RunG l D cy ad hb Y Rm Qf n k pc L' st ms) : RunG l D cy ad hb Y Rm Qf n k pc L st ms := by
  intro p e s m args below meth c A C H locs ls hW hz hS hl
  refine kk p e s m args below meth c A C H locs ls hW hz hS ⟨hl.1, hl.2.1, fun q hq => ?_⟩
  obtain ⟨q0, h0, rfl⟩ := List.mem_map.mp hq
  have : q0 ∈ L := by
    subst hp
    unfold lv_pick at h0
    obtain ⟨i, -, hi⟩ := List.mem_filterMap.mp h0
    exact List.mem_of_getElem? hi
  exact hl.2.2 _ (List.mem_map.mpr ⟨q0, this, rfl⟩)
theorem g_iconst {n' : Int} {v : Int32} (hd : decode Y.2.1 pc = .ok (.iconst n', 1)) (hv : Int32.ofInt n' = v) (kk : RunG l D cy ad hb Y Rm Qf n k (pc + 1) L (.int v :: st) ms) : RunG l D cy ad hb Y Rm Qf n k pc L st ms :=
  fun p e s m args below meth c A C H locs ls hW hz hS hl => lv_iconst C.1 C.2.1 hd hv (kk p e s m args below meth c A C H locs ls hW hz hS hl)
theorem g_bipush {n' : Int} {v : Int32} (hd : decode Y.2.1 pc = .ok (.bipush n', 2)) (hv : (Int8.ofInt n').toInt32 = v) (kk : RunG l D cy ad hb Y Rm Qf n k (pc + 2) L (.int v :: st) ms) : RunG l D cy ad hb Y Rm Qf n k pc L st ms :=
  fun p e s m args below meth c A C H locs ls hW hz hS hl => lv_bipush C.1 C.2.1 hd hv (kk p e s m args below meth c A C H locs ls hW hz hS hl)
theorem g_sipush {n' : Int} {v : Int32} (hd : decode Y.2.1 pc = .ok (.sipush n', 3)) (hv : (Int16.ofInt n').toInt32 = v) (kk : RunG l D cy ad hb Y Rm Qf n k (pc + 3) L (.int v :: st) ms) : RunG l D cy ad hb Y Rm Qf n k pc L st ms :=
  fun p e s m args below meth c A C H locs ls hW hz hS hl => lv_sipush C.1 C.2.1 hd hv (kk p e s m args below meth c A C H locs ls hW hz hS hl)
theorem g_ldc {i : Nat} {v : Int32} (hd : decode Y.2.1 pc = .ok (.ldc i, 2)) (hw : Cond.constant Y.1.cls i v ∈ wsA) (kk : RunG l D cy ad hb Y Rm Qf n k (pc + 2) L (.int v :: st) ms) : RunG l D cy ad hb Y Rm Qf n k pc L st ms :=
  fun p e s m args below meth c A C H locs ls hW hz hS hl => lv_ldc C.1 C.2.1 C.2.2.2.2.1 (C.2.2.2.2.2.1 _ hw) hd (kk p e s m args below meth c A C H locs ls hW hz hS hl)
theorem g_ldcw {i : Nat} {v : Int32} (hd : decode Y.2.1 pc = .ok (.ldc_w i, 3)) (hw : Cond.constant Y.1.cls i v ∈ wsA) (kk : RunG l D cy ad hb Y Rm Qf n k (pc + 3) L (.int v :: st) ms) : RunG l D cy ad hb Y Rm Qf n k pc L st ms :=
  fun p e s m args below meth c A C H locs ls hW hz hS hl => lv_ldcw C.1 C.2.1 C.2.2.2.2.1 (C.2.2.2.2.2.1 _ hw) hd (kk p e s m args below meth c A C H locs ls hW hz hS hl)
theorem g_iload_n {q : Fin 4} {x : Int32} (j : Nat) (hd : decode Y.2.1 pc = .ok (.iload_n q, 1)) (hk : L[j]? = some ((q : Nat), .int x)) (kk : RunG l D cy ad hb Y Rm Qf n k (pc + 1) L (.int x :: st) ms) : RunG l D cy ad hb Y Rm Qf n k pc L st ms :=
  fun p e s m args below meth c A C H locs ls hW hz hS hl => lv_iload_n C.1 C.2.1 hd rfl (lhat hl hk) (kk p e s m args below meth c A C H locs ls hW hz hS hl)
theorem g_iload {i : Nat} {x : Int32} (j : Nat) (hd : decode Y.2.1 pc = .ok (.iload i, 2)) (hk : L[j]? = some (i, .int x)) (kk : RunG l D cy ad hb Y Rm Qf n k (pc + 2) L (.int x :: st) ms) : RunG l D cy ad hb Y Rm Qf n k pc L st ms :=
  fun p e s m args below meth c A C H locs ls hW hz hS hl => lv_iload C.1 C.2.1 hd (lhat hl hk) (kk p e s m args below meth c A C H locs ls hW hz hS hl)
theorem g_aload_n {q : Fin 4} {x : Nat} (j : Nat) (hd : decode Y.2.1 pc = .ok (.aload_n q, 1)) (hk : L[j]? = some ((q : Nat), .ref x)) (kk : RunG l D cy ad hb Y Rm Qf n k (pc + 1) L (.ref x :: st) ms) : RunG l D cy ad hb Y Rm Qf n k pc L st ms :=
  fun p e s m args below meth c A C H locs ls hW hz hS hl => lv_aload_n C.1 C.2.1 hd rfl (lhat hl hk) (kk p e s m args below meth c A C H locs ls hW hz hS hl)
theorem g_istore_n {q : Fin 4} {x : Int32} (hd : decode Y.2.1 pc = .ok (.istore_n q, 1)) (hn : (q : Nat) < Y.2.2.1) (he : stL (q : Nat) (.int x) L = L') (kk : RunG l D cy ad hb Y Rm Qf n k (pc + 1) L' st ms) : RunG l D cy ad hb Y Rm Qf n k pc L (.int x :: st) ms :=
  fun p e s m args below meth c A C H locs ls hW hz hS hl => lv_istore_n C.1 C.2.1 hd rfl hl hn (stL_cv he) (fun ls' hl' => kk p e s m args below meth c A C H locs ls' hW hz hS hl')
theorem g_istore {i : Nat} {x : Int32} (hd : decode Y.2.1 pc = .ok (.istore i, 2)) (hn : i < Y.2.2.1) (he : stL i (.int x) L = L') (kk : RunG l D cy ad hb Y Rm Qf n k (pc + 2) L' st ms) : RunG l D cy ad hb Y Rm Qf n k pc L (.int x :: st) ms :=
  fun p e s m args below meth c A C H locs ls hW hz hS hl => lv_istore C.1 C.2.1 hd hl hn (stL_cv he) (fun ls' hl' => kk p e s m args below meth c A C H locs ls' hW hz hS hl')
theorem g_iinc {i j : Nat} {n' : Int} {x v : Int32} (hd : decode Y.2.1 pc = .ok (.iinc i n', 3)) (hk : L[j]? = some (i, .int x)) (hv : x + Int32.ofInt n' = v) (hn : i < Y.2.2.1) (he : stL i (.int v) L = L') (kk : RunG l D cy ad hb Y Rm Qf n k (pc + 3) L' st ms) : RunG l D cy ad hb Y Rm Qf n k pc L st ms :=
  fun p e s m args below meth c A C H locs ls hW hz hS hl => lv_iinc C.1 C.2.1 hd hl (k := j) (by rw [lcv, List.getElem?_map, hk]; rfl) hv hn (stL_cv he) (fun ls' hl' => kk p e s m args below meth c A C H locs ls' hW hz hS hl')
end NX1
