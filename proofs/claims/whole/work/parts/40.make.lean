/-! rules that make cells: the addresses go up one by one (hb = some h) -/
theorem def_all : ∀ ci, ci < 12 → ∀ j, j < nF ci → defaultValue (tyF ci j) = if isRf ci j then .null else .int 0 := by decide +kernel
theorem vr_outer (c : ClassId) (N h0 : Nat) : ∀ i : Nat, Jvm.Free.Multi.outerC c N h0 i = arrV c N (fun j => va_rf (if j < i then some (h0 + 1 + j) else none))
  | 0 => by
    show ({ cls := c, slots := Array.replicate N .null, vm := .none } : Cell) = _
    rw [arrV_new]
    refine congrArg (arrV c N) (funext fun j => ?_)
    simp [va_rf]
  | i + 1 => by
    show (Jvm.Free.Multi.outerC c N h0 i).setSlot i (.ref (h0 + 1 + i)) = _
    rw [vr_outer c N h0 i, arrV_store]
    refine congrArg (arrV c N) (funext fun j => ?_)
    by_cases e : j = i
    · subst e
      simp [updV, va_rf]
    · by_cases h : j < i
      · simp [updV, e, h, Nat.lt_succ_of_lt h]
      · simp [updV, e, h, show ¬ j < i + 1 by omega]
section NX8
variable {l : Launch} {D : va_G} {cy : Nat → ClassId} {ad : Nat → Nat} {h : Nat} {Y : MRec} {Rm : Room} {Qf : List Frame → Array Value → State → (Nat → Prop) → State → Prop} {n k pc : Nat} {L L' : List (Nat × Value)} {st : List Value} {ms : Mm}
/-- a cell comes behind the others -/
theorem wd_push {A : Nat → Prop} {H H1 : Heap} {c : Cel} {s0 : Heap} {locs : List Loc} (hW : Wd D cy A ad ms H) (hz : Sz (some h) ad ms H) (hS : va_S A s0 H locs) (hA : ∀ q, s0.size ≤ q → A q) (e1 : va_at D vwCl (H.size, cE cy ad c) H1) (z1 : H1.size = H.size + 1) (o1 : ∀ q, q < H.size → H1[q]? = H[q]?) : Wd D cy A ad (ms ++ [c]) H1 ∧ Sz (some h) ad (ms ++ [c]) H1 ∧ va_S A s0 H1 locs := by
  have ea : ad ms.length = H.size := by rw [hz.2, hz.1]
  have hk : ∀ (i : Nat) (x : Nat × va_E), (Wo cy ad ms)[i]? = some x → H1[x.1]? = H[x.1]? := fun i x hx => o1 x.1 ((hW.1 i x hx).lt)
  refine ⟨⟨?_, ?_⟩, ⟨?_, hz.2⟩, ⟨Nat.le_trans hS.1 (by omega), fun x h1 h2 => (o1 x (Nat.lt_of_lt_of_le h1 hS.1)).trans (hS.2.1 x h1 h2), hS.2.2⟩⟩
  · rw [← Wo_push, ea]
    refine (hW.1.kept hk).app (fun i x hx => ?_)
    have h0 : i < 1 := (List.getElem?_eq_some_iff.mp hx).1
    rw [show i = 0 by omega] at hx
    cases hx
    exact e1
  · rw [← Wo_push]
    exact hW.2.push hW.1 ea (by rw [ea]; exact hA _ hS.1)
  · rw [z1, hz.1, List.length_append]
    rfl
theorem g_objInit {idx i : Nat} (hd : decode Y.2.1 pc = .ok (.invokespecial idx, 3)) (hlk : Cond.methodLink Y.1.cls idx Lib.objectInit ∈ wsA) (hw : Cond.instanceMethod Lib.objectInit ∈ wsA ∧ Cond.code Lib.objectInit ⟨#[0xb1]⟩ 1 none ∈ wsA) (hf : 1 ≤ Rm.frames) (hl0 : 40 ≤ Rm.locals) (hst : (st.map fun v => v.category).sum ≤ 8) {hb : Option Nat} (kk : RunG l D cy ad hb Y Rm Qf n k (pc + 3) L st ms) : RunG l D cy ad hb Y Rm Qf n k pc L (.ref i :: st) ms := by
  intro p e s m args below meth c A C H locs ls hW hz hS hl
  have hm := lv_room (m := m) (pc := pc) (ls := ls) (rest := (Value.ref i :: st).map (cv ad)) (st := st.map (cv ad)) (by rw [cats_cv]; exact hst)
  exact W.objInit C.1 C.2.1 C.2.2.2.2.1 (C.2.2.2.2.2.1 _ hlk) (C.2.2.2.2.2.1 _ hw.1) (C.2.2.2.2.2.1 _ hw.2) rfl (hl.1.trans C.2.2.2.1.symm) rfl hd hf (by omega) (kk p e s m args below meth c A C H locs ls hW hz hS hl)
theorem g_new {idx ci : Nat} {q : vw_C} (hd : decode Y.2.1 pc = .ok (.new idx, 3)) (hq : vwCl[ci]? = some q) (hcl : Cond.classLink Y.1.cls idx q.1 ∈ wsA) (hin : Cond.instantiable q.1 q.2.2 ∈ wsA) (hini : Cond.initialized q.1 ∈ wsA) (hc : n + 1 ≤ Rm.cells) (hs : k + q.2.2 ≤ Rm.slots) (kk : RunG l D cy ad (some h) Y Rm Qf (n + 1) (k + q.2.2) (pc + 3) L (.ref ms.length :: st) (ms ++ [(ci, 0, fun _ => 0, fun _ => none)])) : RunG l D cy ad (some h) Y Rm Qf n k pc L st ms := by
  intro p e s m args below meth c A C H locs ls hW hz hS hl
  obtain ⟨t1, t2, t3, t4, t5⟩ := ctab ci q hq
  have hKn := C.2.2.2.2.2.2.2.2.1.1.1 ci q hq
  refine W.newcK C.1 C.2.1 C.2.2.2.2.1 (C.2.2.2.2.2.1 _ hcl) (C.2.2.2.2.2.1 _ hin) (C.2.2.2.2.2.1 _ hini) rfl hd hc hs hKn.2.1 rfl fun H1 kC hkC e1 z1 o1 => ?_
  have ea : ad ms.length = H.size := by rw [hz.2, hz.1]
  obtain ⟨a1, a2, a3⟩ := wd_push (c := (ci, 0, fun _ => 0, fun _ => none)) hW hz hS C.2.2.2.2.2.2.2.2.2 (by
    rw [cE_obj (c := (ci, 0, fun _ => 0, fun _ => none)) t5]
    refine ⟨q, hq, (u_born (tyF ci) C.2.2.2.2.2.1 t1 hKn hkC e1 t2).to (fun j hj => ?_)⟩
    rw [def_all ci t5 j (by rw [t4]; exact hj)]
    show _ = (flds ad (ci, 0, fun _ => 0, fun _ => none)).getD j .null
    rw [List.getD_eq_getElem?_getD, flds_get (c := (ci, 0, fun _ => 0, fun _ => none)) (by rw [t4]; exact hj)]
    rfl) z1 o1
  have kk2 := kk p e s m args below meth c A C H1 locs ls a1 a2 a3 hl
  rw [List.map_cons, show cv ad (.ref ms.length) = .ref H.size by show Value.ref (ad ms.length) = _; rw [ea]] at kk2
  exact kk2
/-- rows of numbers: kind by the type -/
def kOf : ArrayType → Nat
  | .byte => 12
  | .char => 13
  | .int => 14
  | .boolean => 15
  | _ => 99
theorem g_newa {at' : ArrayType} {N : Nat} {x : Int32} (hd : decode Y.2.1 pc = .ok (.newarray at', 2)) (hk : kOf at' < 16) (harr : Cond.arrayClass (newarray.typeOf at') ∈ wsA) (hn : ¬ x < 0) (hN : x.toNatClampNeg = N) (hb : N ≤ 1000) (hc : n + 1 ≤ Rm.cells) (hs : k + N ≤ Rm.slots) (kk : RunG l D cy ad (some h) Y Rm Qf (n + 1) (k + N) (pc + 2) L (.ref ms.length :: st) (ms ++ [(kOf at', N, fun _ => 0, fun _ => none)])) : RunG l D cy ad (some h) Y Rm Qf n k pc L (.int x :: st) ms := by
  intro p e s m args below meth c A C H locs ls hW hz hS hl
  have hK := C.2.2.2.2.2.2.2.2.1.1
  have ea : ad ms.length = H.size := by rw [hz.2, hz.1]
  refine va_newaK C.1 C.2.1 (C.2.2.2.2.2.1 _ harr) rfl hd rfl hn hN (by
    have : componentBytes (newarray.typeOf at') ≤ 8 := by cases at' <;> decide
    have := Nat.mul_le_mul hb this
    omega) hc hs rfl fun H1 cA e1 z1 o1 _ hfc => ?_
  have ecA : cA = cy (kOf at') ∧ defaultValue (newarray.typeOf at') = .int 0 := by
    cases at' <;> first | (exact absurd hk (by decide)) | skip
    · exact ⟨Option.some.inj (hfc.symm.trans (hK.2 3 _ rfl).2), rfl⟩
    · exact ⟨Option.some.inj (hfc.symm.trans (hK.2 1 _ rfl).2), rfl⟩
    · exact ⟨Option.some.inj (hfc.symm.trans (hK.2 0 _ rfl).2), rfl⟩
    · exact ⟨Option.some.inj (hfc.symm.trans (hK.2 2 _ rfl).2), rfl⟩
  have hk12 : 12 ≤ kOf at' := by cases at' <;> decide
  obtain ⟨a1, a2, a3⟩ := wd_push (c := (kOf at', N, fun _ => 0, fun _ => none)) hW hz hS C.2.2.2.2.2.2.2.2.2 (by
    rw [cE_int (c := (kOf at', N, fun _ => 0, fun _ => none)) hk12 hk]
    show H1[H.size]? = some (vp_cell (cy (kOf at')) (N, .inl (fun _ => 0)))
    rw [e1, ecA.1, ecA.2, vp_cell_i]) z1 o1
  have kk2 := kk p e s m args below meth c A C H1 locs ls a1 a2 a3 hl
  rw [List.map_cons, show cv ad (.ref ms.length) = .ref H.size by show Value.ref (ad ms.length) = _; rw [ea]] at kk2
  exact kk2
/-- a row of states -/
theorem g_newS {idx N : Nat} {x : Int32} (hd : decode Y.2.1 pc = .ok (.anewarray idx, 3)) (hcl : Cond.classLink Y.1.cls idx RX7 ∈ wsA) (hn : ¬ x < 0) (hN : x.toNatClampNeg = N) (hb : N ≤ 1000) (hc : n + 1 ≤ Rm.cells) (hs : k + N ≤ Rm.slots) (kk : RunG l D cy ad (some h) Y Rm Qf (n + 1) (k + N) (pc + 3) L (.ref ms.length :: st) (ms ++ [(16, N, fun _ => 0, fun _ => none)])) : RunG l D cy ad (some h) Y Rm Qf n k pc L (.int x :: st) ms := by
  intro p e s m args below meth c A C H locs ls hW hz hS hl
  subst hN
  have hK := C.2.2.2.2.2.2.2.2.1.1
  have ea : ad ms.length = H.size := by rw [hz.2, hz.1]
  refine W.anew C.1 C.2.1 C.2.2.2.2.1 (C.2.2.2.2.2.1 _ hcl) (va_AO.use C.2.2.2.2.2.2.2.2.1.2.2.1) rfl hd rfl hn (by omega) hc hs fun cA kA comp f1 f2 f3 f4 => ?_
  generalize hH1 : H.push ({ cls := cA, slots := Array.replicate x.toNatClampNeg .null, vm := .none } : Cell) = H1
  have z1 : H1.size = H.size + 1 := by rw [← hH1, Array.size_push]
  have e1 : H1[H.size]? = some (arrV cA x.toNatClampNeg (fun _ => .null)) := by rw [← hH1, Array.getElem?_push_size, ← arrV_new]
  have o1 : ∀ q, q < H.size → H1[q]? = H[q]? := fun q hq => by rw [← hH1, Array.getElem?_push_lt hq, Array.getElem?_eq_getElem hq]
  obtain ⟨kA2, comp2, g1, g2, g3, g4⟩ := (hK.2 4 _ rfl).2
  have ecA : cA = cy 16 := Option.some.inj (f1.symm.trans g4)
  obtain ⟨a1, a2, a3⟩ := wd_push (c := (16, x.toNatClampNeg, fun _ => 0, fun _ => none)) hW hz hS C.2.2.2.2.2.2.2.2.2 (by
    rw [cE_ref (c := (16, x.toNatClampNeg, fun _ => 0, fun _ => none)) (Nat.le_refl 16) (show 16 < 18 by decide)]
    show H1[H.size]? = some (vp_cell (cy 16) (x.toNatClampNeg, .inr (.inr (.inr (.inr (fun _ => none))))))
    rw [e1, ecA, vp_cell_q]
    rfl) z1 o1
  have kk2 := kk p e s m args below meth c A C H1 locs ls a1 a2 a3 hl
  rw [List.map_cons, show cv ad (.ref ms.length) = .ref H.size by show Value.ref (ad ms.length) = _; rw [ea]] at kk2
  exact kk2
/-- a state into a row of states -/
theorem g_aastS {i v : Nat} {j : Int32} {c cvl : Cel} {hb : Option Nat} (hd : decode Y.2.1 pc = .ok (.aastore, 1)) (hc : ms[i]? = some c) (hci : c.1 = 16) (hv : ms[v]? = some cvl) (hcv : cvl.1 = 7) (h1 : 0 ≤ j) (h2 : j.toNatClampNeg < c.2.1) (kk : RunG l D cy ad hb Y Rm Qf n k (pc + 1) L st (ms.set i (c.1, c.2.1, c.2.2.1, va_up c.2.2.2 j.toNatClampNeg (some v)))) : RunG l D cy ad hb Y Rm Qf n k pc L (.ref v :: .int j :: .ref i :: st) ms := by
  intro p e s m args below meth cd A C H locs ls hW hz hS hl
  have hK := C.2.2.2.2.2.2.2.2.1.1
  have ha : (Wo cy ad ms)[i]? = some (ad i, .inl (cy 16, c.2.1, .inr (.inr (.inr (.inr (fun j => (c.2.2.2 j).map ad)))))) := by rw [Wo_get hc, cE_ref (by omega) (by omega), hci]
  have hvv : (Wo cy ad ms)[v]? = some (ad v, .inr (7, flds ad cvl)) := by rw [Wo_get hv, cE_obj (by omega), hcv]
  have hq7 : vwCl[7]? = some (RX7, TX7, 8) := rfl
  obtain ⟨r', hr', cellV, g1, g2, g3, -⟩ := hW.1 v _ hvv
  have hcls := (hK.1 7 _ hq7).2
  obtain ⟨kA, comp, k1, k2, k3, -⟩ := (hK.2 4 _ rfl).2
  have hcomp : comp = D.1 7 := Option.some.inj (k3.symm.trans hcls.1)
  subst hcomp
  obtain ⟨kC, hkC, -⟩ := hcls.2
  refine W.aast C.1 C.2.1 (hW.1 i _ ha) (fun q h => by cases h) (fun h => by cases h) k1 k2 rfl hkC ⟨Int32.not_lt.mpr h1, by show _ < (arrV _ _ _).slots.size; rw [arrV_size]; exact h2⟩ g1 (fun q h => by rw [g3] at h; cases h) (by rw [g2]; exact hkC) (by rw [g2]; exact va_assign hcls) rfl rfl hd fun H1 e1 ez oq => ?_
  have e2 : H1[ad i]? = some (vp_cell (cy 16) (c.2.1, .inr (.inr (.inr (.inr (fun q => (va_up c.2.2.2 j.toNatClampNeg (some v) q).map ad)))))) := by
    rw [e1, vp_cell_q, vp_cell_q, arrV_store]
    congr 2
    funext q
    by_cases hq : q = j.toNatClampNeg
    · subst hq
      simp [updV, va_up, va_rf]
    · simp [updV, va_up, hq]
  have e3 : ((ad i, Sum.inl (cy 16, c.2.1, .inr (.inr (.inr (.inr (fun q => (va_up c.2.2.2 j.toNatClampNeg (some v) q).map ad)))))) : Nat × va_E) = (ad i, cE cy ad (c.1, c.2.1, c.2.2.1, va_up c.2.2.2 j.toNatClampNeg (some v))) := by rw [cE_ref (c := (c.1, c.2.1, c.2.2.1, va_up c.2.2.2 j.toNatClampNeg (some v))) (by show 16 ≤ c.1; omega) (by show c.1 < 18; omega)]; show _ = (ad i, Sum.inl (cy c.1, _)); rw [hci]
  have hP1 := hW.1.set hW.2 ha (e := .inl (cy 16, c.2.1, .inr (.inr (.inr (.inr (fun q => (va_up c.2.2.2 j.toNatClampNeg (some v) q).map ad)))))) e2 oq
  have hD1 := hW.2.set ha (e := .inl (cy 16, c.2.1, .inr (.inr (.inr (.inr (fun q => (va_up c.2.2.2 j.toNatClampNeg (some v) q).map ad))))))
  rw [e3, Wo_set] at hP1 hD1
  exact kk p e s m args below meth cd A C H1 _ ls ⟨hP1, hD1⟩ (Sz_set hz ez) (hS.put ez oq (hW.2.2 i _ ha)) hl
/-- a reference into a final field, in the constructor of its own class -/
theorem g_putRF {idx ci f i : Nat} {c : Cel} {v : Nat} {hb : Option Nat} (hd : decode Y.2.1 pc = .ok (.putfield idx, 3)) (hf : FLk Y.1.cls idx ci f) (hr : isRf ci f = true) (hty : ∀ a, narrow (tyF ci f) (.ref a) = .ref a ∧ fits (tyF ci f) (.ref a) = true) (hfi : isFi ci f = true) (hnm : Y.1.name = "<init>") (hdc : ∃ q : vw_C, vwCl[ci]? = some q ∧ (q.2.1 f).1 = Y.1.cls) (hc : ms[i]? = some c) (hci : c.1 = ci) (kk : RunG l D cy ad hb Y Rm Qf n k (pc + 3) L st (ms.set i (c.1, c.2.1, c.2.2.1, va_up c.2.2.2 f (some v)))) : RunG l D cy ad hb Y Rm Qf n k pc L (.ref v :: .ref i :: st) ms := by
  intro p e s m args below meth cd A C H locs ls hW hz hS hl
  obtain ⟨q, hq, hk, hlk⟩ := hf
  obtain ⟨q', hq', hdecl⟩ := hdc
  cases Option.some.inj (hq.symm.trans hq')
  obtain ⟨t1, t2, t3, t4, t5⟩ := ctab ci q hq
  subst hci
  have hfin : (q.2.1 f).2.2.2 = true := by
    unfold isFi at hfi
    rw [hq] at hfi
    exact hfi
  have hts := C.2.2.2.2.2.1
  have hown := C.2.2.2.2.1
  have hK := C.2.2.2.2.2.2.2.2.1.1
  have he : (Wo cy ad ms)[i]? = some (ad i, .inr (c.1, flds ad c)) := by rw [Wo_get hc, cE_obj t5]
  obtain ⟨r, g1, cell, q1, q2, q3, q4⟩ := hW.1 i _ he
  have hrq : r = q := Option.some.inj (g1.symm.trans hq)
  subst hrq
  have hap := va_apart (own := Y.1.cls) hts t1 (tyF c.1) t2 t3 hK hq
  obtain ⟨hSl, hfc, kC, hkC, hkind⟩ := hK.1 c.1 _ hq
  obtain ⟨cf, kf, fi, fd, hi, hsl⟩ := hSl f hk
  have hst := (u_facts hfc hkC (u_lays hts t1 hk) hi).1
  have hlay := hts _ (t1 _ (u_in_lay hk))
  unfold u_lay at hlay
  rw [if_pos hfin] at hlay
  have hcf : m.cls = cf := by
    obtain ⟨_, _, c', _, _, _, -, -, hf', -, -, -, hown2, -⟩ := Cond.laysFinal_spec hlay
    have e1 : c' = cf := by have := hi.symm.trans hf'; simp at this; exact this.1.symm
    rw [hdecl] at hown2
    rw [← e1]
    exact Option.some.inj (hown.symm.trans hown2)
  have h6 := u_fits hfc hkC hkind (Or.inr hlay) hi (t2 f hk) (hty (ad v)).1 (hty (ad v)).2
  refine W.putFinK C.1 C.2.1 hown (hts _ hlk) hi hst hcf (C.2.2.2.2.2.2.2.1.trans hnm) (by rw [q2]; exact h6) q1 q3 (by rw [hsl]; exact k2_hasslot (q4 f hk)) rfl rfl hd fun H1 e1 ez oq => ?_
  rw [hsl] at e1 ⊢
  have hP1 := hW.1.set hW.2 he (e := .inr (c.1, (flds ad c).set f (.ref (ad v)))) ⟨_, hq, t_OB.to (V := updV (vp_V (flds ad c)) f (.ref (ad v))) ⟨_, e1, q2, q3, t_set q4 hap hk _⟩ (fun j _ => vp_updV_set (by rw [flds_len, t4]; exact hk) _ j)⟩ oq
  have hD1 := hW.2.set he (e := .inr (c.1, (flds ad c).set f (.ref (ad v))))
  have e3 : ((ad i, Sum.inr (c.1, (flds ad c).set f (.ref (ad v)))) : Nat × va_E) = (ad i, cE cy ad (c.1, c.2.1, c.2.2.1, va_up c.2.2.2 f (some v))) := by rw [cE_obj (c := (c.1, c.2.1, c.2.2.1, va_up c.2.2.2 f (some v))) t5, ← flds_setR hr]; rfl
  rw [e3, Wo_set] at hP1 hD1
  exact kk p e s m args below meth cd A C H1 _ ls ⟨hP1, hD1⟩ (Sz_set hz ez) (hS.put ez oq (hW.2.2 i _ he)) hl
/-- several cells come behind the others -/
theorem wd_app {A : Nat → Prop} {H H1 : Heap} {ks : Mm} {s0 : Heap} {locs : List Loc} (hW : Wd D cy A ad ms H) (hz : Sz (some h) ad ms H) (hS : va_S A s0 H locs) (hA : ∀ q, s0.size ≤ q → A q) (e1 : ∀ (j : Nat) (c : Cel), ks[j]? = some c → va_at D vwCl (H.size + j, cE cy ad c) H1) (z1 : H1.size = H.size + ks.length) (o1 : ∀ q, q < H.size → H1[q]? = H[q]?) : Wd D cy A ad (ms ++ ks) H1 ∧ Sz (some h) ad (ms ++ ks) H1 ∧ va_S A s0 H1 locs := by
  have key : ∀ (i : Nat) (x : Nat × va_E), (Wo cy ad (ms ++ ks))[i]? = some x → x.1 = h + i ∧ (((Wo cy ad ms)[i]? = some x) ∨ ∃ (j : Nat) (c : Cel), i = ms.length + j ∧ ks[j]? = some c ∧ x.2 = cE cy ad c) := by
    intro i x hx
    unfold Wo at hx ⊢
    rw [List.getElem?_mapIdx] at hx ⊢
    by_cases hi : i < ms.length
    · rw [List.getElem?_append_left hi] at hx
      refine ⟨?_, Or.inl hx⟩
      rw [List.getElem?_eq_getElem hi] at hx
      cases hx
      exact hz.2 i
    · rw [List.getElem?_append_right (by omega)] at hx
      cases hc : ks[i - ms.length]? with
      | none => rw [hc] at hx; cases hx
      | some c =>
        rw [hc] at hx
        cases hx
        exact ⟨hz.2 i, Or.inr ⟨i - ms.length, c, by omega, hc, rfl⟩⟩
  refine ⟨⟨fun i x hx => ?_, fun i j x y hx hy hxy => ?_, fun i x hx => ?_⟩, ⟨?_, hz.2⟩, ⟨Nat.le_trans hS.1 (by omega), fun x h1 h2 => (o1 x (Nat.lt_of_lt_of_le h1 hS.1)).trans (hS.2.1 x h1 h2), hS.2.2⟩⟩
  · obtain ⟨k1, k2⟩ := key i x hx
    rcases k2 with k2 | ⟨j, c, k2, k3, k4⟩
    · exact (hW.1 i x k2).kept (o1 x.1 ((hW.1 i x k2).lt))
    · have := e1 j c k3
      obtain ⟨x1, x2⟩ := x
      dsimp only at k1 k4
      subst k4
      rw [show x1 = H.size + j by rw [k1, hz.1]; omega]
      exact this
  · have a1 := (key i x hx).1
    have a2 := (key j y hy).1
    omega
  · obtain ⟨k1, k2⟩ := key i x hx
    rcases k2 with k2 | ⟨j, c, k2, k3, k4⟩
    · exact hW.2.2 i x k2
    · rw [k1]
      refine hA _ (Nat.le_trans hS.1 ?_)
      rw [hz.1]
      omega
  · rw [z1, hz.1, List.length_append]
    omega
def mnaC (b : Nat) : Mm := (17, 6, fun _ => 0, fun j => if j < 6 then some (b + 1 + j) else none) :: List.replicate 6 (14, 6, fun _ => 0, fun _ => none)
/-- six rows of six numbers -/
theorem g_mna {idx : Nat} (hd : decode Y.2.1 pc = .ok (.multianewarray idx 2, 4)) (hcl : Cond.classLink Y.1.cls idx ("[" ++ (FieldType.array .int).toString) ∈ wsA) (harr : Cond.arrayClass .int ∈ wsA) (hc : n + 7 ≤ Rm.cells) (hs : k + 42 ≤ Rm.slots) (kk : RunG l D cy ad (some h) Y Rm Qf (n + 7) (k + 42) (pc + 4) L (.ref ms.length :: st) (ms ++ mnaC ms.length)) : RunG l D cy ad (some h) Y Rm Qf n k pc L (.int 6 :: .int 6 :: st) ms := by
  intro p e s m args below meth c A C H locs ls hW hz hS hl
  have hK := C.2.2.2.2.2.2.2.2.1.1
  have ea : ad ms.length = H.size := by rw [hz.2, hz.1]
  intro T hT Xs
  have hcb := C.2.1
  obtain ⟨vm₁, cA, comp, -, fA, fC, hO, -, X', step⟩ := Xs.multianewarray2F C.1 C.2.2.2.2.1 (C.2.2.2.2.2.1 _ hcl) (C.2.2.2.2.2.2.2.2.1.2.2.2) (C.2.2.2.2.2.1 _ harr) (g := F0 m pc ls (.int 6 :: .int 6 :: st.map (cv ad))) rfl (by rw [hcb]; exact hd) (n := 6) (k := 6) rfl (by decide) (by decide) (by decide) (by decide) (by decide) rfl rfl (by show n + (1 + 6) ≤ _; omega) (by show k + (6 + 6 * 6) ≤ _; omega)
  rw [show (6 : Int32).toNatClampNeg = 6 from rfl] at X' step
  generalize hF : Jvm.Free.Multi.fill (T.setVm vm₁) cA comp 6 6 (defaultValue .int) 6 = F at X' step
  have hTh : (T.setVm vm₁).heap = H := hT
  obtain ⟨f1, f2, -, -⟩ := Jvm.Free.Multi.fill_facts (T.setVm vm₁) cA comp 6 6 (defaultValue .int) 6
  rw [hF, hTh] at f1 f2
  have hold : ∀ x : Nat, x < H.size → F.heap[x]? = H[x]? := fun x hx => by
    have := Jvm.Free.Multi.fill_old (T.setVm vm₁) cA comp 6 6 (defaultValue .int) (a := x) (by rw [hTh]; exact hx) 6
    rw [hF, hTh] at this
    exact this
  have hrow : ∀ j : Nat, j < 6 → F.heap[H.size + 1 + j]? = some (Jvm.Free.Multi.innerC comp 6 (defaultValue .int)) := fun j hj => by
    have := Jvm.Free.Multi.fill_inner (T.setVm vm₁) cA comp 6 6 (defaultValue .int) 6 j hj
    rw [hF, hTh] at this
    exact this
  rw [vr_outer] at f2
  have ecA : cA = cy 17 := Option.some.inj (fA.symm.trans (hK.2 5 _ rfl).2)
  have eco : comp = cy 14 := Option.some.inj (fC.symm.trans (hK.2 2 _ rfl).2)
  subst ecA
  subst eco
  obtain ⟨a1, a2, a3⟩ := wd_app (ks := mnaC ms.length) (H1 := F.heap) hW hz hS C.2.2.2.2.2.2.2.2.2 (by
    intro j c hj
    match j, hj with
    | 0, hj =>
      cases hj
      rw [cE_ref (c := (17, 6, fun _ => 0, fun j => if j < 6 then some (ms.length + 1 + j) else none)) (show 16 ≤ 17 by decide) (show 17 < 18 by decide)]
      show F.heap[H.size + 0]? = some (vp_cell (cy 17) (6, .inr (.inr (.inr (.inr (fun j => (if j < 6 then some (ms.length + 1 + j) else none : Option Nat).map ad))))))
      rw [Nat.add_zero, f2, vp_cell_q]
      congr 2
      funext j
      by_cases h6 : j < 6
      · simp only [h6, if_true, Option.map_some]
        rw [hz.2, hz.1]
        congr 2
        omega
      · simp only [h6, if_false, Option.map_none]
    | j + 1, hj =>
      have hj2 : (List.replicate 6 ((14, 6, fun _ => 0, fun _ => none) : Cel))[j]? = some c := hj
      rw [List.getElem?_replicate] at hj2
      by_cases h6 : j < 6
      · rw [if_pos h6] at hj2
        cases hj2
        rw [cE_int (c := (14, 6, fun _ => 0, fun _ => none)) (show 12 ≤ 14 by decide) (show 14 < 16 by decide)]
        show F.heap[H.size + (j + 1)]? = some (vp_cell (cy 14) (6, .inl (fun _ => 0)))
        rw [show H.size + (j + 1) = H.size + 1 + j by omega, hrow j h6, vp_cell_i]
        rfl
      · rw [if_neg h6] at hj2
        cases hj2) (by rw [f1]; simp [mnaC]) hold
  have kk2 := kk p e s m args below meth c A C F.heap locs ls a1 a2 a3 hl
  rw [List.map_cons, show cv ad (.ref ms.length) = .ref H.size by show Value.ref (ad ms.length) = _; rw [ea]] at kk2
  obtain ⟨t2, b1, b2⟩ := kk2 F rfl X'
  refine ⟨t2, step t2 ?_, b2⟩
  rw [hT]
  exact b1
end NX8
