/-! rules over the heap: fields, arrays -/
/-- a field that own's pool names at idx: field k of class ci -/
def FLk (own : String) (idx ci k : Nat) : Prop := ∃ q : vw_C, vwCl[ci]? = some q ∧ k < q.2.2 ∧ Cond.fieldLink own idx (q.2.1 k).1 (q.2.1 k).2.1 (q.2.1 k).2.2.1 ∈ wsA
def isFi (ci k : Nat) : Bool := match vwCl[ci]? with
  | some q => (q.2.1 k).2.2.2
  | none => false
theorem cE_obj {cy : Nat → ClassId} {ad : Nat → Nat} {c : Cel} (h : c.1 < 12) : cE cy ad c = .inr (c.1, flds ad c) := if_pos h
theorem cE_int {cy : Nat → ClassId} {ad : Nat → Nat} {c : Cel} (h : 12 ≤ c.1) (h2 : c.1 < 16) : cE cy ad c = .inl (cy c.1, c.2.1, .inl c.2.2.1) := by
  unfold cE
  rw [if_neg (Nat.not_lt.mpr h), if_pos h2]
theorem cE_ref {cy : Nat → ClassId} {ad : Nat → Nat} {c : Cel} (h : 16 ≤ c.1) (h2 : c.1 < 18) : cE cy ad c = .inl (cy c.1, c.2.1, .inr (.inr (.inr (.inr (fun j => (c.2.2.2 j).map ad))))) := by
  unfold cE
  rw [if_neg (by omega), if_neg (by omega), if_neg (by omega)]
theorem flds_get {ad : Nat → Nat} {c : Cel} {k : Nat} (h : k < nF c.1) : (flds ad c)[k]? = some (if isRf c.1 k then va_rf ((c.2.2.2 k).map ad) else .int (c.2.2.1 k)) := by
  unfold flds
  rw [List.getElem?_map, List.getElem?_range h]
  rfl
theorem flds_len {ad : Nat → Nat} {c : Cel} : (flds ad c).length = nF c.1 := by simp [flds]
theorem flds_setI {ad : Nat → Nat} {c : Cel} {k : Nat} {v : Int32} (hr : isRf c.1 k = false) : (flds ad c).set k (.int v) = flds ad (c.1, c.2.1, upd c.2.2.1 k v, c.2.2.2) := by
  apply List.ext_getElem?
  intro j
  rw [List.getElem?_set]
  unfold flds
  simp only [List.getElem?_map, List.length_map, List.length_range]
  by_cases h : k = j
  · subst h
    by_cases h2 : k < nF c.1
    · simp [h2, hr, upd]
    · simp [h2]
  · rw [if_neg h]
    by_cases h2 : j < nF c.1
    · simp [h2, upd, Ne.symm h]
    · simp [h2]
theorem flds_setR {ad : Nat → Nat} {c : Cel} {k : Nat} {v : Option Nat} (hr : isRf c.1 k = true) : (flds ad c).set k (va_rf (v.map ad)) = flds ad (c.1, c.2.1, c.2.2.1, va_up c.2.2.2 k v) := by
  apply List.ext_getElem?
  intro j
  rw [List.getElem?_set]
  unfold flds
  simp only [List.getElem?_map, List.length_map, List.length_range]
  by_cases h : k = j
  · subst h
    by_cases h2 : k < nF c.1
    · simp [h2, hr, va_up]
    · simp [h2]
  · rw [if_neg h]
    by_cases h2 : j < nF c.1
    · simp [h2, va_up, Ne.symm h]
    · simp [h2]
theorem Sz_set {hb : Option Nat} {ad : Nat → Nat} {ms : Mm} {H H1 : Heap} {i : Nat} {c : Cel} (h : Sz hb ad ms H) (e : H1.size = H.size) : Sz hb ad (ms.set i c) H1 := by
  cases hb with
  | none => trivial
  | some b => exact ⟨by rw [e, List.length_set]; exact h.1, h.2⟩
theorem va_S_size {A : Nat → Prop} {H0 H : Heap} {locs : List Loc} (h : va_S A H0 H locs) : H0.size ≤ H.size := h.1
section NX3
variable {l : Launch} {D : va_G} {cy : Nat → ClassId} {ad : Nat → Nat} {hb : Option Nat} {Y : MRec} {Rm : Room} {Qf : List Frame → Array Value → State → (Nat → Prop) → State → Prop} {n k pc : Nat} {L L' : List (Nat × Value)} {st : List Value} {ms : Mm}
theorem g_getI {idx ci f i : Nat} {c : Cel} (hd : decode Y.2.1 pc = .ok (.getfield idx, 3)) (hf : FLk Y.1.cls idx ci f) (hr : isRf ci f = false) (hc : ms[i]? = some c) (hci : c.1 = ci) (kk : RunG l D cy ad hb Y Rm Qf n k (pc + 3) L (.int (c.2.2.1 f) :: st) ms) : RunG l D cy ad hb Y Rm Qf n k pc L (.ref i :: st) ms := by
  intro p e s m args below meth cd A C H locs ls hW hz hS hl
  obtain ⟨q, hq, hk, hlk⟩ := hf
  obtain ⟨t1, t2, t3, t4, t5⟩ := ctab ci q hq
  subst hci
  refine va_get (D := D) (ci := c.1) (C := q.1) (T := q.2.1) (N := q.2.2) C.1 C.2.1 C.2.2.2.2.2.1 t1 C.2.2.2.2.1 C.2.2.2.2.2.2.2.2.1.1 hW.1 i (by rw [Wo_get hc, cE_obj t5]) hq f hk (C.2.2.2.2.2.1 _ hlk) (fun _ h => h) (v := .int (c.2.2.1 f)) (by rw [flds_get (by rw [t4]; exact hk), hr]; rfl) hd (kk p e s m args below meth cd A C H locs ls hW hz hS hl)
theorem g_getR {idx ci f i : Nat} {c : Cel} (hd : decode Y.2.1 pc = .ok (.getfield idx, 3)) (hf : FLk Y.1.cls idx ci f) (hr : isRf ci f = true) (hc : ms[i]? = some c) (hci : c.1 = ci) (kk : RunG l D cy ad hb Y Rm Qf n k (pc + 3) L (va_rf (c.2.2.2 f) :: st) ms) : RunG l D cy ad hb Y Rm Qf n k pc L (.ref i :: st) ms := by
  intro p e s m args below meth cd A C H locs ls hW hz hS hl
  obtain ⟨q, hq, hk, hlk⟩ := hf
  obtain ⟨t1, t2, t3, t4, t5⟩ := ctab ci q hq
  subst hci
  have kk2 := kk p e s m args below meth cd A C H locs ls hW hz hS hl
  rw [List.map_cons, cv_rf] at kk2
  refine va_get (D := D) (ci := c.1) (C := q.1) (T := q.2.1) (N := q.2.2) C.1 C.2.1 C.2.2.2.2.2.1 t1 C.2.2.2.2.1 C.2.2.2.2.2.2.2.2.1.1 hW.1 i (by rw [Wo_get hc, cE_obj t5]) hq f hk (C.2.2.2.2.2.1 _ hlk) (fun _ h => h) (v := va_rf ((c.2.2.2 f).map ad)) (by rw [flds_get (by rw [t4]; exact hk), hr]; rfl) hd kk2
/-- a field of an object of the world takes a value; the heap's size stays -/
theorem vz_put {p : Program} {e : Env} {R : Room} {s : State} {m : MethodId} {args : Array Value} {below : List Frame} {meth : Method} {c : Code} {H : Heap} {locs : List Loc} {cells slots : Nat} {Q : State → Prop} {cd : ByteArray} {ls : Array Slot} {rest : List Value} {A : Nat → Prop} {a : Nat} {tys : List (ClassId × FieldType)} {ws : va_W} {H0 : Heap}
    (hx : p.tables.exec = Jvm.exec) (hb : c.code = cd) {own : String} {q : vw_C} {ci idx : Nat} {Ts : List Cond} (hts : ∀ w ∈ Ts, w.before args s = true) (hin : ∀ w ∈ u_ws q.1 q.2.1 q.2.2, w ∈ Ts) (ty0 : Nat → FieldType) (hty : ∀ k, k < q.2.2 → parseFieldDescriptor (q.2.1 k).2.2.1 = some (ty0 k)) (hnm : ∀ a, a < q.2.2 → ∀ b, b < q.2.2 → a ≠ b → (q.2.1 a).2.1 ≠ (q.2.1 b).2.1)
    (hown : s.vm.findClass own = some m.cls) (hK : va_K D vwCl tys s) (hP : va_P D vwCl ws H) (hD : va_D A ws) (hS0 : va_S A H0 H locs) {i : Nat} {fs : List Value} (he : ws[i]? = some (a, .inr (ci, fs))) (hc : vwCl[ci]? = some q) {f : Nat} (hk : f < q.2.2) (hlink : (Cond.fieldLink own idx (q.2.1 f).1 (q.2.1 f).2.1 (q.2.1 f).2.2.1).before args s = true)
    (hfin : (q.2.1 f).2.2.2 = false) {v : Value} (hn : narrow (ty0 f) v = v) (hfit : fits (ty0 f) v = true) (hl : f < fs.length) (hd : decode cd pc = .ok (.putfield idx, 3))
    (kk : ∀ (H1 : Heap) (locs1 : List Loc), H1.size = H.size → va_P D vwCl (ws.set i (a, .inr (ci, fs.set f v))) H1 → va_D A (ws.set i (a, .inr (ci, fs.set f v))) → va_S A H0 H1 locs1 → W p l e R s m args below meth c H1 locs1 cells slots Q (F0 m (pc + 3) ls rest)) : W p l e R s m args below meth c H locs cells slots Q (F0 m pc ls (v :: .ref a :: rest)) := by
  obtain ⟨r, h1, cell, q1, q2, q3, q4⟩ := hP i _ he
  have hr : r = q := Option.some.inj (h1.symm.trans hc)
  subst hr
  have hap := va_apart (own := own) hts hin ty0 hty hnm hK hc
  obtain ⟨hSl, hfc, kC, hkC, hkind⟩ := hK.1 ci _ hc
  obtain ⟨cf, kf, fi, fd, hi, hsl⟩ := hSl f hk
  have hst := (u_facts hfc hkC (u_lays hts hin hk) hi).1
  have hlay := hts _ (hin _ (u_in_lay hk))
  have sd : k2_Sd s fd cell.cls v := by
    unfold u_lay at hlay
    rw [if_neg (by rw [hfin]; decide)] at hlay
    rw [q2]
    exact u_store hfc hkC hkind hlay hi (hty f hk) hn hfit
  refine W.putK hx hb (f := fd) ⟨hown, hlink, ⟨_, _, _, hi⟩, hst⟩ sd q1 q3 (by rw [hsl]; exact k2_hasslot (q4 f hk)) rfl rfl hd fun H' e1 e2 e3 => ?_
  rw [hsl] at e1 ⊢
  exact kk H' _ e2 (hP.set hD he ⟨_, hc, t_OB.to (V := updV (vp_V fs) f v) ⟨_, e1, q2, q3, t_set q4 hap hk v⟩ (fun j _ => vp_updV_set hl v j)⟩ e3) (hD.set he) (hS0.put e2 e3 (hD.2 i _ he))
theorem g_putI {idx ci f i : Nat} {c : Cel} {v : Int32} (hd : decode Y.2.1 pc = .ok (.putfield idx, 3)) (hf : FLk Y.1.cls idx ci f) (hr : tyF ci f = .int ∨ (tyF ci f = .boolean ∧ (v = 0 ∨ v = 1))) (hfi : isFi ci f = false) (hc : ms[i]? = some c) (hci : c.1 = ci) (kk : RunG l D cy ad hb Y Rm Qf n k (pc + 3) L st (ms.set i (c.1, c.2.1, upd c.2.2.1 f v, c.2.2.2))) : RunG l D cy ad hb Y Rm Qf n k pc L (.int v :: .ref i :: st) ms := by
  intro p e s m args below meth cd A C H locs ls hW hz hS hl
  obtain ⟨q, hq, hk, hlk⟩ := hf
  obtain ⟨t1, t2, t3, t4, t5⟩ := ctab ci q hq
  subst hci
  have hrf : isRf c.1 f = false := by
    unfold isRf
    rcases hr with h | h
    · rw [h]
    · rw [h.1]
  have hfin : (q.2.1 f).2.2.2 = false := by
    unfold isFi at hfi
    rw [hq] at hfi
    exact hfi
  have hnf : narrow (tyF c.1 f) (.int v) = .int v ∧ fits (tyF c.1 f) (.int v) = true := by
    rcases hr with h | ⟨h, h2⟩
    · rw [h]; exact ⟨rfl, rfl⟩
    · rw [h]
      rcases h2 with rfl | rfl <;> decide
  refine vz_put (D := D) (ci := c.1) (q := q) (v := .int v) C.1 C.2.1 C.2.2.2.2.2.1 t1 (tyF c.1) t2 t3 C.2.2.2.2.1 C.2.2.2.2.2.2.2.2.1.1 hW.1 hW.2 hS (i := i) (by rw [Wo_get hc, cE_obj t5]) hq hk (C.2.2.2.2.2.1 _ hlk) hfin hnf.1 hnf.2 (by rw [flds_len, t4]; exact hk) hd (fun H1 locs1 ez hP1 hD1 hS1 => ?_)
  have e1 : ((ad i, Sum.inr (c.1, (flds ad c).set f (.int v))) : Nat × va_E) = (ad i, cE cy ad (c.1, c.2.1, upd c.2.2.1 f v, c.2.2.2)) := by rw [cE_obj (c := (c.1, c.2.1, upd c.2.2.1 f v, c.2.2.2)) t5, flds_setI hrf]
  rw [e1, Wo_set] at hP1 hD1
  exact kk p e s m args below meth cd A C H1 locs1 ls ⟨hP1, hD1⟩ (Sz_set hz ez) hS1 hl
/-- a reference into a field (a final one: in its own constructor) -/
theorem g_putR {idx ci f i : Nat} {c : Cel} {v : Nat} (hd : decode Y.2.1 pc = .ok (.putfield idx, 3)) (hf : FLk Y.1.cls idx ci f) (hr : isRf ci f = true) (hty : narrow (tyF ci f) (.ref 0) = .ref 0 ∧ ∀ a, narrow (tyF ci f) (.ref a) = .ref a ∧ fits (tyF ci f) (.ref a) = true) (hfi : isFi ci f = false) (hc : ms[i]? = some c) (hci : c.1 = ci) (kk : RunG l D cy ad hb Y Rm Qf n k (pc + 3) L st (ms.set i (c.1, c.2.1, c.2.2.1, va_up c.2.2.2 f (some v)))) : RunG l D cy ad hb Y Rm Qf n k pc L (.ref v :: .ref i :: st) ms := by
  intro p e s m args below meth cd A C H locs ls hW hz hS hl
  obtain ⟨q, hq, hk, hlk⟩ := hf
  obtain ⟨t1, t2, t3, t4, t5⟩ := ctab ci q hq
  subst hci
  have hfin : (q.2.1 f).2.2.2 = false := by
    unfold isFi at hfi
    rw [hq] at hfi
    exact hfi
  refine vz_put (D := D) (ci := c.1) (q := q) (v := .ref (ad v)) C.1 C.2.1 C.2.2.2.2.2.1 t1 (tyF c.1) t2 t3 C.2.2.2.2.1 C.2.2.2.2.2.2.2.2.1.1 hW.1 hW.2 hS (i := i) (by rw [Wo_get hc, cE_obj t5]) hq hk (C.2.2.2.2.2.1 _ hlk) hfin (hty.2 _).1 (hty.2 _).2 (by rw [flds_len, t4]; exact hk) hd (fun H1 locs1 ez hP1 hD1 hS1 => ?_)
  have e1 : ((ad i, Sum.inr (c.1, (flds ad c).set f (.ref (ad v)))) : Nat × va_E) = (ad i, cE cy ad (c.1, c.2.1, c.2.2.1, va_up c.2.2.2 f (some v))) := by rw [cE_obj (c := (c.1, c.2.1, c.2.2.1, va_up c.2.2.2 f (some v))) t5, ← flds_setR hr]; rfl
  rw [e1, Wo_set] at hP1 hD1
  exact kk p e s m args below meth cd A C H1 locs1 ls ⟨hP1, hD1⟩ (Sz_set hz ez) hS1 hl
theorem vin_of {i : Int32} {N : Nat} (h1 : 0 ≤ i) (h2 : i.toNatClampNeg < N) : vp_in i N := by
  rintro (h | h)
  · exact absurd h (Int32.not_lt.mpr h1)
  · omega
theorem g_iald {i : Nat} {j : Int32} {c : Cel} (hd : decode Y.2.1 pc = .ok (.iaload, 1)) (hc : ms[i]? = some c) (hci : c.1 = 14) (h1 : 0 ≤ j) (h2 : j.toNatClampNeg < c.2.1) (kk : RunG l D cy ad hb Y Rm Qf n k (pc + 1) L (.int (c.2.2.1 j.toNatClampNeg) :: st) ms) : RunG l D cy ad hb Y Rm Qf n k pc L (.int j :: .ref i :: st) ms := by
  intro p e s m args below meth cd A C H locs ls hW hz hS hl
  exact va_iald C.1 C.2.1 C.2.2.2.2.2.2.2.2.1.1 hW.1 i 2 (by rw [Wo_get hc, cE_int (by omega) (by omega), hci]) rfl (vin_of h1 h2) hd (kk p e s m args below meth cd A C H locs ls hW hz hS hl)
theorem g_bald {i : Nat} {j : Int32} {c : Cel} (hd : decode Y.2.1 pc = .ok (.baload, 1)) (hc : ms[i]? = some c) (hci : c.1 = 12) (h1 : 0 ≤ j) (h2 : j.toNatClampNeg < c.2.1) (kk : RunG l D cy ad hb Y Rm Qf n k (pc + 1) L (.int (c.2.2.1 j.toNatClampNeg) :: st) ms) : RunG l D cy ad hb Y Rm Qf n k pc L (.int j :: .ref i :: st) ms := by
  intro p e s m args below meth cd A C H locs ls hW hz hS hl
  exact va_bald C.1 C.2.1 C.2.2.2.2.2.2.2.2.1.1 hW.1 i 0 (by rw [Wo_get hc, cE_int (by omega) (by omega), hci]) rfl (vin_of h1 h2) hd (kk p e s m args below meth cd A C H locs ls hW hz hS hl)
theorem g_zald {i : Nat} {j : Int32} {c : Cel} (hd : decode Y.2.1 pc = .ok (.baload, 1)) (hc : ms[i]? = some c) (hci : c.1 = 15) (h1 : 0 ≤ j) (h2 : j.toNatClampNeg < c.2.1) (kk : RunG l D cy ad hb Y Rm Qf n k (pc + 1) L (.int (c.2.2.1 j.toNatClampNeg) :: st) ms) : RunG l D cy ad hb Y Rm Qf n k pc L (.int j :: .ref i :: st) ms := by
  intro p e s m args below meth cd A C H locs ls hW hz hS hl
  exact va_zald C.1 C.2.1 C.2.2.2.2.2.2.2.2.1.1 hW.1 i 3 (by rw [Wo_get hc, cE_int (by omega) (by omega), hci]) rfl (vin_of h1 h2) hd (kk p e s m args below meth cd A C H locs ls hW hz hS hl)
theorem g_cald {i : Nat} {j : Int32} {c : Cel} (hd : decode Y.2.1 pc = .ok (.caload, 1)) (hc : ms[i]? = some c) (hci : c.1 = 13) (h1 : 0 ≤ j) (h2 : j.toNatClampNeg < c.2.1) (kk : RunG l D cy ad hb Y Rm Qf n k (pc + 1) L (.int (c.2.2.1 j.toNatClampNeg) :: st) ms) : RunG l D cy ad hb Y Rm Qf n k pc L (.int j :: .ref i :: st) ms := by
  intro p e s m args below meth cd A C H locs ls hW hz hS hl
  exact va_cald C.1 C.2.1 C.2.2.2.2.2.2.2.2.1.1 hW.1 i 1 (by rw [Wo_get hc, cE_int (by omega) (by omega), hci]) rfl (vin_of h1 h2) hd (kk p e s m args below meth cd A C H locs ls hW hz hS hl)
theorem g_aaldS {i : Nat} {j : Int32} {c : Cel} (hd : decode Y.2.1 pc = .ok (.aaload, 1)) (hc : ms[i]? = some c) (hci : c.1 = 16) (h1 : 0 ≤ j) (h2 : j.toNatClampNeg < c.2.1) (kk : RunG l D cy ad hb Y Rm Qf n k (pc + 1) L (va_rf (c.2.2.2 j.toNatClampNeg) :: st) ms) : RunG l D cy ad hb Y Rm Qf n k pc L (.int j :: .ref i :: st) ms := by
  intro p e s m args below meth cd A C H locs ls hW hz hS hl
  have kk2 := kk p e s m args below meth cd A C H locs ls hW hz hS hl
  rw [List.map_cons, cv_rf] at kk2
  exact va_aldq C.1 C.2.1 C.2.2.2.2.2.2.2.2.1.1 hW.1 i 4 (by rw [Wo_get hc, cE_ref (by omega) (by omega), hci]) rfl (vin_of h1 h2) hd kk2
theorem g_aaldA {i : Nat} {j : Int32} {c : Cel} (hd : decode Y.2.1 pc = .ok (.aaload, 1)) (hc : ms[i]? = some c) (hci : c.1 = 17) (h1 : 0 ≤ j) (h2 : j.toNatClampNeg < c.2.1) (kk : RunG l D cy ad hb Y Rm Qf n k (pc + 1) L (va_rf (c.2.2.2 j.toNatClampNeg) :: st) ms) : RunG l D cy ad hb Y Rm Qf n k pc L (.int j :: .ref i :: st) ms := by
  intro p e s m args below meth cd A C H locs ls hW hz hS hl
  have kk2 := kk p e s m args below meth cd A C H locs ls hW hz hS hl
  rw [List.map_cons, cv_rf] at kk2
  have hK := C.2.2.2.2.2.2.2.2.1.1
  have ha : (Wo cy ad ms)[i]? = some (ad i, .inl (cy 17, c.2.1, .inr (.inr (.inr (.inr (fun j => (c.2.2.2 j).map ad)))))) := by rw [Wo_get hc, cE_ref (by omega) (by omega), hci]
  exact W.aald (v := va_rf ((c.2.2.2 j.toNatClampNeg).map ad)) (ty := .array .int) C.1 C.2.1 (hW.1 i _ ha) ((hK.2 5 _ rfl).1 c.2.1 (fun j => va_rf ((c.2.2.2 j).map ad))) rfl (fun q => by cases q) (by show ¬ (j < 0 ∨ (arrV _ _ _).slots.size ≤ _); rw [arrV_size]; exact vin_of h1 h2) (by show (arrV _ _ _).slots[_]? = _; rw [arrV_read _ _ h2]) rfl rfl hd kk2
theorem g_iast {i : Nat} {j x : Int32} {c : Cel} (hd : decode Y.2.1 pc = .ok (.iastore, 1)) (hc : ms[i]? = some c) (hci : c.1 = 14) (h1 : 0 ≤ j) (h2 : j.toNatClampNeg < c.2.1) (kk : RunG l D cy ad hb Y Rm Qf n k (pc + 1) L st (ms.set i (c.1, c.2.1, upd c.2.2.1 j.toNatClampNeg x, c.2.2.2))) : RunG l D cy ad hb Y Rm Qf n k pc L (.int x :: .int j :: .ref i :: st) ms := by
  intro p e s m args below meth cd A C H locs ls hW hz hS hl
  have hK := C.2.2.2.2.2.2.2.2.1.1
  have ha : (Wo cy ad ms)[i]? = some (ad i, .inl (cy 14, c.2.1, .inl c.2.2.1)) := by rw [Wo_get hc, cE_int (by omega) (by omega), hci]
  refine W.iast C.1 C.2.1 (hW.1 i _ ha) ((hK.2 2 _ rfl).1 c.2.1 (fun j => .int (c.2.2.1 j))) (fun q => by cases q) (by show ¬ (j < 0 ∨ (arrV _ _ _).slots.size ≤ _); rw [arrV_size]; exact vin_of h1 h2) rfl rfl hd fun H1 e1 ez oq => ?_
  have e2 : H1[ad i]? = some (vp_cell (cy 14) (c.2.1, .inl (upd c.2.2.1 j.toNatClampNeg x))) := by
    rw [e1, vp_cell_i, vp_cell_i, arrV_store]
    congr 2
    funext q
    by_cases hq : q = j.toNatClampNeg <;> simp [updV, upd, hq]
  have e3 : ((ad i, Sum.inl (cy 14, c.2.1, .inl (upd c.2.2.1 j.toNatClampNeg x))) : Nat × va_E) = (ad i, cE cy ad (c.1, c.2.1, upd c.2.2.1 j.toNatClampNeg x, c.2.2.2)) := by rw [cE_int (c := (c.1, c.2.1, upd c.2.2.1 j.toNatClampNeg x, c.2.2.2)) (by show 12 ≤ c.1; omega) (by show c.1 < 16; omega)]; show _ = (ad i, Sum.inl (cy c.1, _)); rw [hci]
  have hP1 := hW.1.set hW.2 ha (e := .inl (cy 14, c.2.1, .inl (upd c.2.2.1 j.toNatClampNeg x))) e2 oq
  have hD1 := hW.2.set ha (e := .inl (cy 14, c.2.1, .inl (upd c.2.2.1 j.toNatClampNeg x)))
  rw [e3, Wo_set] at hP1 hD1
  exact kk p e s m args below meth cd A C H1 _ ls ⟨hP1, hD1⟩ (Sz_set hz ez) (hS.put ez oq (hW.2.2 i _ ha)) hl
end NX3
