/-! the beginning of the law -/
def lq_S (l : Launch) (D : va_G) (cy : Nat → ClassId) (ad : Nat → Nat) (p : Program) (e : Env) (s : State) (m : MethodId) (below : List Frame) (meth : Method) (c : Code) (b h : Nat) (n k pc : Nat) (lv : List (Nat × Value)) (st : List Value) (ms : Mm) : Prop :=
  ∀ (H : Heap) (locs : List Loc) (ls : Array Slot), Wd D cy (fun q : Nat => s.heap.size ≤ q) ad ms H → Sz (some h) ad ms H → va_S (fun q : Nat => s.heap.size ≤ q) s.heap H locs → lv_has ls 7 lv → W p l e room_1 s m #[Value.ref b] below meth c H locs n k (lw_Z below #[Value.ref b] s) (F0 m pc ls st)
section LAWB
variable {l : Launch} {D : va_G} {cy : Nat → ClassId} {ad : Nat → Nat} {p : Program} {e : Env} {s : State} {m : MethodId} {below : List Frame} {meth : Method} {c : Code} {b L : Nat} {xs : Nat → Int32} {n k pc : Nat} {lv lv' : List (Nat × Value)} {st : List Value} {ms : Mm}
variable {h : Nat}
theorem ls_dup (C : lq_C l D cy p s m meth c b L xs) {x : Nat} (hd : decode code pc = .ok (.dup, 1)) (kk : lq_S l D cy ad p e s m below meth c b h n k (pc + 1) lv (.ref x :: .ref x :: st) ms) : lq_S l D cy ad p e s m below meth c b h n k pc lv (.ref x :: st) ms := fun H locs ls hW hz hS hl => lv_dup C.1 C.2.1 hd rfl (kk H locs ls hW hz hS hl)
theorem ls_astore (C : lq_C l D cy p s m meth c b L xs) {q : Fin 4} {i x : Nat} (hd : decode code pc = .ok (.astore_n q, 1)) (hi : (q : Nat) = i) (hn : i < 7) (hv : (i, Value.ref x) :: lv.filter (fun q => !(q.1 == i) && !(q.1 + 1 == i && q.2.category == 2)) = lv') (kk : lq_S l D cy ad p e s m below meth c b h n k (pc + 1) lv' st ms) : lq_S l D cy ad p e s m below meth c b h n k pc lv (.ref x :: st) ms := fun H locs ls hW hz hS hl => lv_astore_n C.1 C.2.1 hd hi hl hn hv (fun ls' hl' => kk H locs ls' hW hz hS hl')
theorem ls_iconst (C : lq_C l D cy p s m meth c b L xs) {z : Int} {v : Int32} (hd : decode code pc = .ok (.iconst z, 1)) (hv : Int32.ofInt z = v) (kk : lq_S l D cy ad p e s m below meth c b h n k (pc + 1) lv (.int v :: st) ms) : lq_S l D cy ad p e s m below meth c b h n k pc lv st ms := fun H locs ls hW hz hS hl => lv_iconst C.1 C.2.1 hd hv (kk H locs ls hW hz hS hl)
theorem ls_new (C : lq_C l D cy p s m meth c b L xs) {idx ci : Nat} {q : vw_C} (hd : decode code pc = .ok (.new idx, 3)) (hq : vwCl[ci]? = some q) (hcl : Cond.classLink RL idx q.1 ∈ wsA) (hin : Cond.instantiable q.1 q.2.2 ∈ wsA) (hini : Cond.initialized q.1 ∈ wsA) (hc : n + 1 ≤ 615851) (hs : k + q.2.2 ≤ 7248551) {j : Nat} (hj : ms.length = j) (kk : lq_S l D cy ad p e s m below meth c b h (n + 1) (k + q.2.2) (pc + 3) lv (.ref (ad j) :: st) (ms ++ [(ci, 0, fun _ => 0, fun _ => none)])) : lq_S l D cy ad p e s m below meth c b h n k pc lv st ms := by
  subst hj
  intro H locs ls hW hz hS hl
  have hts := C.2.2.2.2.2.1
  obtain ⟨t1, t2, t3, t4, t5⟩ := ctab ci q hq
  have hKn := C.2.2.2.2.2.2.2.2.2.1.1.1 ci q hq
  refine W.newcK C.1 C.2.1 C.2.2.2.2.1 (hts _ hcl) (hts _ hin) (hts _ hini) rfl hd hc hs hKn.2.1 rfl fun H1 kC hkC e1 z1 o1 => ?_
  have ea : ad ms.length = H.size := by rw [hz.2, hz.1]
  obtain ⟨a1, a2, a3⟩ := wd_push (c := (ci, 0, fun _ => 0, fun _ => none)) hW hz hS (fun _ h => h) (by
    rw [cE_obj (c := (ci, 0, fun _ => 0, fun _ => none)) t5]
    refine ⟨q, hq, (u_born (tyF ci) hts t1 hKn hkC e1 t2).to (fun j hj => ?_)⟩
    rw [def_all ci t5 j (by rw [t4]; exact hj)]
    show _ = (flds ad (ci, 0, fun _ => 0, fun _ => none)).getD j .null
    rw [List.getD_eq_getElem?_getD, flds_get (c := (ci, 0, fun _ => 0, fun _ => none)) (by rw [t4]; exact hj)]
    rfl) z1 o1
  have kk2 := kk H1 locs ls a1 a2 a3 hl
  rw [ea] at kk2
  exact kk2
theorem ls_newL (C : lq_C l D cy p s m meth c b L xs) (hd : decode code pc = .ok (.newarray .long, 2)) (harr : Cond.arrayClass .long ∈ wsA) (hc : n + 1 ≤ 615851) (hs : k + 1 ≤ 7248551) {j : Nat} (hj : ms.length = j) (kk : lq_S l D cy ad p e s m below meth c b h (n + 1) (k + 1) (pc + 2) lv (.ref (ad j) :: st) (ms ++ [oc (fun _ => 0)])) : lq_S l D cy ad p e s m below meth c b h n k pc lv (.int 1 :: st) ms := by
  subst hj
  intro H locs ls hW hz hS hl
  have hK := C.2.2.2.2.2.2.2.2.2.1.1
  have ea : ad ms.length = H.size := by rw [hz.2, hz.1]
  refine va_newaK (N := 1) (atype := .long) C.1 C.2.1 (C.2.2.2.2.2.1 _ harr) rfl hd rfl (by decide) (by decide) (by decide) hc hs rfl fun H1 cA e1 z1 o1 _ hfc => ?_
  have ecA : cA = cy 18 := Option.some.inj (hfc.symm.trans (hK.2 6 _ rfl).2)
  obtain ⟨a1, a2, a3⟩ := wd_push (c := oc (fun _ => 0)) hW hz hS (fun _ h => h) (by
    rw [oc_cE]
    show H1[H.size]? = some (vp_cell (cy 18) (1, .inr (.inl (fun _ => (0 : Int32).toInt64))))
    rw [e1, ecA]
    rfl) z1 o1
  have kk2 := kk H1 locs ls a1 a2 a3 hl
  rw [ea] at kk2
  exact kk2
theorem ls_callI (C : lq_C l D cy p s m meth c b L xs) {Y' : MRec} {d' idx ob cc' cs' : Nat} {ms1 : Mm} (hR : Run l D cy ad (some h) Y' d' cc' cs' [.ref ob] ms none ms1) (hok : MOK Y' 0) (hnm : Y'.1.name = "<init>") (hret : Y'.2.2.2 = none) (hlk : Cond.methodLink RL idx Y'.1 ∈ wsA) (hin : Cond.instanceMethod Y'.1 ∈ wsA) (hd : decode code pc = .ok (.invokespecial idx, 3)) (hdd : d' ≤ 1000) (hcc : n + cc' ≤ 615851) (hcs : k + cs' ≤ 7248551) {x : Nat} (hx : x = ad ob)
    (kk : lq_S l D cy ad p e s m below meth c b h (n + cc') (k + cs') (pc + 3) lv [.ref x] ms1) : lq_S l D cy ad p e s m below meth c b h n k pc lv [.ref x, .ref x] ms := by
  intro H locs ls hW hz hS hl
  subst hx
  have hts := C.2.2.2.2.2.1
  have hK := C.2.2.2.2.2.2.2.2.2.1
  have cw : CallB room_1 s #[Value.ref b] RL idx Y'.1 Y'.2.1 Y'.2.2.1 none (wY Y') (rmD d' cc' cs') cc' cs' 0 ∧ Y'.1.name = "<init>" ∧ (Cond.instanceMethod Y'.1).before #[Value.ref b] s = true := by
    refine ⟨?_, hnm, hts _ hin⟩
    rw [← hret]
    exact callB_of 0 hts (goodIn_wY hok.1) rfl rfl rfl (hts _ hok.2.1) (hts _ hlk) hok.2.2.2.1 (room_ok (Rm := room_1) (by show d' + 1 ≤ 2048; omega) (by show 40 * (d' + 1) ≤ 84000; omega) hok.2.2.2.2)
  refine call_on (ms := ms) (ms1 := ms1) (r1 := none) (hb := some h) (st := [.ref ob]) (fun _ h => h) hW hS (va_runI (As := []) (rest := [.ref (ad ob)]) (b := ad ob) ⟨C.1, C.2.1, C.2.2.2.1, C.2.2.2.2.1, hts⟩ (hR H.size) cw ⟨fb_Pc, fun U hU hWm => ⟨rfl, by rw [hU], by rw [hU]; exact ⟨hW.1, hW.2.weaken (fun _ _ _ _ => trivial)⟩, by rw [hU]; exact hz, Kx.warm hWm hK⟩⟩ rfl rfl hl.1 rfl (lv_room (Nat.le_of_ble_eq_true rfl)) hd ⟨hcc, hcs⟩) (fun H1 locs1 hW1 hz1 hS1 => kk H1 locs1 ls hW1 hz1 hS1 hl)
theorem lay_0 {f : Nat → Int32} : Wo cy ad ((xxC ++ moC) ++ [oc f]) = Wo cy ad (lay [oc f] M0) := by
  have e0 : lay [oc f] M0 = lay [] M0 ++ [oc f] := by unfold lay; simp
  have e1 : (lay [] M0).length = (xxC ++ moC).length := by
    have e2 : (xxC ++ moC).length = 204 := ZZ_len
    rw [e2]
    unfold lay
    simp
  rw [e0, ← Wo_push, ← Wo_push, start_mem, e1]
theorem xx_len : xxC.length = 174 := by decide +kernel
set_option maxRecDepth 100000 in
theorem lq_start (C : lq_C l D cy p s m meth c b L xs) (hL : L ≤ 3072) : lq_S l D cy ad p e s m below meth c b h 0 0 0 [(0, .ref b)] [] [] := by
  refine ls_new (ci := 10) (q := (RX10, TX10, 17)) C dL_0 rfl (in_t1 20 rfl rfl) (in_t1 21 rfl rfl) (in_t1 1 rfl rfl) (Nat.le_of_ble_eq_true rfl) (Nat.le_of_ble_eq_true rfl) (j := 0) rfl ?_
  refine ls_dup C dL_3 ?_
  refine ls_callI (ob := 0) C (r_X10_init (ms0 := []) rfl) mo_X10_init rfl rfl (in_t1 22 rfl rfl) (in_t1 23 rfl rfl) dL_4 (by decide) (Nat.le_of_ble_eq_true rfl) (Nat.le_of_ble_eq_true rfl) rfl ?_
  refine ls_astore (i := 1) (lv' := [(1, .ref (ad 0)), (0, .ref b)]) C dL_7 rfl (by decide) rfl ?_
  refine ls_new (ci := 11) (q := (RX11, TX11, 61)) C dL_8 rfl (in_t5 138 rfl rfl) (in_t5 139 rfl rfl) (in_t1 12 rfl rfl) (Nat.le_of_ble_eq_true rfl) (Nat.le_of_ble_eq_true rfl) (j := 174) xx_len ?_
  refine ls_dup C dL_11 ?_
  refine ls_callI (ob := 174) C (r_X11_init (ms0 := [] ++ xxC) xx_len) mo_X11_init rfl rfl (in_t5 140 rfl rfl) (in_t5 141 rfl rfl) dL_12 (by decide) (Nat.le_of_ble_eq_true rfl) (Nat.le_of_ble_eq_true rfl) rfl ?_
  refine ls_astore (i := 2) (lv' := [(2, .ref (ad 174)), (1, .ref (ad 0)), (0, .ref b)]) C dL_15 rfl (by decide) rfl ?_
  refine ls_iconst (v := 1) C dL_16 rfl ?_
  refine ls_newL C dL_17 (in_t8 43 rfl rfl) (Nat.le_of_ble_eq_true rfl) (Nat.le_of_ble_eq_true rfl) (j := 204) ZZ_len ?_
  refine ls_astore (i := 3) (lv' := [(3, .ref (ad 204)), (2, .ref (ad 174)), (1, .ref (ad 0)), (0, .ref b)]) C dL_19 rfl (by decide) rfl ?_
  refine ls_iconst (v := nI 0) C dL_20 rfl ?_
  intro H locs ls hW hz hS hl
  have hW2 : Wd D cy (fun q : Nat => s.heap.size ≤ q) ad (lay [oc (fun _ => 0)] M0) H := by
    unfold Wd at hW ⊢
    rw [← lay_0]
    exact hW
  refine lq_istore (lv' := [(4, .int (nI 0)), (3, .ref (ad 204)), (2, .ref (ad 174)), (1, .ref (ad 0)), (0, .ref b)]) C dL_21 (by decide) rfl ?_ H locs ls hW2 hS hl
  refine lq_loc [4, 3, 2, 1, 0] (lv' := lq_L ad b (6 * 0)) rfl ?_
  exact lq_loop C hL 513 0 _ _ _ M0 (by decide) (by decide) (Nat.le_of_ble_eq_true rfl) (Nat.le_of_ble_eq_true rfl) cpl_0
end LAWB
