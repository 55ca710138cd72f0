/-! THE CLAIM OUT OF ONE WALK OF THE LAW'S BODY. Your part is whole_start (and what it stands on); all else here is the same for every law, but numbers. -/
def R_law : String := "NoTwoInOneRoomLaw"
def lw_P (b : Addr) (xs : List Int32) (args : Array Value) (s : State) : Prop := args = #[.ref b] ∧ s.IntsAt b xs ∧ xs.length ≤ 3072 ∧ (Jvm.Cond.and given_1 narrow_1).before args s = true
def lw_Q (_ : Array Value) (s : State) (o : Outcome) (t : State) : Prop := o = .returned (some (.int 1)) ∧ Framed s o t [] 615851 7248551
def lw_Z (below : List Frame) (a : Array Value) (s : State) : State → Prop := fun t => ∃ o, t.status = .running ∧ Ended t below o ∧ lw_Q a s o t
/-- the law's own end, with 1 on the stack, nothing written that was there before, its room as the claim has it -/
theorem lw_ret {p : Program} {l : Launch} {e : Env} {s : State} {m : MethodId} {below : List Frame} {meth : Method} {c : Code} {b : Nat} (hx : p.tables.exec = Jvm.exec) (hb : c.code = code) (hr : meth.sig.returnType = ret) (hlocks : meth.locks = false) {pc : Nat} {H : Heap} {ls : Array Slot} (hdg : decode code pc = .ok (.ireturn, 1)) : W p l e room_1 s m #[Value.ref b] below meth c H [] 615851 7248551 (lw_Z below #[Value.ref b] s) (F0 m pc ls [.int 1]) := by
  intro T hT X
  obtain ⟨fs, hret, hrun, hended, hW, hframe⟩ := X.leave (v := some (.int 1)) (hlocks := hlocks) (fun h => by rw [hr] at h; cases h)
  have hmeth' : T.vm.method? m = some meth := X.method'
  refine ⟨T.setFrames fs, ?_, .returned (some (.int 1)), hrun, hended, rfl, ⟨_, rfl⟩, hW, hframe⟩
  jvm_step X.here [X.here.top, hx, hb, hdg, hmeth', hr, ret, narrow_b1]
  (try refine ⟨rfl, ?_⟩); (try refine ⟨rfl, ?_⟩)
  first | (intro acts; rw [hret _ acts rfl rfl rfl]) | rw [hret _ _ rfl rfl rfl]
  exact Steps.refl _
/-- what holds at the law's entry: the machine, the code, the tables' words (any of lw_tbl by 'hts w (by decide +kernel)'), the script of L ints xs at the cell b, what the Statement gives of the start (any of its parts by flat_of_before) -/
def lw_At (p : Program) (s : State) (m : MethodId) (meth : Method) (c : Code) (b L : Nat) (xs : Nat → Int32) : Prop :=
  p.tables.exec = Jvm.exec ∧ c.code = code ∧ meth.sig.returnType = ret ∧ c.maxLocals = 7 ∧ s.vm.findClass R_law = some m.cls ∧ (∀ w ∈ lw_tbl, w.before #[Value.ref b] s = true) ∧ va_X b L xs s s.heap ∧ b < s.heap.size ∧ meth.locks = false ∧ (Jvm.Cond.and given_1 narrow_1).before #[Value.ref b] s = true

/-! the rules of the law's body -/
theorem goodIn_cw {y : MethodName} {cc : ByteArray} {nL : Nat} {hh : List (Nat × Nat × Nat × Nat)} {idx : Nat} (h1 : Cond.codeWith y cc nL (some .int) hh ∈ wsA) (h2 : Cond.methodLink RL idx y ∈ wsA) (h3 : Cond.static y ∈ wsA) (h4 : Cond.initialized y.cls ∈ wsA) : GoodIn wsA (va_wsS RL idx y (Cond.codeWith y cc nL (some .int) hh :: wsA)) := by
  have gw : ∀ w ∈ wsA, w ∈ wsA ∧ ((w.onTables && w.keeps) = true ∨ ∃ ty, w = .arrayClass ty) := by
    intro w hw
    refine ⟨hw, ?_⟩
    have hg : goodWord w = true := (List.mem_filter.mp hw).2
    unfold goodWord at hg
    split at hg
    · exact Or.inr ⟨_, rfl⟩
    · exact Or.inl hg
  intro w hw
  unfold va_wsS at hw
  simp only [List.mem_append, List.mem_cons, List.not_mem_nil, or_false] at hw
  rcases hw with (rfl | rfl | rfl) | rfl | hw
  · exact gw _ h2
  · exact gw _ h3
  · exact gw _ h4
  · exact gw _ h1
  · exact gw _ hw
def lq_C (l : Launch) (D : va_G) (cy : Nat → ClassId) (p : Program) (s : State) (m : MethodId) (meth : Method) (c : Code) (b L : Nat) (xs : Nat → Int32) : Prop :=
  p.tables.exec = Jvm.exec ∧ c.code = code ∧ meth.sig.returnType = ret ∧ c.maxLocals = 7 ∧ s.vm.findClass RL = some m.cls ∧ (∀ w ∈ wsA, w.before #[Value.ref b] s = true) ∧ va_X b L xs s s.heap ∧ b < s.heap.size ∧ meth.locks = false ∧ Kx D cy s ∧ ZX l (fun q : Nat => s.heap.size ≤ q) s
def lq_A (l : Launch) (D : va_G) (cy : Nat → ClassId) (ad : Nat → Nat) (p : Program) (e : Env) (s : State) (m : MethodId) (below : List Frame) (meth : Method) (c : Code) (b : Nat) (n k pc : Nat) (lv : List (Nat × Value)) (st : List Value) (ms : Mm) : Prop :=
  ∀ (H : Heap) (locs : List Loc) (ls : Array Slot), Wd D cy (fun q : Nat => s.heap.size ≤ q) ad ms H → va_S (fun q : Nat => s.heap.size ≤ q) s.heap H locs → lv_has ls 7 lv → W p l e room_1 s m #[Value.ref b] below meth c H locs n k (lw_Z below #[Value.ref b] s) (F0 m pc ls st)
def lq_L (ad : Nat → Nat) (b i : Nat) : List (Nat × Value) := [(0, .ref b), (1, .ref (ad 0)), (2, .ref (ad 174)), (3, .ref (ad 204)), (4, .int (nI i))]
section LAWR
variable {l : Launch} {D : va_G} {cy : Nat → ClassId} {ad : Nat → Nat} {p : Program} {e : Env} {s : State} {m : MethodId} {below : List Frame} {meth : Method} {c : Code} {b L : Nat} {xs : Nat → Int32} {n k pc : Nat} {lv lv' : List (Nat × Value)} {st : List Value} {ms : Mm}
theorem lq_widen {n' k' : Nat} (h1 : n ≤ n') (h2 : k ≤ k') (kk : lq_A l D cy ad p e s m below meth c b n' k' pc lv st ms) : lq_A l D cy ad p e s m below meth c b n k pc lv st ms := fun H locs ls hW hS hl => W.widen h1 h2 (kk H locs ls hW hS hl)
theorem lq_loc (ks : List Nat) (h : lv_pick lv ks = lv') (kk : lq_A l D cy ad p e s m below meth c b n k pc lv' st ms) : lq_A l D cy ad p e s m below meth c b n k pc lv st ms := fun H locs ls hW hS hl => kk H locs ls hW hS (lv_sub hl ks h)
theorem lq_aload (C : lq_C l D cy p s m meth c b L xs) {q : Fin 4} {i x : Nat} (j : Nat) (hd : decode code pc = .ok (.aload_n q, 1)) (hi : (q : Nat) = i) (hj : lv[j]? = some (i, .ref x)) (kk : lq_A l D cy ad p e s m below meth c b n k (pc + 1) lv (.ref x :: st) ms) : lq_A l D cy ad p e s m below meth c b n k pc lv st ms := fun H locs ls hW hS hl => lv_aload_n C.1 C.2.1 hd hi (lv_at hl j hj) (kk H locs ls hW hS hl)
theorem lq_iload (C : lq_C l D cy p s m meth c b L xs) {i : Nat} {x : Int32} (j : Nat) (hd : decode code pc = .ok (.iload i, 2)) (hj : lv[j]? = some (i, .int x)) (kk : lq_A l D cy ad p e s m below meth c b n k (pc + 2) lv (.int x :: st) ms) : lq_A l D cy ad p e s m below meth c b n k pc lv st ms := fun H locs ls hW hS hl => lv_iload C.1 C.2.1 hd (lv_at hl j hj) (kk H locs ls hW hS hl)
theorem lq_iconst (C : lq_C l D cy p s m meth c b L xs) {z : Int} {v : Int32} (hd : decode code pc = .ok (.iconst z, 1)) (hv : Int32.ofInt z = v) (kk : lq_A l D cy ad p e s m below meth c b n k (pc + 1) lv (.int v :: st) ms) : lq_A l D cy ad p e s m below meth c b n k pc lv st ms := fun H locs ls hW hS hl => lv_iconst C.1 C.2.1 hd hv (kk H locs ls hW hS hl)
theorem lq_bipush (C : lq_C l D cy p s m meth c b L xs) {z : Int} {v : Int32} (hd : decode code pc = .ok (.bipush z, 2)) (hv : (Int8.ofInt z).toInt32 = v) (kk : lq_A l D cy ad p e s m below meth c b n k (pc + 2) lv (.int v :: st) ms) : lq_A l D cy ad p e s m below meth c b n k pc lv st ms := fun H locs ls hW hS hl => lv_bipush C.1 C.2.1 hd hv (kk H locs ls hW hS hl)
theorem lq_goto (C : lq_C l D cy p s m meth c b L xs) {off : Int} {tgt : Nat} (hd : decode code pc = .ok (.goto off, 3)) (ht : (pc : Int) + off = (tgt : Int)) (kk : lq_A l D cy ad p e s m below meth c b n k tgt lv st ms) : lq_A l D cy ad p e s m below meth c b n k pc lv st ms := fun H locs ls hW hS hl => lv_goto C.1 C.2.1 hd ht (kk H locs ls hW hS hl)
theorem lq_ieq (C : lq_C l D cy p s m meth c b L xs) {x y : Int32} {off : Int} {tgt : Nat} (hd : decode code pc = .ok (.if_icmp .eq off, 3)) (ht : (pc : Int) + off = (tgt : Int)) (h : x = y) (kk : lq_A l D cy ad p e s m below meth c b n k tgt lv st ms) : lq_A l D cy ad p e s m below meth c b n k pc lv (.int y :: .int x :: st) ms := fun H locs ls hW hS hl => lv_icmp_eq C.1 C.2.1 hd ht (fun _ => kk H locs ls hW hS hl) (fun h9 => absurd h h9)
theorem lq_if0 (C : lq_C l D cy p s m meth c b L xs) {x : Int32} {off : Int} {tgt : Nat} (hd : decode code pc = .ok (.ifCond .eq off, 3)) (ht : (pc : Int) + off = (tgt : Int)) (h : x = 0) (kk : lq_A l D cy ad p e s m below meth c b n k tgt lv st ms) : lq_A l D cy ad p e s m below meth c b n k pc lv (.int x :: st) ms := fun H locs ls hW hS hl => lv_if_eq C.1 C.2.1 hd ht (fun _ => kk H locs ls hW hS hl) (fun h9 => absurd h h9)
theorem lq_ifn (C : lq_C l D cy p s m meth c b L xs) {x : Int32} {off : Int} {tgt : Nat} (hd : decode code pc = .ok (.ifCond .ne off, 3)) (ht : (pc : Int) + off = (tgt : Int)) (kt : ¬ x = 0 → lq_A l D cy ad p e s m below meth c b n k tgt lv st ms) (kf : x = 0 → lq_A l D cy ad p e s m below meth c b n k (pc + 3) lv st ms) : lq_A l D cy ad p e s m below meth c b n k pc lv (.int x :: st) ms := fun H locs ls hW hS hl => lv_if_ne C.1 C.2.1 hd ht (fun h9 => kt h9 H locs ls hW hS hl) (fun h9 => kf h9 H locs ls hW hS hl)
theorem lq_istore (C : lq_C l D cy p s m meth c b L xs) {i : Nat} {x : Int32} (hd : decode code pc = .ok (.istore i, 2)) (hn : i < 7) (hv : (i, Value.int x) :: lv.filter (fun q => !(q.1 == i) && !(q.1 + 1 == i && q.2.category == 2)) = lv') (kk : lq_A l D cy ad p e s m below meth c b n k (pc + 2) lv' st ms) : lq_A l D cy ad p e s m below meth c b n k pc lv (.int x :: st) ms := fun H locs ls hW hS hl => lv_istore C.1 C.2.1 hd hl hn hv (fun ls' hl' => kk H locs ls' hW hS hl')
theorem lq_at (C : lq_C l D cy p s m meth c b L xs) {i : Nat} (hd : decode code pc = .ok (.iaload, 1)) (hi : i < L) (hL : L ≤ 3072) (kk : lq_A l D cy ad p e s m below meth c b n k (pc + 1) lv (.int (xs i) :: st) ms) : lq_A l D cy ad p e s m below meth c b n k pc lv (.int (nI i) :: .ref b :: st) ms := by
  intro H locs ls hW hS hl
  refine va_sld C.1 C.2.1 C.2.2.2.2.2.2.1 C.2.2.2.2.2.2.2.1 (Nat.not_le.mpr C.2.2.2.2.2.2.2.1) hS (vin_of (nI_pos' (by omega)) (by rw [nI_clamp (by omega)]; exact hi)) hd ?_
  rw [nI_clamp (by omega)]
  exact kk H locs ls hW hS hl
def lq_D (pc : Nat) (z : Int) : Prop := decode code pc = .ok (.aload_n 0, 1) ∧ decode code (pc + 1) = .ok (.iload 4, 2) ∧ decode code (pc + 3) = .ok (.iconst z, 1) ∧ decode code (pc + 4) = .ok (.iadd, 1) ∧ decode code (pc + 5) = .ok (.iaload, 1)
theorem lq_arg (C : lq_C l D cy p s m meth c b L xs) {i j : Nat} {z : Int} (h : lq_D pc z) (a d : Nat) (ha : lv[a]? = some (0, .ref b)) (hd : lv[d]? = some (4, .int (nI i))) (hz : Int32.ofInt z = nI j) (hi : i + j < L) (hL : L ≤ 3072) (kk : lq_A l D cy ad p e s m below meth c b n k (pc + 6) lv (.int (xs (i + j)) :: st) ms) : lq_A l D cy ad p e s m below meth c b n k pc lv st ms := by
  refine lq_aload C a h.1 rfl ha ?_
  refine lq_iload C d h.2.1 hd ?_
  refine lq_iconst C h.2.2.1 hz ?_
  intro H locs ls hW hS hl
  refine lv_iadd C.1 C.2.1 h.2.2.2.1 ?_
  rw [nI_add]
  exact lq_at C h.2.2.2.2 hi hL kk H locs ls hW hS hl
theorem lq_call (C : lq_C l D cy p s m meth c b L xs) {Y' : MRec} {d' np idx ob ci : Nat} {as : List Value} {R : Int32} {X : Mm} {M M1 : Mem} (hR : RunS l D cy ad Y' d' (.ref ob :: as) X M (some (.int R)) M1) (hm : MI Y' np ci) (hlk : Cond.methodLink RL idx Y'.1 ∈ wsA) (hd : decode code pc = .ok (.invokevirtual idx, 3)) (hk : kinds[ob]? = some ci) (hn : as.length = np) (hst : (st.map fun v => v.category).sum ≤ 8) (hdd : d' ≤ 1000) (h1 : n ≤ 600000) (h2 : k ≤ 7000000) {st0 : List Value} (hs0 : st0 = (as.map (cv ad)).reverse ++ .ref (ad ob) :: st.map (cv ad)) (kk : lq_A l D cy ad p e s m below meth c b n k (pc + 3) lv ((.int R :: st).map (cv ad)) (lay X M1)) : lq_A l D cy ad p e s m below meth c b n k pc lv st0 (lay X M) := by
  intro H locs ls hW hS hl
  subst hs0
  have hts := C.2.2.2.2.2.1
  have hK := C.2.2.2.2.2.2.2.2.2.1
  obtain ⟨q, hq1, hq2⟩ := hm.2.2.2
  have hq : vwCl[KD ob]? = some q := by rw [(kd_lt hk).2]; exact hq1
  have cw : CallW room_1 s #[Value.ref b] RL Y'.1.cls idx Y'.1 Y'.2.1 Y'.2.2.1 Y'.2.2.2 (wY Y') (rmD d' 0 0) 0 0 np := ⟨callB_of np hts (goodIn_wY hm.1.1) rfl rfl rfl (hts _ hm.1.2.1) (hts _ hlk) hm.1.2.2.2.1 (room_ok (Rm := room_1) (by show d' + 1 ≤ 2048; omega) (by show 40 * (d' + 1) ≤ 84000; omega) hm.1.2.2.2.2), hts _ hm.2.1, hts _ hm.2.2.1⟩
  obtain ⟨cellB, b1, b2, b3⟩ := va_recv hK.1 hW.1 hq (q0 := ob) (a := ad ob) (fs := flds ad (KD ob, LN ob, M ob, RFd ob (M ob))) (by rw [Wo_get (lay_get (kd_lt hk).1), cE_obj (ctab _ _ hq).2.2.2.2])
  rw [hq2] at b3
  refine call_on (ms := lay X M) (ms1 := lay X M1) (r1 := some (.int R)) (hb := none) (st := st) (fun _ h => h) hW hS (va_runV (As := as.map (cv ad)) (rest := st.map (cv ad)) (b := ad ob) ⟨C.1, C.2.1, C.2.2.2.1, C.2.2.2.2.1, hts⟩ (hR H.size) cw ⟨fb_Pc, ⟨cellB, b1, b2, b3⟩, fun U hU hWm => ⟨rfl, by rw [hU], by rw [hU]; exact ⟨hW.1, hW.2.weaken (fun _ _ _ _ => trivial)⟩, trivial, Kx.warm hWm hK⟩⟩ rfl (by rw [List.length_map]; exact hn) hl.1 rfl (lv_room (by rw [cats_cv]; exact hst)) hd ⟨by show n + 0 ≤ 615851; omega, by show k + 0 ≤ 7248551; omega⟩) (fun H1 locs1 hW1 hz1 hS1 => kk H1 locs1 ls hW1 hS1 hl)
theorem lq_callH (C : lq_C l D cy p s m meth c b L xs) {y : MethodName} {cc : ByteArray} {nL np idx : Nat} {hh : List (Nat × Nat × Nat × Nat)} {as : List Value} {r : Int32} {ms1 : Mm} (hR : RunH l D cy ad y cc nL hh as ms r ms1) (hG : GoodIn wsA (va_wsS RL idx y (Cond.codeWith y cc nL (some .int) hh :: wsA))) (hy : y.cls ≠ "java/lang/invoke/MethodHandle" ∧ y.cls ≠ "java/lang/invoke/VarHandle" ∧ (parseMethodDescriptor y.desc).map (fun d => d.parameters.length) = some np) (hd : decode code pc = .ok (.invokestatic idx, 3)) (hn : as.length = np) (hnL : nL ≤ 20) (h1 : n ≤ 600000) (h2 : k ≤ 7000000) {st0 : List Value} (hs0 : st0 = (as.map (cv ad)).reverse) (kk : lq_A l D cy ad p e s m below meth c b (n + 1) (k + 6) (pc + 3) lv [.int r] ms1) : lq_A l D cy ad p e s m below meth c b n k pc lv st0 ms := by
  intro H locs ls hW hS hl
  subst hs0
  have hts := C.2.2.2.2.2.1
  have hK := C.2.2.2.2.2.2.2.2.2.1
  have hZ := C.2.2.2.2.2.2.2.2.2.2
  have free : ∀ q, va_A (Wo cy ad ms) H.size q → s.heap.size ≤ q := by
    rintro q (⟨i, x, h⟩ | h)
    · exact hW.2.2 i (q, x) h
    · exact Nat.le_trans hS.1 h
  have cw : vx_CSW room_1 s #[Value.ref b] RL idx y cc nL (some .int) hh (Cond.codeWith y cc nL (some .int) hh :: wsA) (rmD 7 1 6) 1 6 np := vx_cwSW np hts hG rfl rfl rfl hy (by
    refine ⟨by show 7 + 1 ≤ 2048; decide, ?_⟩
    show 8 + (nL + 11) + 40 * 7 ≤ 84000
    omega)
  have run := vx_runSX (l := l) (p := p) (e := e) (R := room_1) (s := s) (m := m) (args := #[Value.ref b]) (below := below) (meth := meth) (c := c) (locs := locs) (cells := n) (slots := k) (As := as.map (cv ad)) (rest := []) (g := F0 m pc ls ((as.map (cv ad)).reverse)) (hh := hh) ⟨C.1, C.2.1, C.2.2.2.1, C.2.2.2.2.1, hts⟩ (hR H.size) cw ⟨fb_PcX, fun U hU hWm => ⟨rfl, by rw [hU], by rw [hU]; exact ⟨hW.1, hW.2.weaken (fun _ _ _ _ => trivial)⟩, Kx.warm hWm hK, hZ.call hS free hU hWm⟩⟩ rfl (by rw [List.length_map]; exact hn) hl.1 (by simp [F0]) (lv_room (Nat.le_of_ble_eq_true rfl)) hd ⟨by show n + 1 ≤ 615851; omega, by show k + 6 ≤ 7248551; omega⟩
  intro T hT X
  rcases run T hT X with ⟨v, st₀, t, T', Lc, h0, X', hL, e1, e2, ⟨⟨hv, hW1, hz1⟩, hF⟩, stp⟩ | ⟨q, st₀, t, T', Lc, E, ce, h0, X', hL, e1, e2, hx, hce, hcv, hcl, stp⟩
  · have hv2 : v = some (.int r) := Outcome.returned.inj hv
    subst hv2
    rw [← e1] at hW1
    unfold va_F at hF
    rw [h0, ← e1] at hF
    obtain ⟨t2, a1, b1⟩ := kk T'.heap (locs ++ Lc) ls ⟨hW1.1, hW1.2.weaken (fun _ q _ h => free q.1 h)⟩ ⟨Nat.le_trans hS.1 hF.1, fun q h1 h2 => (hF.2 q (Nat.lt_of_lt_of_le h1 hS.1) (fun z => h2 (free q z))).trans (hS.2.1 q h1 h2), fun q hq => by
      rcases List.mem_append.mp hq with h | h
      · exact hS.2.2 q h
      · exact free _ (hL q h)⟩ hl T' rfl X'
    exact ⟨t2, stp t2 a1, b1⟩
  · exact absurd hx id
theorem lq_end (C : lq_C l D cy p s m meth c b L xs) (d1 : decode code pc = .ok (.iconst 1, 1)) (d2 : decode code (pc + 1) = .ok (.ireturn, 1)) (h1 : n ≤ 600000) (h2 : k ≤ 7000000) : lq_A l D cy ad p e s m below meth c b n k pc lv [] ms := by
  refine lq_iconst (v := 1) C d1 rfl ?_
  intro H locs ls hW hS hl
  exact W.widen (k := 615851) (n := 7248551) (by omega) (by omega) (va_forget hS.2.2 (lw_ret C.1 C.2.1 C.2.2.1 C.2.2.2.2.2.2.2.2.1 d2))
theorem thr_eq (M : Mem) : f_X11_thrown M = some (M 174 14, M) := rfl
def lq_T (B : Nat) (off : Int) : Prop := decode code B = .ok (.aload_n 2, 1) ∧ decode code (B + 1) = .ok (.invokevirtual 54, 3) ∧ decode code (B + 4) = .ok (.iload 5, 2) ∧ decode code (B + 6) = .ok (.if_icmp .eq 5, 3) ∧ decode code (B + 11) = .ok (.iload 5, 2) ∧ decode code (B + 13) = .ok (.ifCond .ne 15, 3) ∧ decode code (B + 16) = .ok (.aload_n 3, 1) ∧ decode code (B + 17) = .ok (.iconst 0, 1) ∧ decode code (B + 18) = .ok (.laload, 1) ∧ decode code (B + 19) = .ok (.iload 6, 2) ∧ decode code (B + 21) = .ok (.i2l, 1) ∧ decode code (B + 22) = .ok (.lcmp, 1) ∧ decode code (B + 23) = .ok (.ifCond .eq 5, 3) ∧ decode code (B + 28) = .ok (.goto off, 3)
set_option maxRecDepth 100000 in
theorem lkLthr : Cond.methodLink RL 54 YX11_thrown.1 ∈ wsA := in_t6 90 rfl rfl
theorem lq_tail (C : lq_C l D cy p s m meth c b L xs) {B i : Nat} {off : Int} {P : Option Int32} {r : Int32} {f : Nat → Int32} {M : Mem} (h : lq_T B off) (ho : (((B + 28 : Nat) : Int)) + off = ((1487 : Nat) : Int)) (hP : ThP P r M) (h1 : n ≤ 600000) (h2 : k ≤ 7000000) (kk : lq_A l D cy ad p e s m below meth c b n k 1487 (lq_L ad b i) [] (lay [oc (thF f P)] M)) : lq_A l D cy ad p e s m below meth c b n k B ((6, .int r) :: (5, .int (thK P)) :: lq_L ad b i) [] (lay [oc (thF f P)] M) := by
  obtain ⟨d0, d1, d4, d6, d11, d13, d16, d17, d18, d19, d21, d22, d23, d28⟩ := h
  have kg : lq_A l D cy ad p e s m below meth c b n k (B + 28) ((6, .int r) :: (5, .int (thK P)) :: lq_L ad b i) [] (lay [oc (thF f P)] M) := lq_goto C d28 ho (lq_loc [2, 3, 4, 5, 6] rfl kk)
  refine lq_aload (x := ad 174) C 4 d0 rfl rfl ?_
  refine lq_call (st := []) (as := []) C (r_X11_thrown (thr_eq M)) miX11_thrown lkLthr d1 (by rfl) rfl (by decide) (by decide) h1 h2 rfl ?_
  refine lq_iload (x := thK P) C 1 d4 rfl ?_
  have e1 : M 174 14 = thK P := by cases P with
    | none => exact hP
    | some v => exact hP.1
  refine lq_ieq (tgt := B + 11) C d6 (by omega) e1 ?_
  refine lq_iload (x := thK P) C 1 d11 rfl ?_
  refine lq_ifn (tgt := B + 28) C d13 (by omega) (fun _ => kg) (fun h0 => ?_)
  cases P with
  | none => exact absurd h0 (by decide)
  | some v =>
    refine lq_aload (x := ad 204) C 5 d16 rfl rfl ?_
    refine lq_iconst (v := 0) C d17 rfl ?_
    intro H locs ls hW hS hl
    refine va_lald C.1 C.2.1 C.2.2.2.2.2.2.2.2.2.1.1 hW.1 204 6 (a := ad 204) (cA := cy 18) (n := 1) (f := fun j => (upd f 0 v j).toInt64) (by rw [Wo_get (lay_hi (by decide))]; rfl) rfl (vin_of (by decide) (by decide)) d18 ?_
    refine lv_iload C.1 C.2.1 d19 (lv_at hl 0 rfl) ?_
    refine lv_i2l C.1 C.2.1 d21 rfl ?_
    refine W.lcmp C.1 C.2.1 d22 ?_
    refine lq_if0 (tgt := B + 28) C d23 (by omega) ?_ kg H locs ls hW hS hl
    rw [lg_cmp_eq, hP.2]
    rfl
end LAWR
