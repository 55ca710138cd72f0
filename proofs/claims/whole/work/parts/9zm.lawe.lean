/-! what holds at the entry; the theorem -/
theorem lt_1 {w : Cond} (i : Nat) (h : tables_1_1[i]? = some w) : w ∈ lw_tbl := List.mem_append_right _ (List.mem_append_left _ (List.mem_of_getElem? h))
theorem lt_2 {w : Cond} (i : Nat) (h : tables_1_2[i]? = some w) : w ∈ lw_tbl := List.mem_append_right _ (List.mem_append_right _ (List.mem_append_left _ (List.mem_of_getElem? h)))
theorem lt_3 {w : Cond} (i : Nat) (h : tables_1_3[i]? = some w) : w ∈ lw_tbl := List.mem_append_right _ (List.mem_append_right _ (List.mem_append_right _ (List.mem_append_left _ (List.mem_of_getElem? h))))
theorem lt_4 {w : Cond} (i : Nat) (h : tables_1_4[i]? = some w) : w ∈ lw_tbl := List.mem_append_right _ (List.mem_append_right _ (List.mem_append_right _ (List.mem_append_right _ (List.mem_append_left _ (List.mem_of_getElem? h)))))
theorem lt_5 {w : Cond} (i : Nat) (h : tables_1_5[i]? = some w) : w ∈ lw_tbl := List.mem_append_right _ (List.mem_append_right _ (List.mem_append_right _ (List.mem_append_right _ (List.mem_append_right _ (List.mem_append_left _ (List.mem_of_getElem? h))))))
theorem lt_6 {w : Cond} (i : Nat) (h : tables_1_6[i]? = some w) : w ∈ lw_tbl := List.mem_append_right _ (List.mem_append_right _ (List.mem_append_right _ (List.mem_append_right _ (List.mem_append_right _ (List.mem_append_right _ (List.mem_append_left _ (List.mem_of_getElem? h)))))))
theorem lt_8 {w : Cond} (i : Nat) (h : tables_1_8[i]? = some w) : w ∈ lw_tbl := List.mem_append_right _ (List.mem_append_right _ (List.mem_append_right _ (List.mem_append_right _ (List.mem_append_right _ (List.mem_append_right _ (List.mem_append_right _ (List.mem_append_right _ (List.mem_of_getElem? h))))))))
set_option maxRecDepth 100000 in
theorem inst_all : ∀ (ci : Nat) (q : vw_C), vwCl[ci]? = some q → Cond.instantiable q.1 q.2.2 ∈ lw_tbl
  | 0, q, h => by cases h; exact lt_2 15 rfl
  | 1, q, h => by cases h; exact lt_1 53 rfl
  | 2, q, h => by cases h; exact lt_2 83 rfl
  | 3, q, h => by cases h; exact lt_1 61 rfl
  | 4, q, h => by cases h; exact lt_1 168 rfl
  | 5, q, h => by cases h; exact lt_2 35 rfl
  | 6, q, h => by cases h; exact lt_1 235 rfl
  | 7, q, h => by cases h; exact lt_1 184 rfl
  | 8, q, h => by cases h; exact lt_1 29 rfl
  | 9, q, h => by cases h; exact lt_2 52 rfl
  | 10, q, h => by cases h; exact lt_1 21 rfl
  | 11, q, h => by cases h; exact lt_5 139 rfl
  | ci + 12, q, h => absurd (ctab _ q h).2.2.2.2 (by omega)
theorem known_at {s : State} {args : Array Value} (hts : ∀ w ∈ lw_tbl, w.before args s = true) (ci : Nat) : ∃ (cC : ClassId) (iS : Nat → Nat), ∀ q : vw_C, vwCl[ci]? = some q → u_Kn s q.1 q.2.1 q.2.2 cC iS := by
  cases hq : vwCl[ci]? with
  | none => exact ⟨0, fun _ => 0, fun q h => by cases h⟩
  | some q =>
    obtain ⟨cC, iS, hk⟩ := u_known (ws := wsA) (fun w hw => hts w (List.mem_filter.mp hw).1) (ctab ci q hq).1 (hts _ (inst_all ci q hq))
    exact ⟨cC, iS, fun q' h => by cases h; exact hk⟩
theorem arr_at {s : State} {args : Array Value} {ty : FieldType} (h : (Cond.arrayClass ty).before args s = true) : ∃ cA : ClassId, ArrOfT s cA ty ∧ s.vm.findClass ("[" ++ ty.toString) = some cA := by
  obtain ⟨c, k, comp, h1, h2, h3⟩ := Cond.arrayClass_spec h
  exact ⟨c, fun n z => ⟨fun k h => (by cases h), k, h2, comp, h3⟩, h1⟩
theorem arr_obj {s : State} {C : String} (h : va_AO C s) : ∃ cA : ClassId, ArrOfT s cA (.object C) ∧ va_RA s cA (.object C) := by
  obtain ⟨comp, c, k, h1, h2, h3, h4, h5⟩ := Cond.arrayOver_spec h
  exact ⟨c, fun n z => ⟨fun k h => (by cases h), k, h3, comp, h4⟩, k, comp, h3, h4, h1, h5⟩
theorem arr_row {s : State} (h : va_RR s) : ∃ cA : ClassId, ArrOfT s cA (.array .int) ∧ s.vm.findClass ("[" ++ (FieldType.array .int).toString) = some cA := by
  unfold va_RR Cond.before Cond.holds at h
  simp only [Cond.value, beq_iff_eq] at h
  cases hc : s.vm.findClass (FieldType.array .int).toString with
  | none => simp [hc] at h
  | some comp =>
    simp only [hc, Option.bind_some, Option.bind_eq_some_iff, Option.map_eq_some_iff] at h
    obtain ⟨c, hi, k, hk, hb⟩ := h
    cases hkind : k.kind with
    | array component ty =>
      rw [hkind] at hb
      simp at hb
      obtain ⟨hb1, hb2⟩ := hb
      subst hb1
      exact ⟨c, fun n z => ⟨fun k h => (by cases h), k, hk, component, hkind⟩, hb2⟩
    | _ => rw [hkind] at hb; simp at hb
set_option maxRecDepth 100000 in
theorem kx_at {s : State} {args : Array Value} (hts : ∀ w ∈ lw_tbl, w.before args s = true) : ∃ (D : va_G) (cy : Nat → ClassId), Kx D cy s := by
  have hAO : va_AO RX7 s := va_AO.of (hts _ (lt_2 1 rfl))
  have hRR : va_RR s := hts _ (lt_1 59 rfl)
  obtain ⟨c12, a12, b12⟩ := arr_at (ty := .byte) (hts _ (lt_6 89 rfl))
  obtain ⟨c13, a13, b13⟩ := arr_at (ty := .char) (hts _ (lt_1 51 rfl))
  obtain ⟨c14, a14, b14⟩ := arr_at (ty := .int) (hts _ (lt_1 106 rfl))
  obtain ⟨c15, a15, b15⟩ := arr_at (ty := .boolean) (hts _ (lt_6 88 rfl))
  obtain ⟨c16, a16, b16⟩ := arr_obj hAO
  obtain ⟨c17, a17, b17⟩ := arr_row hRR
  obtain ⟨c18, a18, b18⟩ := arr_at (ty := .long) (hts _ (lt_8 43 rfl))
  refine ⟨(fun c => (known_at hts c).choose, fun c => (known_at hts c).choose_spec.choose), fun k => if k = 12 then c12 else if k = 13 then c13 else if k = 14 then c14 else if k = 15 then c15 else if k = 16 then c16 else if k = 17 then c17 else c18, ⟨fun c q hq => (known_at hts c).choose_spec.choose_spec q hq, ?_⟩, ?_, hAO, hRR⟩
  · intro k q hk
    match k, hk with
    | 0, hk => cases hk; exact ⟨a12, b12⟩
    | 1, hk => cases hk; exact ⟨a13, b13⟩
    | 2, hk => cases hk; exact ⟨a14, b14⟩
    | 3, hk => cases hk; exact ⟨a15, b15⟩
    | 4, hk => cases hk; exact ⟨a16, b16⟩
    | 5, hk => cases hk; exact ⟨a17, b17⟩
    | 6, hk => cases hk; exact ⟨a18, b18⟩
    | k + 7, hk => simp [tysA] at hk
  · intro w hw
    simp only [nwA, List.mem_cons, List.not_mem_nil, or_false] at hw
    rcases hw with rfl | rfl | rfl | rfl
    · exact va_Nw.of rfl (hts _ (lt_3 197 rfl))
    · exact va_Nw.of rfl (hts _ (lt_4 88 rfl))
    · exact va_Nw.of rfl (hts _ (lt_4 115 rfl))
    · exact va_Nw.of rfl (hts _ (lt_4 188 rfl))
set_option maxRecDepth 100000 in
theorem zx_at {l : Launch} (hflags : l.flags = flags0) {s : State} {args : Array Value} (hts : ∀ w ∈ lw_tbl, w.before args s = true) (hgv : (Jvm.Cond.and given_1 narrow_1).before args s = true) : ZX l (fun q : Nat => s.heap.size ≤ q) s := by
  have hs := flat_of_before _ hgv
  refine ⟨?_, ?_, vx_Zqof (hts _ (lt_5 89 rfl)) (hts _ (lt_1 15 rfl)) (hs (.isRef (.static "java/lang/Throwable" "UNASSIGNED_STACK" "[Ljava/lang/StackTraceElement;")) (by decide +kernel)) (fun a h => Nat.not_le.mpr h), vx_Zqof (hts _ (lt_5 91 rfl)) (hts _ (lt_1 15 rfl)) (hs (.isRef (.static "java/lang/Throwable" "SUPPRESSED_SENTINEL" "Ljava/util/List;")) (by decide +kernel)) (fun a h => Nat.not_le.mpr h)⟩
  · unfold Launch.stackTraces
    rw [hflags]
    decide +kernel
  · intro w hw
    simp only [xwA, List.mem_cons, List.not_mem_nil, or_false] at hw
    rcases hw with rfl | rfl | rfl | rfl
    · exact va_Nw.of rfl (hts _ (lt_5 65 rfl))
    · exact va_Nw.of rfl (hts _ (lt_5 67 rfl))
    · exact va_Nw.of rfl (hts _ (lt_5 69 rfl))
    · exact va_Nw.of rfl (hts _ (lt_5 64 rfl))
/-- YOUR PART: from the entry, for every script of at most 3072 ints, the law comes to its end with true ('hflags': the launch's flags, for a law that throws: no stack traces) -/
theorem whole_start {p : Program} {e : Env} {s : State} {m : MethodId} {below : List Frame} {meth : Method} {c : Code} (l : Launch) (hflags : l.flags = flags0) {b L : Nat} {xs : Nat → Int32} (hL : L ≤ 3072) (C0 : lw_At p s m meth c b L xs) : W p l e room_1 s m #[Value.ref b] below meth c s.heap [] 0 0 (lw_Z below #[Value.ref b] s) (entryFrame m ([Value.ref b] : List Value).toArray 7) := by
  obtain ⟨hx, hb, hr, hml, hown, hts, hX, hbl, hlocks, hgv⟩ := id C0
  obtain ⟨D, cy, hK⟩ := kx_at hts
  have C : lq_C l D cy p s m meth c b L xs := ⟨hx, hb, hr, hml, hown, fun w hw => hts w (List.mem_filter.mp hw).1, hX, hbl, hlocks, hK, zx_at hflags hts hgv⟩
  have hl := lv_entry ([.ref b]) (n := 7) (Nat.le_of_ble_eq_true rfl)
  rw [lg_entry_eq]
  exact lq_start (ad := fun i => s.heap.size + i) (h := s.heap.size) C hL s.heap [] _ ⟨fun k q h => by simp [Wo] at h, ⟨fun i j p q h => by simp [Wo] at h, fun k q h => by simp [Wo] at h⟩⟩ ⟨rfl, fun _ => rfl⟩ va_S.rf hl
