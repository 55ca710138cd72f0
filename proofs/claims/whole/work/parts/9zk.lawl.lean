/-! the loop of the law -/
theorem and63 (x : Int32) : ∃ v : Nat, v < 64 ∧ x &&& 63 = nI v := by
  refine ⟨(x.toBitVec &&& 63#32).toNat, ?_, ?_⟩
  · rw [BitVec.toNat_and]
    exact Nat.lt_of_le_of_lt Nat.and_le_right (by decide)
  · apply Int32.toBitVec_inj.mp
    rw [Int32.toBitVec_and]
    show x.toBitVec &&& 63#32 = BitVec.ofNat 32 _
    rw [BitVec.ofNat_toNat, BitVec.setWidth_eq]
theorem cpl_up {N : Nat} {M : Mem} (hN : N < 512) (h : Cpl N M) : Cpl (N + 1) M := by
  obtain ⟨⟨C, σ, h1⟩, h2⟩ := h
  exact q_same h1 hN h2 (fun _ _ _ => rfl)
section LAWL
variable {l : Launch} {D : va_G} {cy : Nat → ClassId} {ad : Nat → Nat} {p : Program} {e : Env} {s : State} {m : MethodId} {below : List Frame} {meth : Method} {c : Code} {b L : Nat} {xs : Nat → Int32} {n k pc : Nat} {lv lv' : List (Nat × Value)} {st : List Value} {ms : Mm}
theorem lq_len (C : lq_C l D cy p s m meth c b L xs) (hd : decode code pc = .ok (.arraylength, 1)) (kk : lq_A l D cy ad p e s m below meth c b n k (pc + 1) lv (.int (nI L) :: st) ms) : lq_A l D cy ad p e s m below meth c b n k pc lv (.ref b :: st) ms := fun H locs ls hW hS hl => va_slen C.1 C.2.1 C.2.2.2.2.2.2.1 C.2.2.2.2.2.2.2.1 (Nat.not_le.mpr C.2.2.2.2.2.2.2.1) hS hd (kk H locs ls hW hS hl)
theorem lq_isub (C : lq_C l D cy p s m meth c b L xs) {x y : Int32} (hd : decode code pc = .ok (.isub, 1)) (kk : lq_A l D cy ad p e s m below meth c b n k (pc + 1) lv (.int (x - y) :: st) ms) : lq_A l D cy ad p e s m below meth c b n k pc lv (.int y :: .int x :: st) ms := fun H locs ls hW hS hl => lv_isub C.1 C.2.1 hd (kk H locs ls hW hS hl)
theorem lq_iand (C : lq_C l D cy p s m meth c b L xs) {x y : Int32} (hd : decode code pc = .ok (.iand, 1)) (kk : lq_A l D cy ad p e s m below meth c b n k (pc + 1) lv (.int (x &&& y) :: st) ms) : lq_A l D cy ad p e s m below meth c b n k pc lv (.int y :: .int x :: st) ms := fun H locs ls hW hS hl => lv_iand C.1 C.2.1 hd (kk H locs ls hW hS hl)
theorem lq_igt (C : lq_C l D cy p s m meth c b L xs) {x y : Int32} {off : Int} {tgt : Nat} (hd : decode code pc = .ok (.if_icmp .gt off, 3)) (ht : (pc : Int) + off = (tgt : Int)) (kt : y < x → lq_A l D cy ad p e s m below meth c b n k tgt lv st ms) (kf : ¬ y < x → lq_A l D cy ad p e s m below meth c b n k (pc + 3) lv st ms) : lq_A l D cy ad p e s m below meth c b n k pc lv (.int y :: .int x :: st) ms := fun H locs ls hW hS hl => lv_icmp_gt C.1 C.2.1 hd ht (fun h => kt h H locs ls hW hS hl) (fun h => kf h H locs ls hW hS hl)
theorem lq_iinc (C : lq_C l D cy p s m meth c b L xs) {i j : Nat} {z : Int} {x v : Int32} (hd : decode code pc = .ok (.iinc i z, 3)) (hk : lv[j]? = some (i, .int x)) (hv : x + Int32.ofInt z = v) (hn : i < 7) (hl0 : (i, Value.int v) :: lv.filter (fun q => !(q.1 == i) && !(q.1 + 1 == i && q.2.category == 2)) = lv') (kk : lq_A l D cy ad p e s m below meth c b n k (pc + 3) lv' st ms) : lq_A l D cy ad p e s m below meth c b n k pc lv st ms := fun H locs ls hW hS hl => lv_iinc C.1 C.2.1 hd hl hk hv hn hl0 (fun ls' hl' => kk H locs ls' hW hS hl')
theorem lq_tabIn (C : lq_C l D cy p s m meth c b L xs) {v P : Nat} {off : Int} (hv : v < 42) (ho : (#[184, 209, 234, 247, 260, 273, 341, 409, 446, 483, 556, 581, 618, 643, 656, 681, 694, 707, 744, 757, 770, 795, 820, 857, 894, 919, 944, 969, 1006, 1031, 1080, 1117, 1130, 1155, 1204, 1217, 1242, 1267, 1316, 1341, 1366, 1391] : Array Int)[v]? = some off) (ht : ((40 : Nat) : Int) + off = (P : Int)) (kk : lq_A l D cy ad p e s m below meth c b n k P lv st ms) : lq_A l D cy ad p e s m below meth c b n k 40 lv (.int (nI v) :: st) ms := fun H locs ls hW hS hl => lv_tableIn C.1 C.2.1 dL_40 (by rw [nI_toInt (by omega)]; omega) (by rw [nI_toInt (by omega)]; omega) (by rw [nI_toInt (by omega), Int.sub_zero, Int.toNat_natCast]; exact ho) ht (kk H locs ls hW hS hl)
theorem lq_tabOut (C : lq_C l D cy p s m meth c b L xs) {v P : Nat} (hv : ¬ v < 42) (hv2 : v < 64) (ht : ((40 : Nat) : Int) + 1447 = (P : Int)) (kk : lq_A l D cy ad p e s m below meth c b n k P lv st ms) : lq_A l D cy ad p e s m below meth c b n k 40 lv (.int (nI v) :: st) ms := fun H locs ls hW hS hl => lv_tableOut C.1 C.2.1 dL_40 (Or.inr (by rw [nI_toInt (by omega)]; omega)) ht (kk H locs ls hW hS hl)
theorem lq_disp (C : lq_C l D cy p s m meth c b L xs) {N : Nat} {f : Nat → Int32} {M : Mem} (hN : N < 512) (hi : 6 * N + 5 < L) (hL : L ≤ 3072) (hC : Cpl N M) (h1 : n ≤ 500000) (h2 : k ≤ 6000000) (kk : ∀ (M2 : Mem) (f2 : Nat → Int32), Cpl (N + 1) M2 → lq_A l D cy ad p e s m below meth c b (n + 1) (k + 6) 1487 (lq_L ad b (6 * N)) [] (lay [oc f2] M2)) : ∀ v : Nat, v < 42 → lq_A l D cy ad p e s m below meth c b n k 40 (lq_L ad b (6 * N)) [.int (nI v)] (lay [oc f] M) := by
  intro v hv
  match v, hv with
  | 0, _ => exact lq_tabIn (P := 224) C (by decide) rfl (by decide) (lc_sign C hN hi hL hC h1 h2 kk)
  | 1, _ => exact lq_tabIn (P := 249) C (by decide) rfl (by decide) (lc_end C hN hi hL hC h1 h2 kk)
  | 2, _ => exact lq_tabIn (P := 274) C (by decide) rfl (by decide) (lc_palace C hN hi hL hC h1 h2 kk)
  | 3, _ => exact lq_tabIn (P := 287) C (by decide) rfl (by decide) (lc_groups C hN hi hL hC h1 h2 kk)
  | 4, _ => exact lq_tabIn (P := 300) C (by decide) rfl (by decide) (lc_rule C hN hi hL hC h1 h2 kk)
  | 5, _ => exact lq_tabIn (P := 313) C (by decide) rfl (by decide) (lc_group C hN hi hL hC h1 h2 kk)
  | 6, _ => exact lq_tabIn (P := 381) C (by decide) rfl (by decide) (lc_room C hN hi hL hC h1 h2 kk)
  | 7, _ => exact lq_tabIn (P := 449) C (by decide) rfl (by decide) (lc_stay C hN hi hL hC h1 h2 kk)
  | 8, _ => exact lq_tabIn (P := 486) C (by decide) rfl (by decide) (lc_leave C hN hi hL hC h1 h2 kk)
  | 9, _ => exact lq_tabIn (P := 523) C (by decide) rfl (by decide) (lc_sheet C hN hi hL hC h1 h2 kk)
  | 10, _ => exact lq_tabIn (P := 596) C (by decide) rfl (by decide) (lc_off C hN hi hL hC h1 h2 kk)
  | 11, _ => exact lq_tabIn (P := 621) C (by decide) rfl (by decide) (lc_over C hN hi hL hC h1 h2 kk)
  | 12, _ => exact lq_tabIn (P := 658) C (by decide) rfl (by decide) (lc_stand C hN hi hL hC h1 h2 kk)
  | 13, _ => exact lq_tabIn (P := 683) C (by decide) rfl (by decide) (lc_minute C hN hi hL hC h1 h2 kk)
  | 14, _ => exact lq_tabIn (P := 696) C (by decide) rfl (by decide) (lc_minutes C hN hi hL hC h1 h2 kk)
  | 15, _ => exact lq_tabIn (P := 721) C (by decide) rfl (by decide) (lc_day C hN hi hL hC h1 h2 kk)
  | 16, _ => exact lq_tabIn (P := 734) C (by decide) rfl (by decide) (lc_undo C hN hi hL hC h1 h2 kk)
  | 17, _ => exact lq_tabIn (P := 747) C (by decide) rfl (by decide) (lc_where C hN hi hL hC h1 h2 kk)
  | 18, _ => exact lq_tabIn (P := 784) C (by decide) rfl (by decide) (lc_stuck C hN hi hL hC h1 h2 kk)
  | 19, _ => exact lq_tabIn (P := 797) C (by decide) rfl (by decide) (lc_order C hN hi hL hC h1 h2 kk)
  | 20, _ => exact lq_tabIn (P := 810) C (by decide) rfl (by decide) (lc_best C hN hi hL hC h1 h2 kk)
  | 21, _ => exact lq_tabIn (P := 835) C (by decide) rfl (by decide) (lc_calm C hN hi hL hC h1 h2 kk)
  | 22, _ => exact lq_tabIn (P := 860) C (by decide) rfl (by decide) (lc_many C hN hi hL hC h1 h2 kk)
  | 23, _ => exact lq_tabIn (P := 897) C (by decide) rfl (by decide) (lc_gap C hN hi hL hC h1 h2 kk)
  | 24, _ => exact lq_tabIn (P := 934) C (by decide) rfl (by decide) (lc_smooth C hN hi hL hC h1 h2 kk)
  | 25, _ => exact lq_tabIn (P := 959) C (by decide) rfl (by decide) (lc_every C hN hi hL hC h1 h2 kk)
  | 26, _ => exact lq_tabIn (P := 984) C (by decide) rfl (by decide) (lc_least C hN hi hL hC h1 h2 kk)
  | 27, _ => exact lq_tabIn (P := 1009) C (by decide) rfl (by decide) (lc_late C hN hi hL hC h1 h2 kk)
  | 28, _ => exact lq_tabIn (P := 1046) C (by decide) rfl (by decide) (lc_slack C hN hi hL hC h1 h2 kk)
  | 29, _ => exact lq_tabIn (P := 1071) C (by decide) rfl (by decide) (lc_dies C hN hi hL hC h1 h2 kk)
  | 30, _ => exact lq_tabIn (P := 1120) C (by decide) rfl (by decide) (lc_loss C hN hi hL hC h1 h2 kk)
  | 31, _ => exact lq_tabIn (P := 1157) C (by decide) rfl (by decide) (lc_pairs C hN hi hL hC h1 h2 kk)
  | 32, _ => exact lq_tabIn (P := 1170) C (by decide) rfl (by decide) (lc_brief C hN hi hL hC h1 h2 kk)
  | 33, _ => exact lq_tabIn (P := 1195) C (by decide) rfl (by decide) (lc_heard C hN hi hL hC h1 h2 kk)
  | 34, _ => exact lq_tabIn (P := 1244) C (by decide) rfl (by decide) (lc_forget C hN hi hL hC h1 h2 kk)
  | 35, _ => exact lq_tabIn (P := 1257) C (by decide) rfl (by decide) (lc_fits C hN hi hL hC h1 h2 kk)
  | 36, _ => exact lq_tabIn (P := 1282) C (by decide) rfl (by decide) (lc_began C hN hi hL hC h1 h2 kk)
  | 37, _ => exact lq_tabIn (P := 1307) C (by decide) rfl (by decide) (lc_season C hN hi hL hC h1 h2 kk)
  | 38, _ => exact lq_tabIn (P := 1356) C (by decide) rfl (by decide) (lc_keep C hN hi hL hC h1 h2 kk)
  | 39, _ => exact lq_tabIn (P := 1381) C (by decide) rfl (by decide) (lc_again C hN hi hL hC h1 h2 kk)
  | 40, _ => exact lq_tabIn (P := 1406) C (by decide) rfl (by decide) (lc_count C hN hi hL hC h1 h2 kk)
  | 41, _ => exact lq_tabIn (P := 1431) C (by decide) rfl (by decide) (lc_row C hN hi hL hC h1 h2 kk)
  | w + 42, h => exact absurd h (by omega)
theorem lq_loop (C : lq_C l D cy p s m meth c b L xs) (hL : L ≤ 3072) : ∀ (g N n k : Nat) (f : Nat → Int32) (M : Mem), 513 ≤ N + g → N ≤ 512 → n ≤ 1000 + N → k ≤ 10000 + 6 * N → Cpl N M → lq_A l D cy ad p e s m below meth c b n k 23 (lq_L ad b (6 * N)) [] (lay [oc f] M) := by
  intro g
  induction g with
  | zero => intro N n k f M h1 h2; exact absurd h1 (by omega)
  | succ g ih =>
    intro N n k f M h1 h2 h3 h4 hC
    refine lq_iload (x := nI (6 * N)) C 4 dL_23 rfl ?_
    refine lq_aload (x := b) C 0 dL_25 rfl rfl ?_
    refine lq_len C dL_26 ?_
    refine lq_bipush (v := nI 6) C dL_27 (by decide) ?_
    refine lq_isub C dL_29 ?_
    refine lq_igt (tgt := 1493) C dL_30 (by decide) (fun _ => lq_end C dL_1493 dL_1494 (by omega) (by omega)) (fun hng => ?_)
    have hi : 6 * N + 6 ≤ L := by
      rw [Int32.lt_iff_toInt_lt, pk_sub_toInt (by omega) (by decide), nI_toInt (by omega)] at hng
      omega
    have hN : N < 512 := by omega
    refine lq_aload (x := b) C 0 dL_33 rfl rfl ?_
    refine lq_iload (x := nI (6 * N)) C 4 dL_34 rfl ?_
    refine lq_at C dL_36 (by omega) hL ?_
    refine lq_bipush (v := 63) C dL_37 (by decide) ?_
    refine lq_iand C dL_39 ?_
    obtain ⟨v, hv, ev⟩ := and63 (xs (6 * N))
    rw [ev]
    have kk : ∀ (M2 : Mem) (f2 : Nat → Int32), Cpl (N + 1) M2 → lq_A l D cy ad p e s m below meth c b (n + 1) (k + 6) 1487 (lq_L ad b (6 * N)) [] (lay [oc f2] M2) := by
      intro M2 f2 hc2
      have h9 := ih (N + 1) (n + 1) (k + 6) f2 M2 (by omega) (by omega) (by omega) (by omega) hc2
      rw [show 6 * (N + 1) = 6 * N + 6 by omega] at h9
      refine lq_iinc (j := 4) (x := nI (6 * N)) (v := nI (6 * N + 6)) C dL_1487 rfl (nI_add (6 * N) 6) (by decide) rfl ?_
      refine lq_goto (tgt := 23) C dL_1490 (by decide) ?_
      exact lq_loc [1, 2, 3, 4, 0] rfl h9
    by_cases h42 : v < 42
    · exact lq_disp C hN (by omega) hL hC (by omega) (by omega) kk v h42
    · exact lq_tabOut (P := 1487) C h42 hv (by decide) (lq_widen (Nat.le_add_right _ 1) (Nat.le_add_right _ 6) (kk M f (cpl_up hN hC)))
end LAWL
