/-! orders drawn -/
def ntzn (x : Int32) : Int32 := match f_J6_numberOfTrailingZeros_0f7a4 x (fun _ _ => 0) with
  | some r => r.1
  | none => 0
theorem ntz_spec (x : Int32) (M : Mem) : f_J6_numberOfTrailingZeros_0f7a4 x M = some (ntzn x, M) := by
  unfold ntzn f_J6_numberOfTrailingZeros_0f7a4 f_J6_numberOfTrailingZeros_0f7a4_0 f_J6_numberOfTrailingZeros_0f7a4_34 f_J6_numberOfTrailingZeros_0f7a4_49 f_J6_numberOfTrailingZeros_0f7a4_62 f_J6_numberOfTrailingZeros_0f7a4_74
  simp only [vl]
  repeat' (first | rfl | split)
def bl (n : Nat) : List Nat := (List.range 6).filter (fun g => n.testBit g)
def clrN : Nat → Int32 → Int32
  | 0, b => b
  | i + 1, b => clrN i (b &&& (b - 1))
theorem clr_s : ∀ (i : Nat) (b : Int32), clrN (i + 1) b = clrN i b &&& (clrN i b - 1)
  | 0, _ => rfl
  | i + 1, b => clr_s i (b &&& (b - 1))
set_option maxRecDepth 100000 in
theorem bl_all : ∀ n, n < 64 → bcn (nI n) = nI (bl n).length ∧ (nI n = 0 ↔ bl n = []) ∧ (bl n).length ≤ 6 := by decide +kernel
set_option maxRecDepth 100000 in
theorem bl_pick : ∀ n, n < 64 → ∀ i, i < 6 → i < (bl n).length → ntzn (clrN i (nI n)) = nI (ga (bl n) i) ∧ (nI n &&& ((1 <<< (nI (ga (bl n) i) &&& 31)) ^^^ (-1))) = nI (n - 2 ^ (ga (bl n) i)) ∧ bl (n - 2 ^ (ga (bl n) i)) = (bl n).eraseIdx i := by decide +kernel
theorem bl_bit : ∀ n, n < 64 → ∀ g, g < 6 → (bit (nI n) (nI g) ↔ n.testBit g = true) := by decide +kernel
theorem bl_p {p : Nat → Bool} {n : Nat} (hn : n < 64) (e : bI p = nI n) : bl n = fl p 6 := by
  unfold bl fl
  apply List.filter_congr
  intro g hg
  have hg := List.mem_range.mp hg
  have h1 := bl_bit n hn g hg
  rw [← e, bit_bI p (by omega)] at h1
  rw [Bool.eq_iff_iff]
  exact ⟨fun h => (h1.mpr h).2, fun h => h1.mp ⟨hg, h⟩⟩
def nxd (d : Int32) : Int32 := d * 1103515245 + 12345
def rnw (d : Int32) : Nat := d.toUInt32.toNat / 65536
def rnd (d : Int32) (m : Nat) : Nat := rnw d % m
theorem shr16 (d : Int32) : (d.toUInt32 >>> ((16 : Int32).toUInt32 &&& Int32.toUInt32 31)).toInt32 = nI (rnw d) := by
  have e : ((16 : Int32).toUInt32 &&& Int32.toUInt32 31) = 16 := by decide
  rw [e]
  apply Int32.toBitVec_inj.mp
  apply BitVec.eq_of_toNat_eq
  show (d.toUInt32 >>> 16).toNat = (BitVec.ofNat 32 (rnw d)).toNat
  rw [BitVec.toNat_ofNat, UInt32.toNat_shiftRight]
  have h1 : d.toUInt32.toNat < 2 ^ 32 := UInt32.toNat_lt _
  unfold rnw
  show d.toUInt32.toNat >>> (16 % 32) = _
  rw [show 16 % 32 = 16 from rfl, Nat.shiftRight_eq_div_pow, Nat.mod_eq_of_lt (by omega)]
theorem rnw_lt (d : Int32) : rnw d < 65536 := by
  have h1 : d.toUInt32.toNat < 2 ^ 32 := UInt32.toNat_lt _
  unfold rnw
  omega
theorem nI_div {a b : Nat} (ha : a < 65536) (hb : 0 < b) (hb2 : b ≤ 6) : nI a / nI b = nI (a / b) := by
  apply Int32.toInt_inj.mp
  have hle : a / b ≤ a := Nat.div_le_self a b
  rw [Int32.toInt_div, nI_toInt (by omega), nI_toInt (by omega), nI_toInt (by omega), ← Int.ofNat_tdiv]
  generalize a / b = q at hle ⊢
  apply Int.bmod_eq_of_le
  · omega
  · omega
theorem rnd_spec {d : Int32} {m : Nat} (h0 : 0 < m) (h6 : m ≤ 6) : nI (rnw d) - nI (rnw d) / nI m * nI m = nI (rnd d m) := by
  have hw := rnw_lt d
  rw [nI_div hw h0 h6, pk_mul, pk_sub (Nat.div_mul_le_self _ _)]
  congr 1
  unfold rnd
  have := Nat.div_add_mod (rnw d) m
  rw [Nat.mul_comm] at this
  omega
theorem rnd_lt {d : Int32} {m : Nat} (h0 : 0 < m) : rnd d m < m := Nat.mod_lt _ h0
def drw : Nat → Int32 → List Nat → Nat → Int32 × List Nat
  | 0, d, c, _ => (d, c)
  | f + 1, d, c, n => if bl n = [] then (d, c) else drw f (nxd d) (c ++ [ga (bl n) (rnd (nxd d) (bl n).length)]) (n - 2 ^ (ga (bl n) (rnd (nxd d) (bl n).length)))
theorem era_perm {b : List Nat} {i : Nat} (h : i < b.length) : (ga b i :: b.eraseIdx i).Perm b := by
  rw [List.eraseIdx_eq_take_drop_succ]
  have e : b.take i ++ ga b i :: b.drop (i + 1) = b := by
    rw [ga_get h, ← List.drop_eq_getElem_cons h, List.take_append_drop]
  exact List.perm_middle.symm.trans (List.Perm.of_eq e)
theorem drw_perm : ∀ (f : Nat) (d : Int32) (c : List Nat) (n : Nat), n < 64 → (bl n).length ≤ f → (drw f d c n).2.Perm (c ++ bl n)
  | 0, d, c, n, hn, hf => by
    have : bl n = [] := List.eq_nil_of_length_eq_zero (by omega)
    rw [this, List.append_nil]
    exact List.Perm.refl _
  | f + 1, d, c, n, hn, hf => by
    unfold drw
    by_cases z : bl n = []
    · rw [if_pos z, z, List.append_nil]
    · rw [if_neg z]
      have h6 := (bl_all n hn).2.2
      have h0 : 0 < (bl n).length := List.length_pos_iff.mpr z
      have hi := rnd_lt (d := nxd d) h0
      obtain ⟨_, _, p3⟩ := bl_pick n hn (rnd (nxd d) (bl n).length) (by omega) hi
      have ih := drw_perm f (nxd d) (c ++ [ga (bl n) (rnd (nxd d) (bl n).length)]) (n - 2 ^ (ga (bl n) (rnd (nxd d) (bl n).length))) (Nat.lt_of_le_of_lt (Nat.sub_le _ _) hn) (by rw [p3, List.length_eraseIdx_of_lt hi]; omega)
      refine ih.trans ?_
      rw [p3, List.append_assoc]
      exact List.Perm.append_left c (era_perm hi)
theorem Ar_draw {f f' : Nat → Int32} {c b : List Nat} {i g : Nat} (h : Ar f (c ++ b)) (hi : i < b.length) (hf : ∀ t, f' t = if t = c.length then nI g else if c.length < t ∧ t ≤ c.length + i then f (t - 1) else f t) : Ar f' ((c ++ [g]) ++ b.eraseIdx i) := by
  intro t x e
  rw [hf t]
  by_cases z : t = c.length
  · rw [if_pos z]
    subst z
    rw [List.getElem?_append_left (by simp), List.getElem?_append_right (Nat.le_refl _)] at e
    simp at e
    rw [e]
  · rw [if_neg z]
    by_cases y : t < c.length
    · rw [if_neg (by omega)]
      rw [List.getElem?_append_left (by simp; omega), List.getElem?_append_left y] at e
      exact h t x (by rw [List.getElem?_append_left y]; exact e)
    · rw [List.getElem?_append_right (by simp; omega)] at e
      have e1 : t - (c ++ [g]).length = t - c.length - 1 := by simp; omega
      rw [e1, List.getElem?_eraseIdx] at e
      by_cases w : t - c.length - 1 < i
      · rw [if_pos w] at e
        rw [if_pos (by omega)]
        exact h (t - 1) x (by rw [List.getElem?_append_right (by omega), show t - 1 - c.length = t - c.length - 1 by omega]; exact e)
      · rw [if_neg w] at e
        rw [if_neg (by omega)]
        exact h t x (by rw [List.getElem?_append_right (by omega), show t - c.length = t - c.length - 1 + 1 by omega]; exact e)
section DrC
variable {q : Nat} {K10 : Int32 → Int32 → Mem → Option (Int32 × Mem)} {x3 x6 : Int32} {k pick : Nat} {f : Nat → Int32} {M0 : Mem} {Q : Int32 → Mem → Prop}
theorem dr58 (hp5 : pick ≤ 5) : ∀ (m j n : Nat) (M : Mem), j = k + m → m < n → j ≤ pick → (∀ t, M (q + 1) t = if j < t ∧ t ≤ pick then f (t - 1) else f t) → Fr (fun i _ => i = q + 1) M0 M → (∀ M', (∀ t, M' (q + 1) t = if t = k then x6 else if k < t ∧ t ≤ pick then f (t - 1) else f t) → Fr (fun i _ => i = q + 1) M0 M' → wp (K10 x3 (nI (k + 1)) M') Q) → wp (f_X5_draw_58 K10 q n x3 (nI k) x6 (nI j) M) Q
  | 0, j, n + 1, M, he, _, hj, hI, hF, hk => by
    have : j = k := by omega
    subst this
    unfold f_X5_draw_58
    rw [if_neg (nI_nlt (Nat.le_refl _) (by omega)), gd_t (nI_inb (show j < 6 by omega) (by decide)), nI_clamp (by omega), wp_ml, wp_vl, nI_1]
    refine hk _ (fun t => ?_) (Fr.up (S := fun i _ => i = q + 1) hF rfl)
    rw [up_at]
    by_cases z : t = j
    · rw [if_pos ⟨rfl, z⟩, if_pos z]
    · rw [if_neg (fun w => z w.2), if_neg z]
      exact hI t
  | m + 1, j, n + 1, M, he, hn, hj, hI, hF, hk => by
    unfold f_X5_draw_58
    rw [if_pos (nI_lt (show k < j by omega) (by omega)), nI_sub1 (by omega), gd_t (nI_inb (show j - 1 < 6 by omega) (by decide)), gd_t (nI_inb (show j < 6 by omega) (by decide)), nI_clamp (show j < 2 ^ 31 by omega), nI_clamp (show j - 1 < 2 ^ 31 by omega), wp_ml, wp_vl, addm1, nI_sub1 (by omega)]
    refine dr58 hp5 m (j - 1) n _ (by omega) (by omega) (by omega) (fun t => ?_) (Fr.up (S := fun i _ => i = q + 1) hF rfl) hk
    rw [up_at]
    by_cases z : t = j
    · rw [if_pos ⟨rfl, z⟩, if_pos (by omega), hI (j - 1), if_neg (by omega), z]
    · rw [if_neg (fun w => z w.2), hI t]
      by_cases w : j < t ∧ t ≤ pick
      · rw [if_pos w, if_pos (by omega)]
      · rw [if_neg w, if_neg (by omega)]
end DrC
theorem dr10 {q : Nat} : ∀ (f : Nat) (d : Int32) (c : List Nat) (n nf : Nat) (M : Mem), n < 64 → (bl n).length ≤ f → f < nf → OrC q M (c ++ bl n) → wp (f_X5_draw_10 q nf d (nI c.length) M) (fun r M' => r = (drw f d c n).1 ∧ OrC q M' (drw f d c n).2 ∧ Fr (fun i _ => i = q + 1) M M')
  | 0, d, c, n, nf + 1, M, hn, hf, _, hq => by
    have e0 : bl n = [] := List.eq_nil_of_length_eq_zero (by omega)
    have h6 := hq.1
    have h1 := hq.2.1
    rw [List.length_append] at h6 h1
    unfold f_X5_draw_10
    rw [h1, if_neg (nI_nlt (by omega) (by omega)), wp_s]
    rw [e0, List.append_nil] at hq
    exact ⟨rfl, hq, Fr.rf⟩
  | f + 1, d, c, n, nf + 1, M, hn, hf, hnf, hq => by
    have h6 := hq.1
    have h1 := hq.2.1
    rw [List.length_append] at h6 h1
    unfold f_X5_draw_10 drw
    by_cases z : bl n = []
    · rw [if_pos z]
      rw [z] at h1
      have h1' : M q 1 = nI c.length := h1
      rw [h1', if_neg (nI_nlt (Nat.le_refl _) (by omega)), wp_s]
      rw [z, List.append_nil] at hq
      exact ⟨rfl, hq, Fr.rf⟩
    · rw [if_neg z]
      have h0 : 0 < (bl n).length := List.length_pos_iff.mpr z
      have hi := rnd_lt (d := nxd d) h0
      obtain ⟨_, _, p3⟩ := bl_pick n hn (rnd (nxd d) (bl n).length) (by omega) hi
      rw [h1, if_pos (nI_lt (by omega) (by omega)), wp_vl, show d * 1103515245 + 12345 = nxd d from rfl, shr16, wp_vl, pk_sub (by omega), show c.length + (bl n).length - c.length = (bl n).length by omega]
      rw [gd_t (show ¬ nI (bl n).length = 0 from fun w => by have := (nI_eq (b := 0) (by omega) (by decide)).mp w; omega), rnd_spec h0 (by omega), nI_add, wp_vl, gd_t (nI_inb (show c.length + rnd (nxd d) (bl n).length < 6 by omega) (by decide)), nI_clamp (by omega), wp_vl]
      have ag : M (q + 1) (c.length + rnd (nxd d) (bl n).length) = nI (ga (bl n) (rnd (nxd d) (bl n).length)) := hq.2.2 _ _ (by rw [List.getElem?_append_right (by omega), show c.length + rnd (nxd d) (bl n).length - c.length = rnd (nxd d) (bl n).length by omega]; exact ga_at hi)
      rw [ag]
      refine dr58 (f := M (q + 1)) (pick := c.length + rnd (nxd d) (bl n).length) (M0 := M) (by omega) (rnd (nxd d) (bl n).length) _ FU M rfl (by show _ < 2000; omega) (Nat.le_refl _) (fun t => by rw [if_neg (by omega)]) Fr.rf (fun M' hM' hF' => ?_)
      have hA := Ar_draw (i := rnd (nxd d) (bl n).length) hq.2.2 hi hM'
      rw [← p3] at hA
      have hlen : (c ++ [ga (bl n) (rnd (nxd d) (bl n).length)] ++ bl (n - 2 ^ ga (bl n) (rnd (nxd d) (bl n).length))).length = c.length + (bl n).length := by
        rw [List.length_append, List.length_append, p3, List.length_eraseIdx_of_lt hi, List.length_singleton]; omega
      have hq' : OrC q M' ((c ++ [ga (bl n) (rnd (nxd d) (bl n).length)]) ++ bl (n - 2 ^ ga (bl n) (rnd (nxd d) (bl n).length))) := ⟨by rw [hlen]; exact h6, by rw [hlen, hF' q 1 (by omega)]; exact h1, hA⟩
      have ih := dr10 f (nxd d) (c ++ [ga (bl n) (rnd (nxd d) (bl n).length)]) (n - 2 ^ ga (bl n) (rnd (nxd d) (bl n).length)) nf M' (Nat.lt_of_le_of_lt (Nat.sub_le _ _) hn) (by rw [p3, List.length_eraseIdx_of_lt hi]; omega) (by omega) hq'
      rw [List.length_append, List.length_singleton] at ih
      exact wp_mono ih (fun r M'' w => ⟨w.1, w.2.1, hF'.tr w.2.2⟩)
theorem draw_cls {q : Nat} {M : Mem} {p : Nat → Bool} {n : Nat} {d : Int32} (hn : n < 64) (e : bI p = nI n) : wp (f_X5_draw q (bI p) d M) (fun r M' => r = (drw 6 d [] n).1 ∧ OrC q M' (drw 6 d [] n).2 ∧ Fr (fun i j => (i = q ∧ j = 1) ∨ i = q + 1) M M') := by
  unfold f_X5_draw f_X5_draw_0
  rw [wp_bd]
  refine wp_mono (beg_cls (q := q) (p := p)) (fun _ M1 w => ?_)
  refine wp_mono (dr10 6 d [] n FU M1 hn (bl_all n hn).2.2 (by decide) ?_) (fun r M' y => ⟨y.1, y.2.1, w.2.tr (y.2.2.mn (fun i j z => Or.inr z))⟩)
  rw [List.nil_append, bl_p hn e]
  exact w.1
def drF : Nat → Nat → Prop := fun i j => i = 192 ∨ (i = 174 ∧ (j = 37 ∨ j = 56))
theorem do26 {K7 : Int32 → Mem → Option (Int32 × Mem)} {n i : Nat} {c : List Nat} {M : Mem} {Q : Int32 → Mem → Prop} (hn : n < 64) (hi : i < (bl n).length) (hc : c.length < 6) (h37 : M 174 37 = nI c.length) (hQ : wp (K7 (nI (n - 2 ^ ga (bl n) i)) (up (up M 192 c.length (nI (ga (bl n) i))) 174 37 (nI (c.length + 1)))) Q) : ∀ (m j nf : Nat), j + m = i → m < nf → wp (f_X11_drawOrder_26 K7 nf (nI n) (nI i) (clrN j (nI n)) (nI j) M) Q
  | 0, j, nf + 1, he, _ => by
    have h6 := (bl_all n hn).2.2
    have : j = i := by omega
    subst this
    obtain ⟨p1, p2, p3⟩ := bl_pick n hn j (by omega) hi
    unfold f_X11_drawOrder_26
    rw [if_neg (nI_nlt (Nat.le_refl _) (by omega)), ntz_spec, bd_e, h37, gd_t (nI_inb hc (by decide)), nI_clamp (by omega), p1, wp_ml, wp_ml, up_row (j := 174) _ _ _ (by decide), h37, nI_1, wp_vl, p2]
    exact hQ
  | m + 1, j, nf + 1, he, hm => by
    have h6 := (bl_all n hn).2.2
    unfold f_X11_drawOrder_26
    rw [if_pos (nI_lt (by omega) (by omega)), wp_vl, wp_vl, nI_1, ← clr_s]
    exact do26 hn hi hc h37 hQ m (j + 1) nf (by omega) (by omega)
theorem do7 : ∀ (f : Nat) (d : Int32) (c : List Nat) (n nf : Nat) (M : Mem), n < 64 → (bl n).length ≤ f → f < nf → c.length + (bl n).length ≤ 6 → M 174 56 = d → OrR M c → wp (f_X11_drawOrder_7 nf (nI n) M) (fun _ M' => M' 174 56 = (drw f d c n).1 ∧ OrR M' (drw f d c n).2 ∧ Fr drF M M')
  | 0, d, c, n, nf + 1, M, hn, hf, _, hc, hd, hq => by
    have e0 : bl n = [] := List.eq_nil_of_length_eq_zero (by omega)
    unfold f_X11_drawOrder_7
    rw [if_pos ((bl_all n hn).2.1.mpr e0), wp_s]
    exact ⟨hd, hq, Fr.rf⟩
  | f + 1, d, c, n, nf + 1, M, hn, hf, hnf, hc, hd, hq => by
    unfold f_X11_drawOrder_7 drw
    by_cases z : bl n = []
    · rw [if_pos z, if_pos ((bl_all n hn).2.1.mpr z), wp_s]
      exact ⟨hd, hq, Fr.rf⟩
    · rw [if_neg z, if_neg (fun w => z ((bl_all n hn).2.1.mp w)), bc_spec, bd_e, (bl_all n hn).1]
      have h0 : 0 < (bl n).length := List.length_pos_iff.mpr z
      have hi := rnd_lt (d := nxd d) h0
      obtain ⟨p1, p2, p3⟩ := bl_pick n hn (rnd (nxd d) (bl n).length) (by omega) hi
      unfold f_X11_draw f_X11_draw_0
      rw [wp_bd, wp_ml, up_self, hd, show d * 1103515245 + 12345 = nxd d from rfl, shr16, wp_vl, gd_t (show ¬ nI (bl n).length = 0 from fun w => by have := (nI_eq (b := 0) (by omega) (by decide)).mp w; omega), rnd_spec h0 (by omega), wp_s]
      have hF1 : Fr drF M (up M 174 56 (nxd d)) := Fr.rf.up (by unfold drF; omega)
      refine do26 (c := c) hn hi (by omega) (by rw [up_col _ _ _ (by decide)]; exact hq.2.1) ?_ (rnd (nxd d) (bl n).length) 0 FU (by omega) (by show _ < 2000; omega)
      have hF2 : Fr drF (up M 174 56 (nxd d)) (up (up (up M 174 56 (nxd d)) 192 c.length (nI (ga (bl n) (rnd (nxd d) (bl n).length)))) 174 37 (nI (c.length + 1))) := (Fr.rf.up (by unfold drF; omega)).up (by unfold drF; omega)
      refine wp_mono (do7 f (nxd d) (c ++ [ga (bl n) (rnd (nxd d) (bl n).length)]) (n - 2 ^ ga (bl n) (rnd (nxd d) (bl n).length)) nf _ (Nat.lt_of_le_of_lt (Nat.sub_le _ _) hn) (by rw [p3, List.length_eraseIdx_of_lt hi]; omega) (by omega) (by rw [p3, List.length_eraseIdx_of_lt hi, List.length_append, List.length_singleton]; omega) ?_ ?_) (fun r M'' w => ⟨w.1, w.2.1, (hF1.tr hF2).tr w.2.2⟩)
      · rw [up_col _ _ _ (by decide), up_row _ _ _ (by decide), up_self]
      · refine ⟨by rw [List.length_append, List.length_singleton]; omega, by rw [up_self, List.length_append, List.length_singleton], ?_⟩
        rw [up_row _ _ _ (by decide), upS, up_row _ _ _ (by decide)]
        exact Ar_snoc hq.2.2 _
theorem draw_ref {M : Mem} {n : Nat} {d : Int32} (hn : n < 64) (hd : M 174 56 = d) : wp (f_X11_drawOrder (nI n) M) (fun _ M' => M' 174 56 = (drw 6 d [] n).1 ∧ OrR M' (drw 6 d [] n).2 ∧ Fr drF M M') := by
  unfold f_X11_drawOrder f_X11_drawOrder_0
  rw [wp_ml]
  have hF : Fr drF M (up M 174 37 0) := Fr.rf.up (by unfold drF; omega)
  refine wp_mono (do7 6 d [] n FU _ hn (bl_all n hn).2.2 (by decide) (by have := (bl_all n hn).2.2; show 0 + _ ≤ 6; omega) (by rw [up_col _ _ _ (by decide)]; exact hd) ⟨Nat.zero_le _, up_self _ _ _ _, fun k g e => by cases e⟩) (fun r M' w => ⟨w.1, w.2.1, hF.tr w.2.2⟩)
