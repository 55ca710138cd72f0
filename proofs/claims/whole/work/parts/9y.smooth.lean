/-! smooth -/
def gpB (t : G3) (B : Nat) : Prop := ∃ a b c, a ≤ B ∧ b ≤ B ∧ c ≤ B ∧ t = (nI a, nI b, nI c)
theorem gp_step {C : Cf} (hC : COk C) {a b k : Nat} {t : G3} {B : Nat} (hB : B ≤ 1000) (h : gpB t B) : gpB (gpS C a b k t) (B + 30) := by
  obtain ⟨u, e, l, h1, h2, h3, rfl⟩ := h
  have s1 := Sy_le hC a (way C a k)
  have s2 := Sy_le hC b (way C a k)
  unfold gpS
  have e1 : nI l + nI (Sy C a (way C a k)) = nI (l + Sy C a (way C a k)) := nI_add _ _
  have e2 : nI e + nI (Sy C b (way C a k)) = nI (e + Sy C b (way C a k)) := nI_add _ _
  simp only [e1, e2]
  generalize hS : l + Sy C a (way C a k) = S
  have key : ∃ v, v ≤ B + 30 ∧ (if C.2.2.1 (way C a k) = true then nI u else if nI u < nI S - nI e then nI S - nI e else nI u) = nI v := by
    split
    · exact ⟨u, by omega, rfl⟩
    · by_cases z : e ≤ S
      · rw [pk_sub z]
        split
        · exact ⟨S - e, by omega, rfl⟩
        · exact ⟨u, by omega, rfl⟩
      · rw [if_neg]
        · exact ⟨u, by omega, rfl⟩
        · intro w
          rw [Int32.lt_iff_toInt_lt, nI_toInt (by omega)] at w
          have e3 : nI S - nI e = -(nI (e - S)) := by
            have : nI e = nI S + nI (e - S) := by rw [nI_add, show S + (e - S) = e by omega]
            rw [this, Int32.sub_eq_add_neg, Int32.neg_add, Int32.sub_eq_add_neg, ← Int32.add_assoc, ← Int32.sub_eq_add_neg (nI S) (nI S), Int32.sub_self, Int32.zero_add]
          have e4 : (-(nI (e - S))).toInt = -((e - S : Nat) : Int) := by
            rw [Int32.toInt_neg, nI_toInt (by omega)]
            apply Int.bmod_eq_of_le
            · omega
            · omega
          rw [e3, e4] at w
          omega
  obtain ⟨v, v1, v2⟩ := key
  exact ⟨v, e + Sy C b (way C a k), S, v1, by omega, by omega, by rw [v2]⟩
theorem gp_fold {C : Cf} (hC : COk C) {a b : Nat} : ∀ (m k : Nat) (t : G3) (B : Nat), m ≤ 6 → B + 30 * m ≤ 500 → gpB t B → gpB (foldF (gpS C a b) m k t) (B + 30 * m)
  | 0, _, _, _, _, _, h => h
  | m + 1, k, t, B, hm, hB, h => by
    have := gp_fold hC (a := a) (b := b) m (k + 1) (gpS C a b k t) (B + 30) (by omega) (by omega) (gp_step hC (by omega) h)
    rw [show B + 30 + 30 * m = B + 30 * (m + 1) by omega] at this
    exact this
def gpN (C : Cf) (a b : Nat) : Nat := (gapV C a b).toNatClampNeg
theorem gap_n {C : Cf} (hC : COk C) (a b : Nat) : gpN C a b ≤ 180 ∧ gapV C a b = nI (gpN C a b) := by
  have c1 := hC.1
  obtain ⟨u, e, l, h1, h2, h3, h4⟩ := gp_fold hC (a := a) (b := b) C.1 0 (0, 0, 0) 0 (by omega) (by omega) ⟨0, 0, 0, by omega, by omega, by omega, rfl⟩
  have e1 : gapV C a b = nI u := by unfold gapV; rw [h4]
  have e2 : gpN C a b = u := by unfold gpN; rw [e1, nI_clamp (by omega)]
  rw [e2]
  exact ⟨by omega, e1⟩
def soff (C : Cf) (l : List Nat) : Nat → Nat
  | 0 => 0
  | k + 1 => soff C l k + gpN C (ga l k) (ga l (k + 1))
theorem soff_le {C : Cf} (hC : COk C) (l : List Nat) : ∀ (k : Nat), soff C l k ≤ 180 * k
  | 0 => Nat.le_refl _
  | k + 1 => by
    have := soff_le hC l k
    have := (gap_n hC (ga l k) (ga l (k + 1))).1
    unfold soff
    omega
def smM (C : Cf) (l : List Nat) (k a : Nat) : Nat := if a < soff C l k + whl C (ga l k) then soff C l k + whl C (ga l k) else a
theorem sm_le {C : Cf} (hC : COk C) (l : List Nat) {k a : Nat} (hk : k < 6) (ha : a ≤ 1200) : smM C l k a ≤ 1200 := by
  have := soff_le hC l k
  have := whl_le hC (ga l k)
  unfold smM
  split <;> omega
def smV (C : Cf) (l : List Nat) : Nat := foldF (smM C l) l.length 0 0
theorem smF_le {C : Cf} (hC : COk C) (l : List Nat) : ∀ (m k a : Nat), k + m ≤ 6 → a ≤ 1200 → foldF (smM C l) m k a ≤ 1200
  | 0, _, _, _, ha => ha
  | m + 1, k, a, hk, ha => smF_le hC l m (k + 1) _ (by omega) (sm_le hC l (by omega) ha)
section SmC
variable {C : Cf} {M : Mem} {l : List Nat} {q : Nat}
theorem smC_loop (hC : COk C) (hM : CfC M C) (hl : ∀ g, g ∈ l → g < C.2.1) (hq : OrC q M l) : ∀ (m k n a : Nat), k + m = l.length → m < n → a ≤ 1200 → f_X10_smoothMinutes_7 q n (nI (soff C l (k - 1))) (nI a) (nI k) M = some (nI (foldF (smM C l) m k a), M)
  | 0, k, n + 1, a, he, _, ha => by
    have h6 := hq.1
    unfold f_X10_smoothMinutes_7
    rw [hq.2.1, if_neg (nI_nlt (by omega) (by omega))]
    rfl
  | m + 1, k, n + 1, a, he, hn, ha => by
    have h6 := hq.1
    have hk : k < l.length := by omega
    have hg := hl _ (ga_mem hk)
    have a1 : M (q + 1) k = nI (ga l k) := Ar_ga hq.2.2 hk
    have s1 := soff_le hC l k
    have w1 := whl_le hC (ga l k)
    have fin : f_X10_smoothMinutes_47 (f_X10_smoothMinutes_7 q n) q (nI (soff C l k)) (nI a) (nI k) M = some (nI (foldF (smM C l) (m + 1) k a), M) := by
      unfold f_X10_smoothMinutes_47
      rw [gd_t (nI_inb (show k < 6 by omega) (by decide)), nI_clamp (by omega), a1, c_whole hC hM hg, bd_e, nI_add]
      have e : (if nI a < nI (soff C l k + whl C (ga l k)) then nI (soff C l k + whl C (ga l k)) else nI a) = nI (smM C l k a) := by
        unfold smM
        by_cases z : a < soff C l k + whl C (ga l k)
        · rw [if_pos (nI_lt z (by omega)), if_pos z]
        · rw [if_neg (nI_nlt (by omega) (by omega)), if_neg z]
      rw [e]
      show f_X10_smoothMinutes_7 q n (nI (soff C l k)) (nI (smM C l k a)) (nI k + 1) M = _
      rw [nI_1]
      exact smC_loop hC hM hl hq m (k + 1) n _ (by omega) (by omega) (sm_le hC l (by omega) ha)
    unfold f_X10_smoothMinutes_7
    rw [hq.2.1, if_pos (nI_lt hk (by omega))]
    by_cases z : 0 < k
    · have a0 : M (q + 1) (k - 1) = nI (ga l (k - 1)) := Ar_ga hq.2.2 (show k - 1 < l.length by omega)
      have hg0 := hl _ (ga_mem (show k - 1 < l.length by omega))
      rw [if_pos (nIp z (by omega)), nI_sub1 z, gd_t (nI_inb (show k - 1 < 6 by omega) (by decide)), gd_t (nI_inb (show k < 6 by omega) (by decide)), nI_clamp (show k < 2 ^ 31 by omega), nI_clamp (show k - 1 < 2 ^ 31 by omega), a0, a1, c_gap hC hM hg0 hg, bd_e, (gap_n hC _ _).2, nI_add]
      have e : soff C l (k - 1) + gpN C (ga l (k - 1)) (ga l k) = soff C l k := by
        obtain ⟨j, rfl⟩ : ∃ j, k = j + 1 := ⟨k - 1, by omega⟩
        rfl
      rw [e]
      exact fin
    · have : k = 0 := by omega
      subst this
      rw [if_neg (by decide)]
      exact fin
theorem smC_spec (hC : COk C) (hM : CfC M C) (hl : ∀ g, g ∈ l → g < C.2.1) (hq : OrC q M l) : f_X10_smoothMinutes q M = some (nI (smV C l), M) := by
  have h6 := hq.1
  exact smC_loop hC hM hl hq l.length 0 FU 0 (by omega) (by show l.length < 2000; omega) (by omega)
end SmC
def soR (C : Cf) (l : List Nat) (k : Nat) : List Int32 := (List.range k).map (fun j => nI (soff C l j))
theorem soR_s (C : Cf) (l : List Nat) (k : Nat) : soR C l (k + 1) = soR C l k ++ [nI (soff C l k)] := by
  unfold soR
  rw [List.range_succ, List.map_append]; rfl
theorem soR_len (C : Cf) (l : List Nat) (k : Nat) : (soR C l k).length = k := by unfold soR; rw [List.length_map, List.length_range]
theorem tellOff_loop {C : Cf} {l : List Nat} {r0 : List Int32} (hC : COk C) (hl : ∀ g, g ∈ l → g < C.2.1) (hr : r0.length + l.length ≤ 12) : ∀ (m k n : Nat) (M : Mem), k + m = l.length → m < n → CfC M C → OrC 126 M l → RwC M (r0 ++ soR C l k) → wp (f_X10_tellSettingOff_4 126 n (nI (soff C l (k - 1))) (nI k) M) (fun _ M' => RwC M' (r0 ++ soR C l l.length) ∧ Fr rcS M M')
  | 0, k, n + 1, M, he, _, hM, hq, hR => by
    have h6 := hq.1
    have : k = l.length := by omega
    subst this
    unfold f_X10_tellSettingOff_4
    rw [hq.2.1, if_neg (nI_nlt (by omega) (by omega)), wp_s]
    exact ⟨hR, Fr.rf⟩
  | m + 1, k, n + 1, M, he, hn, hM, hq, hR => by
    have h6 := hq.1
    have c2 := hC.2.1
    have hk : k < l.length := by omega
    have hg := hl _ (ga_mem hk)
    have a1 : M 127 k = nI (ga l k) := Ar_ga hq.2.2 hk
    have fin : wp (f_X10_tellSettingOff_40 (f_X10_tellSettingOff_4 126 n) 126 (nI (soff C l k)) (nI k) M) (fun _ M' => RwC M' (r0 ++ soR C l l.length) ∧ Fr rcS M M') := by
      unfold f_X10_tellSettingOff_40
      rw [wp_bd]
      refine wp_mono (tell_spec (nI (soff C l k)) hR (by rw [List.length_append, soR_len]; omega)) (fun _ M1 w => ?_)
      rw [wp_vl, nI_1]
      refine wp_mono (tellOff_loop hC hl hr m (k + 1) n M1 (by omega) (by omega) (hM.eq2 c2 (fun i j hi => w.2 i j (by unfold cHo at hi; unfold rcS; omega))) (hq.eq (w.2 126 1 (by unfold rcS; omega)) (fun j => w.2 127 j (by unfold rcS; omega))) ?_) (fun _ M2 y => ⟨y.1, w.2.tr y.2⟩)
      rw [soR_s, ← List.append_assoc]
      exact w.1
    unfold f_X10_tellSettingOff_4
    rw [hq.2.1, if_pos (nI_lt hk (by omega))]
    by_cases z : 0 < k
    · have a0 : M 127 (k - 1) = nI (ga l (k - 1)) := Ar_ga hq.2.2 (show k - 1 < l.length by omega)
      have hg0 := hl _ (ga_mem (show k - 1 < l.length by omega))
      rw [if_pos (nIp z (by omega)), nI_sub1 z, gd_t (nI_inb (show k - 1 < 6 by omega) (by decide)), gd_t (nI_inb (show k < 6 by omega) (by decide)), nI_clamp (show k < 2 ^ 31 by omega), nI_clamp (show k - 1 < 2 ^ 31 by omega), a0, a1, c_gap hC hM hg0 hg, bd_e, (gap_n hC _ _).2, nI_add]
      have e : soff C l (k - 1) + gpN C (ga l (k - 1)) (ga l k) = soff C l k := by
        obtain ⟨j, rfl⟩ : ∃ j, k = j + 1 := ⟨k - 1, by omega⟩
        rfl
      rw [e]
      exact fin
    · have : k = 0 := by omega
      subst this
      rw [if_neg (by decide)]
      exact fin
/-- those that are asked for: there, and at least one -/
def Thn (C : Cf) (p : Nat → Bool) : Prop := (∀ g, C.2.1 ≤ g → p g = false) ∧ ∃ g, p g = true
theorem thn_l {C : Cf} {p : Nat → Bool} (h : Thn C p) {l : List Nat} (hl : InO p l) : ∀ g, g ∈ l → g < C.2.1 := by
  intro g hg
  apply Classical.byContradiction
  intro z
  have := ((io_mem hl).mp hg).2
  rw [h.1 g (by omega)] at this
  cases this
theorem thn_ne {C : Cf} {p : Nat → Bool} (hC : COk C) (h : Thn C p) {l : List Nat} (hl : InO p l) : 0 < l.length := by
  obtain ⟨g, hg⟩ := h.2
  have c2 := hC.2.1
  have hg6 : g < 6 := by
    apply Classical.byContradiction
    intro z
    rw [h.1 g (by omega)] at hg
    cases hg
  have : g ∈ l := (io_mem hl).mpr ⟨hg6, hg⟩
  exact List.length_pos_of_mem this
abbrev SSt : Type := Option (Nat × List Nat)
def sx (s : SSt) : Int32 := match s with
  | none => -1
  | some x => nI x.1
def sR (s : SSt) : Int32 := match s with
  | none => 1000000
  | some x => nI x.1
def smS (C : Cf) (s : SSt) (l : List Nat) : SSt := match s with
  | none => some (smV C l, l)
  | some x => if smV C l < x.1 then some (smV C l, l) else some x
def SmS (C : Cf) (p : Nat → Bool) : SSt := (chain 720 (fl p 6)).foldl (smS C) none
theorem smS_some (C : Cf) (s : SSt) (l : List Nat) : ∃ x, smS C s l = some x := by
  unfold smS
  cases s with
  | none => exact ⟨_, rfl⟩
  | some x =>
    show ∃ y, (if smV C l < x.1 then some (smV C l, l) else some x) = some y
    split
    · exact ⟨_, rfl⟩
    · exact ⟨_, rfl⟩
theorem SmS_some (C : Cf) (p : Nat → Bool) : ∃ x, SmS C p = some x := by
  have key : ∀ (c : List (List Nat)) (s : SSt), (∃ x, s = some x) → ∃ x, c.foldl (smS C) s = some x := by
    intro c
    induction c with
    | nil => intro s h; exact h
    | cons l c ih => intro s _; exact ih _ (smS_some C s l)
  unfold SmS
  show ∃ x, List.foldl (smS C) none (chain (719 + 1) (fl p 6)) = some x
  unfold chain
  rw [List.foldl_cons]
  exact key _ _ (smS_some C none _)
def sok (p : Nat → Bool) (s : SSt) : Prop := ∀ x, s = some x → x.1 ≤ 1200 ∧ InO p x.2
theorem sok_s {C : Cf} {p : Nat → Bool} {s : SSt} {l : List Nat} (hC : COk C) (hl : InO p l) (h : sok p s) : sok p (smS C s l) := by
  have h6 := io_len hl
  have hv : smV C l ≤ 1200 := smF_le hC l l.length 0 0 (by omega) (by omega)
  unfold smS
  cases s with
  | none => intro x e; cases e; exact ⟨hv, hl⟩
  | some y =>
    show sok p (if smV C l < y.1 then some (smV C l, l) else some y)
    split
    · intro x e; cases e; exact ⟨hv, hl⟩
    · exact h
def sooS : Nat → Nat → Prop := fun i _ => 124 ≤ i ∧ i ≤ 127
theorem smooth_end (n : Nat) (x2 x4 : Int32) (M : Mem) : f_X10_smooth_40 (n + 1) x2 (-1) x4 M = f_X10_smooth_102 x2 M := by
  unfold f_X10_smooth_40
  split <;> rfl
theorem smooth_cls {C : Cf} {p : Nat → Bool} {M : Mem} {Q : Int32 → Mem → Prop} (hC : COk C) (hp : Thn C p) (hM : CfC M C) (hQ : ∀ M' x, SmS C p = some x → x.1 ≤ 1200 → InO p x.2 → OrC 126 M' x.2 → Fr sooS M M' → wp (f_X10_smooth_102 (nI x.1) M') Q) : wp (bd (f_X5_begin 124 (bI p) M) fun _ M11 => f_X10_smooth_40 FU (-1) 0 0 M11) Q := by
  have c2 := hC.2.1
  rw [wp_bd]
  refine wp_mono (beg_cls (q := 124) (p := p)) (fun _ M1 w => ?_)
  obtain ⟨w1, w2⟩ := w
  refine ord_loop (fun n s fm t M => f_X10_smooth_40 n (sx s) fm t M) (smS C) (fun s l fm M' => OrC 124 M' l ∧ InO p l ∧ sok p s ∧ (∀ x, s = some x → OrC 126 M' x.2) ∧ Fr sooS M M' ∧ fm ≤ 6) (fun s M' => sok p s ∧ (∀ x, s = some x → OrC 126 M' x.2) ∧ Fr sooS M M') Q (SmS C p) (fun n s l fm t M2 ht hJ k0 k1 => ?_) (fun n t M2 hJ => ?_) 720 0 FU (fl p 6) none 0 M1 rfl (by decide) (ends_fl p) rfl ⟨w1, List.Perm.refl _, (fun x e => by cases e), (fun x e => by cases e), w2.mn (fun i k z => by unfold sooS; omega), by omega⟩
  · obtain ⟨j1, j2, j3, j4, j5, j6⟩ := hJ
    have hM2 : CfC M2 C := CfC.eq c2 (fun i k hi => j5 i k (by unfold sooS; omega)) hM
    have h6 := io_len j2
    have hv : smV C l ≤ 1200 := smF_le hC l l.length 0 0 (by omega) (by omega)
    have fin : ∀ (s' : SSt) (M3 : Mem), s' = smS C s l → OrC 124 M3 l → (∀ x, s' = some x → OrC 126 M3 x.2) → Fr sooS M M3 → wp (f_X10_smooth_88 (f_X10_smooth_40 n) (sx s') (nI t) M3) Q := by
      intro s' M3 e b1 b2 b3
      have b0 : sok p s' := by rw [e]; exact sok_s hC j2 j3
      unfold f_X10_smooth_88
      rw [wp_bd]
      refine wp_mono (turn_cls b1 (fun g hg => ((io_mem j2).mp hg).1) (thn_ne hC hp j2)) (fun r M4 w => ?_)
      rw [wp_vl, nI_1]
      rcases w with ⟨v1, rfl, rfl⟩ | ⟨q, l', v1, rfl, v3, v4⟩
      · rw [e]
        exact k0 _ v1 (by rw [← e]; exact ⟨b0, b2, b3⟩)
      · rw [e]
        have hk := nxo_ok v1
        exact k1 q l' M4 v1 (by rw [← e]; exact ⟨v3, io_next j2 v1, b0, fun x ex => (b2 x ex).eq (v4 126 1 (by omega)) (fun k => v4 127 k (by omega)), b3.tr (v4.mn (fun i k z => by unfold sooS; omega)), by omega⟩)
    have upd : smS C s l = some (smV C l, l) → wp (f_X10_smooth_74 (f_X10_smooth_40 n) (nI t) (nI (smV C l)) M2) Q := by
      intro e
      unfold f_X10_smooth_74
      rw [wp_bd]
      refine wp_mono (copy_ord j1) (fun _ M3 y => ?_)
      exact fin (some (smV C l, l)) M3 e.symm (j1.eq (y.2 124 1 (by omega)) (fun k => y.2 125 k (by omega))) (fun x ex => by cases ex; exact y.1) (j5.tr (y.2.mn (fun i k z => by unfold sooS; omega)))
    show wp (f_X10_smooth_40 (n + 1) (sx s) (nI fm) (nI t) M2) Q
    unfold f_X10_smooth_40
    rw [if_pos (show nI t < 720 from nI_lt (b := 720) ht (by decide)), if_neg (nI_neq (by omega)), smC_spec hC hM2 (thn_l hp j2) j1, bd_e]
    cases s with
    | none =>
      rw [show sx none = -1 from rfl, if_pos rfl]
      exact upd rfl
    | some x =>
      have hx := (j3 x rfl).1
      have eS : smS C (some x) l = if smV C l < x.1 then some (smV C l, l) else some x := rfl
      rw [show sx (some x) = nI x.1 from rfl, if_neg (nI_neq (by omega))]
      by_cases z : smV C l < x.1
      · rw [if_pos (nI_lt z (by omega))]
        exact upd (eS.trans (if_pos z))
      · rw [if_neg (nI_nlt (by omega) (by omega))]
        exact fin (some x) M2 (eS.trans (if_neg z)).symm j1 j4 j5
  · show wp (f_X10_smooth_40 (n + 1) (sx (SmS C p)) (-1) t M2) Q
    rw [smooth_end]
    obtain ⟨x, e⟩ := SmS_some C p
    obtain ⟨j1, j2, j3⟩ := hJ
    have hx := j1 x e
    rw [e]
    exact hQ M2 x e hx.1 hx.2 (j2 x e) j3
