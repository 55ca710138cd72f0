/-! least -/
theorem there_iff {c : Nat} (hc : c ≤ 6) (b : Int32) : (b &&& (bI (allB c) ^^^ (-1))) = 0 ↔ ∃ p : Nat → Bool, b = bI p ∧ ∀ g, c ≤ g → p g = false := by
  constructor
  · intro h
    refine ⟨fun g => tb b g && decide (g < c), bit_ext (fun r hr => ?_), fun g hg => by simp; omega⟩
    rw [bit_bI _ hr, Bool.and_eq_true, tb_t, decide_eq_true_iff]
    constructor
    · intro hb
      have hn : ¬ bit (b &&& (bI (allB c) ^^^ (-1))) (nI r) := by rw [h]; exact bit_0 hr
      rw [bit_and _ _ hr, bit_not _ hr, bit_bI _ hr] at hn
      have hrc : r < c := by
        apply Classical.byContradiction
        intro z
        exact hn ⟨hb, fun q => by have := q.2; unfold allB at this; simp at this; omega⟩
      exact ⟨by omega, hb, hrc⟩
    · intro q; exact q.2.1
  · rintro ⟨p, rfl, hp⟩
    refine bit_ext (fun r hr => ?_)
    rw [bit_and _ _ hr, bit_not _ hr, bit_bI _ hr, bit_bI _ hr]
    constructor
    · rintro ⟨⟨h1, h2⟩, h3⟩
      exfalso
      apply h3
      refine ⟨h1, ?_⟩
      unfold allB
      have : r < c := by
        apply Classical.byContradiction
        intro z
        rw [hp r (by omega)] at h2
        cases h2
      simpa using this
    · intro z; exact absurd z (bit_0 hr)
theorem bI_le {c : Nat} (hc : c ≤ 6) {p : Nat → Bool} (hp : ∀ g, c ≤ g → p g = false) : ∃ n, n < 2 ^ c ∧ bI p = nI n := by
  have key : ∀ b0 b1 b2 b3 b4 b5 : Bool, bI (fun g => if g = 0 then b0 else if g = 1 then b1 else if g = 2 then b2 else if g = 3 then b3 else if g = 4 then b4 else b5) = nI ((if b0 = true then 1 else 0) + (if b1 = true then 2 else 0) + (if b2 = true then 4 else 0) + (if b3 = true then 8 else 0) + (if b4 = true then 16 else 0) + (if b5 = true then 32 else 0)) := by decide +kernel
  rw [bI_6, key]
  refine ⟨_, ?_, rfl⟩
  have tt : ∀ k v, (if p k = true then v else 0) ≤ (if k < c then v else 0) := by
    intro k v
    by_cases h : k < c
    · rw [if_pos h]; split <;> omega
    · rw [if_neg h, hp k (by omega)]; simp
  have t0 := tt 0 1
  have t1 := tt 1 2
  have t2 := tt 2 4
  have t3 := tt 3 8
  have t4 := tt 4 16
  have t5 := tt 5 32
  have hc7 : c = 0 ∨ c = 1 ∨ c = 2 ∨ c = 3 ∨ c = 4 ∨ c = 5 ∨ c = 6 := by omega
  rcases hc7 with h | h | h | h | h | h | h <;> subst h <;> simp only [Nat.lt_irrefl, Nat.reduceLT, if_true, if_false, Nat.reducePow] at t0 t1 t2 t3 t4 t5 ⊢ <;> omega
theorem nI_bI {c : Nat} (hc : c ≤ 6) {n : Nat} (hn : n < 2 ^ c) : ∃ p : Nat → Bool, nI n = bI p ∧ ∀ g, c ≤ g → p g = false := by
  have key : ∀ c, c < 7 → ∀ n, n < 2 ^ c → nI n = bI (fun g => Nat.testBit n g) := by decide +kernel
  refine ⟨fun g => Nat.testBit n g, key c (by omega) n hn, fun g hg => ?_⟩
  exact Nat.testBit_lt_two_pow (Nat.lt_of_lt_of_le hn (Nat.pow_le_pow_right (by decide) hg))
theorem all_n {c : Nat} (hc : c ≤ 6) : bI (allB c) = nI (2 ^ c - 1) := by
  have key : ∀ c, c < 7 → bI (allB c) = nI (2 ^ c - 1) := by decide +kernel
  exact key c (by omega)
theorem pow6 {c : Nat} (hc : c ≤ 6) : 2 ^ c ≤ 64 := Nat.pow_le_pow_right (by decide) hc
/-- bits of groups that are there: none else, in the reference's words -/
theorem there_in {c : Nat} (hc : c ≤ 6) (b : Int32) : (¬ b < 0 ∧ ¬ bI (allB c) < b) ↔ ∃ p : Nat → Bool, b = bI p ∧ ∀ g, c ≤ g → p g = false := by
  have h64 := pow6 hc
  rw [all_n hc]
  constructor
  · rintro ⟨h1, h2⟩
    obtain ⟨n, -, n2, rfl⟩ := rng (a := 0) (b := 2 ^ c - 1) (by decide) (by omega) h1 h2
    have := Nat.two_pow_pos c
    exact nI_bI hc (by omega)
  · rintro ⟨p, rfl, hp⟩
    obtain ⟨n, h1, h2⟩ := bI_le hc hp
    rw [h2]
    exact ⟨nI_pos (by omega), nI_nlt (by omega) (by omega)⟩
theorem c_there {C : Cf} {M : Mem} (hC : COk C) (hM : CfC M C) (b : Int32) : f_X10_areThere b M = some (b2i (b &&& (bI (allB C.2.1) ^^^ (-1)) = 0), M) := by
  unfold f_X10_areThere f_X10_areThere_0 f_X10_areThere_19
  rw [ci_every hC hM, bd_e]
  by_cases h : b &&& (bI (allB C.2.1) ^^^ (-1)) = 0
  · rw [if_pos h, gd_t (by decide), b2i_t h]
  · rw [if_neg h, gd_t (by decide), b2i_f h]
/-- the greatest in a room, or of a group -/
def mxR (C : Cf) (p : Nat → Bool) (k a : Nat) : Nat := foldF (fun r a => if C.2.2.1 r = true then a else max a (tog C p r)) k 0 a
def mxG (C : Cf) (p : Nat → Bool) (k a : Nat) : Nat := foldF (fun g a => if p g = true then max a (whl C g) else a) k 0 a
def lstV (C : Cf) (p : Nat → Bool) : Nat := mxG C p C.2.1 (mxR C p C.1 0)
theorem mxR_max (C : Cf) (p : Nat → Bool) : ∀ (k a : Nat), mxR C p k a = max a (mxR C p k 0)
  | 0, a => by show a = max a 0; omega
  | k + 1, a => by
    unfold mxR
    rw [foldF_sn, foldF_sn]
    have := mxR_max C p k a
    unfold mxR at this
    rw [this]
    show (if C.2.2.1 k = true then _ else _) = max a (if C.2.2.1 k = true then _ else _)
    split <;> omega
theorem mxG_max (C : Cf) (p : Nat → Bool) : ∀ (k a : Nat), mxG C p k a = max a (mxG C p k 0)
  | 0, a => by show a = max a 0; omega
  | k + 1, a => by
    unfold mxG
    rw [foldF_sn, foldF_sn]
    have := mxG_max C p k a
    unfold mxG at this
    rw [this]
    show (if p k = true then _ else _) = max a (if p k = true then _ else _)
    split <;> omega
theorem lstV_sym (C : Cf) (p : Nat → Bool) : mxR C p C.1 (mxG C p C.2.1 0) = lstV C p := by
  unfold lstV
  rw [mxR_max, mxG_max C p C.2.1 (mxR C p C.1 0)]
  omega
theorem mxR_le {C : Cf} (hC : COk C) (p : Nat → Bool) (k : Nat) {a : Nat} (ha : a ≤ 180) : mxR C p k a ≤ 180 := foldF_inv (P := fun a => a ≤ 180) k 0 a ha (fun r x _ _ hx => by
  have := tog_le hC p r
  show (if C.2.2.1 r = true then x else max x (tog C p r)) ≤ 180
  split <;> omega)
theorem mxG_le {C : Cf} (hC : COk C) (p : Nat → Bool) (k : Nat) {a : Nat} (ha : a ≤ 180) : mxG C p k a ≤ 180 := foldF_inv (P := fun a => a ≤ 180) k 0 a ha (fun g x _ _ hx => by
  have := whl_le hC g
  show (if p g = true then max x (whl C g) else x) ≤ 180
  split <;> omega)
theorem tb_fun {p : Nat → Bool} {c : Nat} (hc : c ≤ 6) (f : Nat → Nat → Nat) (a : Nat) (k : Nat) (hk : k ≤ c) : foldF (fun g a => if tb (bI p) g = true then f g a else a) k 0 a = foldF (fun g a => if p g = true then f g a else a) k 0 a := foldF_ext k 0 a (fun g x _ hg => by
  show (if tb (bI p) g = true then f g x else x) = (if p g = true then f g x else x)
  rw [tb_bI (by omega)])
theorem tog_tb {C : Cf} (hC : COk C) (p : Nat → Bool) (r : Nat) : tog C (tb (bI p)) r = tog C p r := tb_fun hC.2.1 (fun g a => a + Sy C g r) 0 C.2.1 (Nat.le_refl _)
def fwT (C : Cf) (p : Nat → Bool) (v : Nat) : Nat → Nat → Int32
  | 0, _ => -1
  | m + 1, r => if C.2.2.1 r = false ∧ tog C p r = v then nI r else fwT C p v m (r + 1)
def bwW (C : Cf) (p : Nat → Bool) (v : Nat) : Nat → Bool := fun g => p g && decide (g < C.2.1) && decide (whl C g = v)
theorem c_fwt {C : Cf} {M : Mem} (hC : COk C) (hM : CfC M C) (p : Nat → Bool) {v : Nat} (hv : v ≤ 180) : ∀ (m r n : Nat), r + m = C.1 → m < n → f_X10_firstWithTogether_2 n (bI p) (nI v) (nI r) M = some (fwT C p v m r, M)
  | 0, r, n + 1, h, _ => by
    have c1 := hC.1
    unfold f_X10_firstWithTogether_2 fwT
    rw [hM.1, if_neg (nI_nlt (by omega) (by omega))]
  | m + 1, r, n + 1, h, hn => by
    have c1 := hC.1
    have hr : r < C.1 := by omega
    have ih := c_fwt hC hM p hv m (r + 1) n (by omega) (by omega)
    have ht := tog_le hC p r
    unfold f_X10_firstWithTogether_2 f_X10_firstWithTogether_39 fwT
    rw [hM.1, if_pos (nI_lt hr (by omega)), corC hM hr, bd_e]
    simp only [vl, nI_1]
    by_cases hc : C.2.2.1 r = true
    · rw [b2i_t hc, if_neg (by decide), if_neg (show ¬ (C.2.2.1 r = false ∧ tog C p r = v) by rw [hc]; simp)]
      exact ih
    · rw [b2i_f hc, if_pos rfl, c_tog hC hM _ hr, bd_e, tog_tb hC]
      by_cases hv2 : tog C p r = v
      · rw [if_pos (by rw [hv2]), if_pos ⟨Bool.eq_false_iff.mpr hc, hv2⟩]
      · rw [if_neg (fun z => hv2 ((nI_eq (by omega) (by omega)).mp z)), if_neg (fun z => hv2 z.2)]
        exact ih
theorem c_bww {C : Cf} {M : Mem} (hC : COk C) (hM : CfC M C) (p : Nat → Bool) {v : Nat} (hv : v ≤ 180) : f_X10_bitsWithWhole (bI p) (nI v) M = some (bI (bwW C p v), M) := by
  have c2 := hC.2.1
  refine (loopF (L := fun n a x => f_X10_bitsWithWhole_5 n (bI p) (nI v) a x M) (E := fun a => some (a, M)) (f := fun g a => if bwW C p v g = true then obit g a else a) (N := C.2.1) (fun n g a hg => ?_) (fun n a => ?_) C.2.1 0 FU 0 (Nat.zero_add _) (by show C.2.1 < 2000; omega)).trans ?_
  · have hw := whl_le hC g
    show f_X10_bitsWithWhole_5 (n + 1) (bI p) (nI v) a (nI g) M = _
    conv => lhs; unfold f_X10_bitsWithWhole_5 f_X10_bitsWithWhole_46
    rw [hM.2.1, if_pos (nI_lt hg (by omega)), has_spec, bd_e]
    simp only [vl, nI_1]
    have hb : bit (bI p) (nI g) ↔ p g = true := by rw [← tb_t, tb_bI (by omega)]
    by_cases hp : p g = true
    · rw [b2i_t (hb.mpr hp), if_neg (by decide), c_whole hC hM hg, bd_e]
      by_cases hv2 : whl C g = v
      · rw [if_pos (by rw [hv2]), if_pos (by unfold bwW; simp [hp, hg, hv2])]
        rfl
      · rw [if_neg (fun z => hv2 ((nI_eq (by omega) (by omega)).mp z)), if_neg (by unfold bwW; simp [hv2])]
    · rw [b2i_f (fun z => hp (hb.mp z)), if_pos rfl, if_neg (by unfold bwW; simp [hp])]
  · show f_X10_bitsWithWhole_5 (n + 1) (bI p) (nI v) a (nI C.2.1) M = _
    conv => lhs; unfold f_X10_bitsWithWhole_5
    rw [hM.2.1, if_neg (nI_nlt (Nat.le_refl _) (by omega))]
  · congr 2
    unfold bI
    exact foldF_to 0 c2 (fun k x _ => rfl) (fun k x h1 _ => by rw [if_neg (by unfold bwW; simp; omega)])
theorem least_cls {C : Cf} {M : Mem} (hC : COk C) (hM : CfC M C) {p : Nat → Bool} (hp : ∀ g, C.2.1 ≤ g → p g = false) : wp (f_X10_least (bI p) M) (fun r M' => r = nI (lstV C p) ∧ RwC M' [fwT C p (lstV C p) C.1 0, bI (bwW C p (lstV C p))] ∧ Fr rcS M M') := by
  have c1 := hC.1
  have c2 := hC.2.1
  unfold f_X10_least f_X10_least_0
  rw [c_there hC hM, bd_e, b2i_t ((there_iff c2 _).mpr ⟨p, rfl, hp⟩), if_neg (by decide)]
  refine wp_for (α := Int32) (fun m a x M => f_X10_least_14 m (bI p) a x M) C.1 (fun k a M1 => M1 = M ∧ a = nI (mxR C p k 0)) _ (fun m r a M1 hr hJ kk => ?_) (fun m a M1 hJ => ?_) C.1 0 FU 0 M (by omega) (by show C.1 < 2000; omega) ⟨rfl, rfl⟩
  · obtain ⟨rfl, j1⟩ := hJ
    have ht := tog_le hC p r
    have hm := mxR_le hC p r (show 0 ≤ 180 by decide)
    have fl : mxR C p (r + 1) 0 = if C.2.2.1 r = true then mxR C p r 0 else max (mxR C p r 0) (tog C p r) := foldF_sn r 0
    show wp (f_X10_least_14 (m + 1) (bI p) a (nI r) M1) _
    unfold f_X10_least_14 f_X10_least_50
    rw [hM.1, if_pos (nI_lt hr (by omega)), corC hM hr, bd_e]
    by_cases hc : C.2.2.1 r = true
    · rw [b2i_t hc, if_neg (by decide), wp_vl, nI_1]
      exact kk _ M1 ⟨rfl, by rw [fl, if_pos hc]; exact j1⟩
    · rw [b2i_f hc, if_pos rfl, c_tog hC hM _ hr, bd_e, tog_tb hC, wp_vl, wp_vl, nI_1, j1, maxI (by omega) (by omega)]
      exact kk _ M1 ⟨rfl, by rw [fl, if_neg hc]⟩
  · obtain ⟨rfl, j1⟩ := hJ
    have hm0 := mxR_le hC p C.1 (show 0 ≤ 180 by decide)
    show wp (f_X10_least_14 (m + 1) (bI p) a (nI C.1) M1) _
    unfold f_X10_least_14
    rw [hM.1, if_neg (nI_nlt (Nat.le_refl _) (by omega))]
    refine wp_for (α := Int32) (fun m a x M => f_X10_least_58 m (bI p) a x M) C.2.1 (fun k a M2 => M2 = M1 ∧ a = nI (mxG C p k (mxR C p C.1 0))) _ (fun m g a M2 hg hJ kk => ?_) (fun m a M2 hJ => ?_) C.2.1 0 FU a M1 (by omega) (by show C.2.1 < 2000; omega) ⟨rfl, j1⟩
    · obtain ⟨rfl, j1⟩ := hJ
      have hw := whl_le hC g
      have hm := mxG_le hC p g hm0
      have fl : mxG C p (g + 1) (mxR C p C.1 0) = if p g = true then max (mxG C p g (mxR C p C.1 0)) (whl C g) else mxG C p g (mxR C p C.1 0) := foldF_sn g _
      show wp (f_X10_least_58 (m + 1) (bI p) a (nI g) M2) _
      unfold f_X10_least_58 f_X10_least_90
      rw [hM.2.1, if_pos (nI_lt hg (by omega)), has_spec, bd_e]
      have hb : bit (bI p) (nI g) ↔ p g = true := by rw [← tb_t, tb_bI (by omega)]
      by_cases hpg : p g = true
      · rw [b2i_t (hb.mpr hpg), if_neg (by decide), c_whole hC hM hg, bd_e, wp_vl, wp_vl, nI_1, j1, maxI (by omega) (by omega)]
        exact kk _ M2 ⟨rfl, by rw [fl, if_pos hpg]⟩
      · rw [b2i_f (fun z => hpg (hb.mp z)), if_pos rfl, wp_vl, nI_1]
        exact kk _ M2 ⟨rfl, by rw [fl, if_neg hpg]; exact j1⟩
    · obtain ⟨rfl, j1⟩ := hJ
      have hv : lstV C p ≤ 180 := mxG_le hC p C.2.1 hm0
      have j1' : a = nI (lstV C p) := j1
      show wp (f_X10_least_58 (m + 1) (bI p) a (nI C.2.1) M2) _
      unfold f_X10_least_58
      rw [hM.2.1, if_neg (nI_nlt (Nat.le_refl _) (by omega)), wp_bd, j1']
      refine wp_mono (clearRow_spec M2) (fun _ M6 w => ?_)
      obtain ⟨w1, w2⟩ := w
      have m6 : CfC M6 C := hM.eq2 c2 (fun i k z => w2 i k (by unfold cHo at z; unfold rcS; omega))
      unfold f_X10_firstWithTogether f_X10_firstWithTogether_0
      rw [show f_X10_firstWithTogether_2 FU (bI p) (nI (lstV C p)) 0 M6 = _ from c_fwt hC m6 p hv C.1 0 FU (by omega) (by show C.1 < 2000; omega), bd_e, wp_bd]
      refine wp_mono (tell_spec _ w1 (by decide)) (fun _ M7 v => ?_)
      obtain ⟨v1, v2⟩ := v
      have m7 : CfC M7 C := m6.eq2 c2 (fun i k z => v2 i k (by unfold cHo at z; unfold rcS; omega))
      rw [c_bww hC m7 p hv, bd_e, wp_bd]
      refine wp_mono (tell_spec _ v1 (by show 1 < 12; decide)) (fun _ M8 s => ?_)
      rw [wp_s]
      exact ⟨rfl, s.1, (w2.tr v2).tr s.2⟩
