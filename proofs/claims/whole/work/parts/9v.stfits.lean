/-! fits, began -/
theorem wk_lis {C : Cf} {σ : Sm} {L : Nat} {S : Nat → Sm → Bool} {l : List Nat} {r : Int32} {M : Mem} (h : WkR C σ L true S l r M) : r = b2i (hvb C σ L S l = true) := by
  rcases h with ⟨h1, h2, _⟩ | ⟨h1, h2⟩
  · rw [h1, b2i_t (good_t.mp h2)]
  · rw [h1, b2i_f (fun z => h2 (good_t.mpr z))]
theorem fits_end (n : Nat) (x2 x4 : Int32) (M : Mem) : f_X10_fits_22 (n + 1) x2 (-1) x4 M = f_X10_fits_89 x2 M := by
  unfold f_X10_fits_22
  split <;> rfl
theorem began_end (n : Nat) (x2 x3 x5 : Int32) (M : Mem) : f_X10_began_25 (n + 1) x2 x3 (-1) x5 M = f_X10_began_113 x2 x3 M := by
  unfold f_X10_began_25
  split <;> rfl
section Fits
variable {C : Cf} {σ : Sm} {p : Nat → Bool} {M : Mem} {tg : Nat → Nat} {h : Nat} {hp hm ht : Nat → Nat} {Q : Int32 → Mem → Prop}
theorem fits_cls (hC : COk C) (hO : Ok C σ) (hpp : Tho C σ p) (hB : σ.2.2.2.2 < 2 ^ 29) (hM : CfC M C) (hI : IsC C M 26 σ) (hH : HrC C M tg h hp hm ht) (hQ : ∀ M', Fr obS M M' → FtO p (FtS C σ (lat h hm) (Sh C.2.1 tg h hp hm ht) p) → (0 < (FtS C σ (lat h hm) (Sh C.2.1 tg h hp hm ht) p).1 → OrC 126 M' (FtS C σ (lat h hm) (Sh C.2.1 tg h hp hm ht) p).2.2.2) → (FtS C σ (lat h hm) (Sh C.2.1 tg h hp hm ht) p).1 ≤ 720 → wp (f_X10_fits_89 (nI (FtS C σ (lat h hm) (Sh C.2.1 tg h hp hm ht) p).1) M') Q) : wp (bd (f_X10_beginOrders (bI p) 1 M) fun r5 M6 => f_X10_fits_22 FU 0 r5 0 M6) Q := by
  have c2 := hC.2.1
  have hL : lat h hm ≤ 300 := lat_le (fun i hi => (hH.2.2.1 i hi).2.2.1) h 0 0 (by omega) (by omega)
  rw [wp_bd]
  show wp (f_X10_beginOrders (bI p) (b2i (true = true)) M) _
  refine wp_mono (beginC (lis := true) (S := Sh C.2.1 tg h hp hm ht) hC hO hM hI (fun z => by cases z) (fun _ => ⟨tg, h, hp, hm, ht, hH, rfl⟩)) (fun r M1 q => ?_)
  obtain ⟨rfl, q1, q2⟩ := q
  refine ord_loop (St := FSt) (fun n s fm t M => f_X10_fits_22 n (nI s.1) fm t M) (ftS C σ (lat h hm) (Sh C.2.1 tg h hp hm ht)) (fun s l fm M' => CB C σ true (Sh C.2.1 tg h hp hm ht) p l M M' ∧ Wpr C σ (lat h hm) true (Sh C.2.1 tg h hp hm ht) l fm M' ∧ fm < l.length ∧ cnB s.1 l ∧ FtO p s ∧ (0 < s.1 → OrC 126 M' s.2.2.2)) (fun s M' => Fr obS M M' ∧ FtO p s ∧ (0 < s.1 → OrC 126 M' s.2.2.2) ∧ s.1 ≤ 720) Q (FtS C σ (lat h hm) (Sh C.2.1 tg h hp hm ht) p) (fun n s l fm t M2 ht' hJ k0 k1 => ?_) (fun n t M2 hJ => ?_) 720 0 FU (fl p 6) (0, 0, 0, []) 0 M1 rfl (by decide) (ends_fl p) rfl ⟨q1, q2 _, tho_ne hC hpp (List.Perm.refl _), ⟨720, ends_fl p, Nat.le_refl _⟩, (fun z => absurd z (Nat.lt_irrefl 0)), (fun z => absurd z (Nat.lt_irrefl 0))⟩
  · obtain ⟨j1, j2, j3, j4, j5, j6⟩ := hJ
    have hio := j1.2.2.2.1
    have hcn := cnB_lt j4
    have fin : ∀ (s' : FSt) (M3 : Mem), s' = ftS C σ (lat h hm) (Sh C.2.1 tg h hp hm ht) s l → CB C σ true (Sh C.2.1 tg h hp hm ht) p l M M3 → Wkp C σ (lat h hm) true (Sh C.2.1 tg h hp hm ht) l M3 → (0 < s'.1 → OrC 126 M3 s'.2.2.2) → wp (f_X10_fits_75 (f_X10_fits_22 n) (nI s'.1) (nI t) M3) Q := by
      intro s' M3 e b1 b2 b4
      have le := ft_le C σ (lat h hm) (Sh C.2.1 tg h hp hm ht) s l
      have fo := ft_o (C := C) (σ := σ) (L := lat h hm) (S := Sh C.2.1 tg h hp hm ht) j5 hio
      rw [← e] at le fo
      unfold f_X10_fits_75
      rw [wp_bd]
      refine wp_mono (turnC hC hpp b1 b2) (fun r M4 w => ?_)
      rw [wp_vl, nI_1]
      rcases w with ⟨w1, rfl, rfl⟩ | ⟨q, l', w1, rfl, w3, w4, w5, w6⟩
      · rw [e]
        exact k0 _ w1 (by rw [← e]; exact ⟨b1.2.2.2.2, fo, b4, by omega⟩)
      · rw [e]
        exact k1 q l' M4 w1 (by rw [← e]; exact ⟨w3, w4, w5, cnB_next j4 le w1, fo, fun z => (b4 z).eq (w6 126 1 (by omega)) (fun k => w6 127 k (by omega))⟩)
    have h6 := io_len hio
    have hHM : HrC C M2 tg h hp hm ht := hH.eq c2 (fun i k z => j1.2.2.2.2 i k (by unfold obS; omega))
    show wp (f_X10_fits_22 (n + 1) (nI s.1) (nI fm) (nI t) M2) Q
    unfold f_X10_fits_22
    have hHM' : HrC C M2 tg h hp hm ht := by
      obtain ⟨tg', h', hp', hm', ht'', a, b⟩ := j1.2.1.2.2.2 rfl
      refine ⟨hH.1, ?_, fun i hi => ?_, fun g hg => ?_⟩
      · exact (j1.2.2.2.2 120 3 (by unfold obS; omega)).trans hH.2.1
      · obtain ⟨e1, e2, e3, e4, e5, e6, e7⟩ := hH.2.2.1 i hi
        exact ⟨e1, e2, e3, e4, (j1.2.2.2.2 121 i (by unfold obS; omega)).trans e5, (j1.2.2.2.2 122 i (by unfold obS; omega)).trans e6, (j1.2.2.2.2 123 i (by unfold obS; omega)).trans e7⟩
      · exact ⟨(hH.2.2.2 g hg).1, (j1.2.2.2.2 5 g (by unfold obS; omega)).trans (hH.2.2.2 g hg).2⟩
    rw [if_pos (show nI t < 720 from nI_lt (b := 720) ht' (by decide)), if_neg (nI_neq (by omega)), latC hHM', bd_e, wp_bd]
    refine wp_mono (walkC hC hB hpp (by omega) j1 j2 j3) (fun r M3 w => ?_)
    obtain ⟨w1, w2, w3, w4⟩ := w
    rw [wk_lis w3]
    have fd3 : 0 < s.1 → OrC 126 M3 s.2.2.2 := fun z => (j6 z).eq (w4 126 1 (by unfold trS; omega)) (fun k => w4 127 k (by unfold trS; omega))
    by_cases z : hvb C σ (lat h hm) (Sh C.2.1 tg h hp hm ht) l = true
    · rw [b2i_t z, if_neg (by decide)]
      have eS : ftS C σ (lat h hm) (Sh C.2.1 tg h hp hm ht) s l = (s.1 + 1, s.2.1 ||| (1 <<< (nI (ga l 0) &&& 31)), s.2.2.1 ||| (1 <<< (nI (ga l (l.length - 1)) &&& 31)), if s.1 = 0 then l else s.2.2.2) := if_pos z
      unfold f_X10_fits_72
      by_cases y : s.1 = 0
      · rw [if_pos (show nI s.1 = 0 by rw [y]; rfl), wp_bd]
        refine wp_mono (copy_ord w1.2.2.1) (fun _ M4 u => ?_)
        rw [wp_vl, nI_1]
        exact fin (s.1 + 1, s.2.1 ||| (1 <<< (nI (ga l 0) &&& 31)), s.2.2.1 ||| (1 <<< (nI (ga l (l.length - 1)) &&& 31)), if s.1 = 0 then l else s.2.2.2) M4 eS.symm (w1.cells c2 u.2) (w2.cells (fun i k z => u.2 i k (by omega))) (fun _ => by show OrC 126 M4 (if s.1 = 0 then l else s.2.2.2); rw [if_pos y]; exact u.1)
      · rw [if_neg (show ¬ nI s.1 = 0 from fun u => y ((nI_eq (b := 0) (by omega) (by decide)).mp u)), wp_vl, nI_1]
        exact fin (s.1 + 1, s.2.1 ||| (1 <<< (nI (ga l 0) &&& 31)), s.2.2.1 ||| (1 <<< (nI (ga l (l.length - 1)) &&& 31)), if s.1 = 0 then l else s.2.2.2) M3 eS.symm w1 w2 (fun _ => by show OrC 126 M3 (if s.1 = 0 then l else s.2.2.2); rw [if_neg y]; exact fd3 (by omega))
    · rw [b2i_f z, if_pos rfl]
      exact fin s M3 (if_neg z).symm w1 w2 fd3
  · show wp (f_X10_fits_22 (n + 1) (nI (FtS C σ (lat h hm) (Sh C.2.1 tg h hp hm ht) p).1) (-1) t M2) Q
    rw [fits_end]
    exact hQ M2 hJ.1 hJ.2.1 hJ.2.2.1 hJ.2.2.2
theorem began_cls (hC : COk C) (hO : Ok C σ) (hpp : Tho C σ p) (hB : σ.2.2.2.2 < 2 ^ 29) (hM : CfC M C) (hI : IsC C M 26 σ) (hH : HrC C M tg h hp hm ht) (hQ : ∀ M', Fr obS M M' → wp (f_X10_began_113 (FtS C σ (lat h hm) (Sh C.2.1 tg h hp hm ht) p).2.1 (FtS C σ (lat h hm) (Sh C.2.1 tg h hp hm ht) p).2.2.1 M') Q) : wp (bd (f_X10_beginOrders (bI p) 1 M) fun r5 M6 => f_X10_began_25 FU 0 0 r5 0 M6) Q := by
  have c2 := hC.2.1
  have hL : lat h hm ≤ 300 := lat_le (fun i hi => (hH.2.2.1 i hi).2.2.1) h 0 0 (by omega) (by omega)
  rw [wp_bd]
  show wp (f_X10_beginOrders (bI p) (b2i (true = true)) M) _
  refine wp_mono (beginC (lis := true) (S := Sh C.2.1 tg h hp hm ht) hC hO hM hI (fun z => by cases z) (fun _ => ⟨tg, h, hp, hm, ht, hH, rfl⟩)) (fun r M1 q => ?_)
  obtain ⟨rfl, q1, q2⟩ := q
  refine ord_loop (St := FSt) (fun n s fm t M => f_X10_began_25 n s.2.1 s.2.2.1 fm t M) (ftS C σ (lat h hm) (Sh C.2.1 tg h hp hm ht)) (fun s l fm M' => CB C σ true (Sh C.2.1 tg h hp hm ht) p l M M' ∧ Wpr C σ (lat h hm) true (Sh C.2.1 tg h hp hm ht) l fm M' ∧ fm < l.length) (fun s M' => Fr obS M M') Q (FtS C σ (lat h hm) (Sh C.2.1 tg h hp hm ht) p) (fun n s l fm t M2 ht' hJ k0 k1 => ?_) (fun n t M2 hJ => ?_) 720 0 FU (fl p 6) (0, 0, 0, []) 0 M1 rfl (by decide) (ends_fl p) rfl ⟨q1, q2 _, tho_ne hC hpp (List.Perm.refl _)⟩
  · obtain ⟨j1, j2, j3⟩ := hJ
    have hio := j1.2.2.2.1
    have fin : ∀ (s' : FSt) (M3 : Mem), s' = ftS C σ (lat h hm) (Sh C.2.1 tg h hp hm ht) s l → CB C σ true (Sh C.2.1 tg h hp hm ht) p l M M3 → Wkp C σ (lat h hm) true (Sh C.2.1 tg h hp hm ht) l M3 → wp (f_X10_began_98 (f_X10_began_25 n) s'.2.1 s'.2.2.1 (nI t) M3) Q := by
      intro s' M3 e b1 b2
      unfold f_X10_began_98
      rw [wp_bd]
      refine wp_mono (turnC hC hpp b1 b2) (fun r M4 w => ?_)
      rw [wp_vl, nI_1]
      rcases w with ⟨w1, rfl, rfl⟩ | ⟨q, l', w1, rfl, w3, w4, w5, w6⟩
      · rw [e]
        exact k0 _ w1 b1.2.2.2.2
      · rw [e]
        exact k1 q l' M4 w1 ⟨w3, w4, w5⟩
    have h6 := io_len hio
    have hlp := tho_ne hC hpp hio
    have hHM : HrC C M2 tg h hp hm ht := by
      refine ⟨hH.1, ?_, fun i hi => ?_, fun g hg => ?_⟩
      · exact (j1.2.2.2.2 120 3 (by unfold obS; omega)).trans hH.2.1
      · obtain ⟨e1, e2, e3, e4, e5, e6, e7⟩ := hH.2.2.1 i hi
        exact ⟨e1, e2, e3, e4, (j1.2.2.2.2 121 i (by unfold obS; omega)).trans e5, (j1.2.2.2.2 122 i (by unfold obS; omega)).trans e6, (j1.2.2.2.2 123 i (by unfold obS; omega)).trans e7⟩
      · exact ⟨(hH.2.2.2 g hg).1, (j1.2.2.2.2 5 g (by unfold obS; omega)).trans (hH.2.2.2 g hg).2⟩
    show wp (f_X10_began_25 (n + 1) s.2.1 s.2.2.1 (nI fm) (nI t) M2) Q
    unfold f_X10_began_25
    rw [if_pos (show nI t < 720 from nI_lt (b := 720) ht' (by decide)), if_neg (nI_neq (by omega)), latC hHM, bd_e, wp_bd]
    refine wp_mono (walkC hC hB hpp (by omega) j1 j2 j3) (fun r M3 w => ?_)
    obtain ⟨w1, w2, w3, w4⟩ := w
    rw [wk_lis w3]
    by_cases z : hvb C σ (lat h hm) (Sh C.2.1 tg h hp hm ht) l = true
    · have a0 : M3 125 0 = nI (ga l 0) := Ar_ga w1.2.2.1.2.2 hlp
      have a1 : M3 125 (l.length - 1) = nI (ga l (l.length - 1)) := Ar_ga w1.2.2.1.2.2 (show l.length - 1 < l.length by omega)
      rw [b2i_t z, if_neg (by decide), gd_t (by decide), c0, wp_vl, wp_vl, w1.2.2.1.2.1, nI_sub1 (by omega), gd_t (nI_inb (show l.length - 1 < 6 by omega) (by decide)), nI_clamp (show l.length - 1 < 2 ^ 31 by omega), wp_vl, wp_vl, a0, a1]
      exact fin (s.1 + 1, s.2.1 ||| (1 <<< (nI (ga l 0) &&& 31)), s.2.2.1 ||| (1 <<< (nI (ga l (l.length - 1)) &&& 31)), if s.1 = 0 then l else s.2.2.2) M3 (if_pos z).symm w1 w2
    · rw [b2i_f z, if_pos rfl]
      exact fin s M3 (if_neg z).symm w1 w2
  · show wp (f_X10_began_25 (n + 1) _ _ (-1) t M2) Q
    rw [began_end]
    exact hQ M2 hJ
end Fits
def ffF : Nat → Nat → Prop := fun i k => (191 ≤ i ∧ i ≤ 193) ∨ (i = 174 ∧ (k = 30 ∨ k = 31 ∨ k = 32 ∨ k = 37 ∨ k = 53 ∨ k = 54 ∨ k = 55))
theorem ff_s0 {M M' : Mem} (h : Fr ffF M M') : Fr scr0 M M' := h.mn (fun i k q => by
  rcases q with q | q
  · exact s0_9x (by omega)
  · exact s0_74 (by omega))
theorem copyF {K22 : Int32 → Mem → Option (Int32 × Mem)} {l : List Nat} {Q : Int32 → Mem → Prop} : ∀ (m k n : Nat) (M : Mem), k + m = l.length → m < n → OrR M l → (∀ j, j < k → M 193 j = M 192 j) → (∀ M', Ar (M' 193) l → Fr (fun i _ => i = 193) M M' → wp (f_X11_findFits_68 K22 M') Q) → wp (f_X11_findFits_42 K22 n (nI k) M) Q
  | 0, k, n + 1, M, he, _, hq, hk, hc => by
    have h6 := hq.1
    unfold f_X11_findFits_42
    rw [hq.2.1, if_neg (nI_nlt (by omega) (by omega))]
    refine hc M (fun j g e => ?_) Fr.rf
    have hj : j < l.length := by
      apply Classical.byContradiction
      intro z
      rw [List.getElem?_eq_none (by omega)] at e; cases e
    rw [hk j (by omega)]
    exact hq.2.2 j g e
  | m + 1, k, n + 1, M, he, hn, hq, hk, hc => by
    have h6 := hq.1
    unfold f_X11_findFits_42
    rw [hq.2.1, if_pos (nI_lt (by omega) (by omega)), gd_t (nI_inb (show k < 6 by omega) (by decide)), gd_t (nI_inb (show k < 6 by omega) (by decide)), nI_clamp (by omega), wp_ml, wp_vl, nI_1]
    refine copyF m (k + 1) n _ (by omega) (by omega) (hq.eq (by rw [up_row _ _ _ (by decide)]) (fun j => by rw [up_row _ _ _ (by decide)])) (fun j hj => ?_) (fun M' h1 h2 => hc M' h1 (Fr.tr (Fr.up (S := fun i _ => i = 193) Fr.rf rfl) h2))
    rw [up_row (j := 192) _ _ _ (by decide)]
    by_cases z : j = k
    · subst z; rw [up_self]
    · rw [up_col _ _ _ z]; exact hk j (by omega)
def FtB (C : Cf) (σ : Sm) (p : Nat → Bool) (tg : Nat → Nat) (h : Nat) (hp hm ht : Nat → Nat) (s : FSt) (l : List Nat) (M0 M : Mem) : Prop := CfR M C ∧ StR M C ∧ OrR M l ∧ IsR C (M 175) σ ∧ InO p l ∧ HrR C M tg h hp hm ht ∧ M 174 53 = nI s.1 ∧ M 174 54 = s.2.1 ∧ M 174 55 = s.2.2.1 ∧ (0 < s.1 → Ar (M 193) s.2.2.2) ∧ Fr ffF M0 M
theorem ff_keep {C : Cf} {σ : Sm} {M M' : Mem} {tg : Nat → Nat} {h : Nat} {hp hm ht : Nat → Nat} (c2 : C.2.1 ≤ 6) (hF : Fr ffF M M') (a : CfR M C) (b : StR M C) (c : IsR C (M 175) σ) (d : HrR C M tg h hp hm ht) : CfR M' C ∧ StR M' C ∧ IsR C (M' 175) σ ∧ HrR C M' tg h hp hm ht := ⟨CfR.eq (hF 174 1 (by unfold ffF; omega)) (hF 174 3 (by unfold ffF; omega)) (fun i k _ _ => hF i k (by unfold ffF; omega)) a, StR.eq (funext fun k => hF 187 k (by unfold ffF; omega)) b, IsR.eq c2 (fun k _ => hF 175 k (by unfold ffF; omega)) c, d.eq (hF 174 52 (by unfold ffF; omega)) (fun i k z => hF i k (by unfold ffF; omega))⟩
theorem findFits_spec {C : Cf} {σ : Sm} {p : Nat → Bool} {M : Mem} {tg : Nat → Nat} {h : Nat} {hp hm ht : Nat → Nat} (hC : COk C) (hO : Ok C σ) (hpp : Tho C σ p) (hB : σ.2.2.2.2 < 2 ^ 29) (hM : CfR M C) (hT : StR M C) (hI : IsR C (M 175) σ) (hH : HrR C M tg h hp hm ht) : wp (f_X11_findFits (bI p) M) (fun _ M' => M' 174 53 = nI (FtS C σ (lat h hm) (Sh C.2.1 tg h hp hm ht) p).1 ∧ M' 174 54 = (FtS C σ (lat h hm) (Sh C.2.1 tg h hp hm ht) p).2.1 ∧ M' 174 55 = (FtS C σ (lat h hm) (Sh C.2.1 tg h hp hm ht) p).2.2.1 ∧ (0 < (FtS C σ (lat h hm) (Sh C.2.1 tg h hp hm ht) p).1 → Ar (M' 193) (FtS C σ (lat h hm) (Sh C.2.1 tg h hp hm ht) p).2.2.2) ∧ M' 174 37 = nI (fl p 6).length ∧ Fr ffF M M') := by
  have c2 := hC.2.1
  unfold f_X11_findFits f_X11_findFits_0
  rw [wp_ml, wp_ml, wp_ml, wp_bd]
  have f0 : Fr ffF M (up (up (up M 174 53 0) 174 54 0) 174 55 0) := ((Fr.rf.up (by unfold ffF; omega)).up (by unfold ffF; omega)).up (by unfold ffF; omega)
  obtain ⟨m1, m2, m3, m4⟩ := ff_keep c2 f0 hM hT hI hH
  refine wp_mono (beg_ref hC m1 hpp.1) (fun _ M1 q => ?_)
  obtain ⟨q1, q2⟩ := q
  have e53 : M1 174 53 = 0 := by rw [q2 174 53 (by unfold foS; omega), up_col _ _ _ (by decide), up_col _ _ _ (by decide), up_self]
  have e54 : M1 174 54 = 0 := by rw [q2 174 54 (by unfold foS; omega), up_col _ _ _ (by decide), up_self]
  have e55 : M1 174 55 = 0 := by rw [q2 174 55 (by unfold foS; omega), up_self]
  have f1 : Fr ffF M M1 := f0.tr (q2.mn (fun i k z => by unfold foS at z; unfold ffF; omega))
  obtain ⟨g1, g2, g3, g4⟩ := ff_keep c2 f1 hM hT hI hH
  refine ord_loopR (St := FSt) (fun n s mo M => f_X11_findFits_22 n mo M) (ftS C σ (lat h hm) (Sh C.2.1 tg h hp hm ht)) (fun s l M' => FtB C σ p tg h hp hm ht s l M M' ∧ cnB s.1 l) (fun s M' => M' 174 53 = nI s.1 ∧ M' 174 54 = s.2.1 ∧ M' 174 55 = s.2.2.1 ∧ (0 < s.1 → Ar (M' 193) s.2.2.2) ∧ M' 174 37 = nI (fl p 6).length ∧ Fr ffF M M') _ (FtS C σ (lat h hm) (Sh C.2.1 tg h hp hm ht) p) (fun n s l M2 hJ k0 k1 => ?_) (fun n M2 hJ => ?_) 720 FU (fl p 6) (0, 0, 0, []) M1 (by decide) (ends_fl p) rfl ⟨⟨g1, g2, q1, g3, List.Perm.refl _, g4, e53, e54, e55, (fun z => absurd z (Nat.lt_irrefl 0)), f1⟩, 720, ends_fl p, Nat.le_refl _⟩
  · obtain ⟨⟨j1, j2, j3, j4, j5, j6, j7, j8, j9, j10, j11⟩, jc⟩ := hJ
    have hlen := j5.length_eq
    have hcn := cnB_lt jc
    have hl := tho_l hpp j5
    have hlp := tho_ne hC hpp j5
    have le := ft_le C σ (lat h hm) (Sh C.2.1 tg h hp hm ht) s l
    have fin : ∀ (s' : FSt) (M3 : Mem), s' = ftS C σ (lat h hm) (Sh C.2.1 tg h hp hm ht) s l → FtB C σ p tg h hp hm ht s' l M M3 → wp (f_X11_findFits_117 (f_X11_findFits_22 n) M3) (fun _ M' => M' 174 53 = nI (FtS C σ (lat h hm) (Sh C.2.1 tg h hp hm ht) p).1 ∧ M' 174 54 = (FtS C σ (lat h hm) (Sh C.2.1 tg h hp hm ht) p).2.1 ∧ M' 174 55 = (FtS C σ (lat h hm) (Sh C.2.1 tg h hp hm ht) p).2.2.1 ∧ (0 < (FtS C σ (lat h hm) (Sh C.2.1 tg h hp hm ht) p).1 → Ar (M' 193) (FtS C σ (lat h hm) (Sh C.2.1 tg h hp hm ht) p).2.2.2) ∧ M' 174 37 = nI (fl p 6).length ∧ Fr ffF M M') := by
      intro s' M3 e hR
      obtain ⟨b1, b2, b3, b4, b5, b6, b7, b8, b9, b10, b11⟩ := hR
      rw [← e] at le
      unfold f_X11_findFits_117
      rw [wp_bd]
      refine wp_mono (turn_ref b3 (fun g hg => ((io_mem b5).mp hg).1) (tho_ne hC hpp b5)) (fun r M4 w => ?_)
      rcases w with ⟨w1, rfl, rfl⟩ | ⟨q, l', w1, rfl, w3, w4⟩
      · exact k0 _ w1 (by rw [← e]; exact ⟨b7, b8, b9, b10, by rw [b3.2.1, hlen], b11⟩)
      · have f4 : Fr ffF M3 M4 := w4.mn (fun i k z => by unfold noS at z; unfold ffF; omega)
        obtain ⟨y1, y2, y3, y4⟩ := ff_keep c2 f4 b1 b2 b4 b6
        exact k1 q l' M4 w1 (by rw [← e]; exact ⟨⟨y1, y2, w3, y3, io_next b5 w1, y4, (w4 174 53 (by unfold noS; omega)).trans b7, (w4 174 54 (by unfold noS; omega)).trans b8, (w4 174 55 (by unfold noS; omega)).trans b9, fun z j g eg => (w4 193 j (by unfold noS; omega)).trans (b10 z j g eg), b11.tr f4⟩, cnB_next jc le w1⟩)
    show wp (f_X11_findFits_22 (n + 1) 1 M2) _
    unfold f_X11_findFits_22
    rw [if_neg (by decide), wp_bd]
    refine wp_mono (orderHeard_spec hC hO hl.1 hB j1 j2 j3 j4 j6) (fun r M3 w => ?_)
    obtain ⟨rfl, w1⟩ := w
    have f3 : Fr ffF M2 M3 := w1.mn (fun i k z => by unfold mnS at z; unfold ffF; omega)
    obtain ⟨y1, y2, y3, y4⟩ := ff_keep c2 f3 j1 j2 j4 j6
    have hq3 : OrR M3 l := j3.fr w1
    have v53 : M3 174 53 = nI s.1 := (w1 174 53 (by unfold mnS; omega)).trans j7
    have v54 : M3 174 54 = s.2.1 := (w1 174 54 (by unfold mnS; omega)).trans j8
    have v55 : M3 174 55 = s.2.2.1 := (w1 174 55 (by unfold mnS; omega)).trans j9
    have v193 : 0 < s.1 → Ar (M3 193) s.2.2.2 := fun z j g eg => (w1 193 j (by unfold mnS; omega)).trans (j10 z j g eg)
    by_cases z : hvb C σ (lat h hm) (Sh C.2.1 tg h hp hm ht) l = true
    · rw [b2i_t z, if_neg (by decide), v53]
      have add : ∀ (f : List Nat) (M4 : Mem), f = (if s.1 = 0 then l else s.2.2.2) → Ar (M4 193) f → Fr (fun i _ => i = 193) M3 M4 → wp (f_X11_findFits_68 (f_X11_findFits_22 n) M4) (fun _ M' => M' 174 53 = nI (FtS C σ (lat h hm) (Sh C.2.1 tg h hp hm ht) p).1 ∧ M' 174 54 = (FtS C σ (lat h hm) (Sh C.2.1 tg h hp hm ht) p).2.1 ∧ M' 174 55 = (FtS C σ (lat h hm) (Sh C.2.1 tg h hp hm ht) p).2.2.1 ∧ (0 < (FtS C σ (lat h hm) (Sh C.2.1 tg h hp hm ht) p).1 → Ar (M' 193) (FtS C σ (lat h hm) (Sh C.2.1 tg h hp hm ht) p).2.2.2) ∧ M' 174 37 = nI (fl p 6).length ∧ Fr ffF M M') := by
        intro f M4 ef hA f4
        have h6 := hq3.1
        have hq4 : OrR M4 l := hq3.eq (f4 174 37 (by decide)) (fun j => f4 192 j (by show ¬ 192 = 193; decide))
        have a0 : M4 192 0 = nI (ga l 0) := Ar_ga hq4.2.2 hlp
        have a1 : M4 192 (l.length - 1) = nI (ga l (l.length - 1)) := Ar_ga hq4.2.2 (show l.length - 1 < l.length by omega)
        unfold f_X11_findFits_68
        rw [wp_ml, f4 174 53 (by decide), v53, nI_1]
        have A192 : up M4 174 53 (nI (s.1 + 1)) 192 0 = nI (ga l 0) := by rw [up_row _ _ _ (by decide)]; exact a0
        have A54 : up M4 174 53 (nI (s.1 + 1)) 174 54 = s.2.1 := by rw [up_col _ _ _ (by decide), f4 174 54 (by decide)]; exact v54
        have A53 : up M4 174 53 (nI (s.1 + 1)) 174 53 = nI (s.1 + 1) := up_self _ _ _ _
        have FA : Fr (fun i k => i = 174 ∧ k = 53) M4 (up M4 174 53 (nI (s.1 + 1))) := Fr.up (S := fun i k => i = 174 ∧ k = 53) Fr.rf ⟨rfl, rfl⟩
        generalize up M4 174 53 (nI (s.1 + 1)) = MA at A192 A54 A53 FA ⊢
        rw [gd_t (by decide), c0, wp_vl, A192, wp_ml, A54]
        have B54 : up MA 174 54 (s.2.1 ||| 1 <<< (nI (ga l 0) &&& 31)) 174 54 = s.2.1 ||| 1 <<< (nI (ga l 0) &&& 31) := up_self _ _ _ _
        have FB' : Fr (fun i k => i = 174 ∧ k = 54) MA (up MA 174 54 (s.2.1 ||| 1 <<< (nI (ga l 0) &&& 31))) := Fr.up (S := fun i k => i = 174 ∧ k = 54) Fr.rf ⟨rfl, rfl⟩
        generalize up MA 174 54 (s.2.1 ||| 1 <<< (nI (ga l 0) &&& 31)) = MB at B54 FB' ⊢
        have B37 : MB 174 37 = nI l.length := by rw [FB' 174 37 (by decide), FA 174 37 (by decide)]; exact hq4.2.1
        have B192 : MB 192 (l.length - 1) = nI (ga l (l.length - 1)) := by rw [FB' 192 _ (by omega), FA 192 _ (by omega)]; exact a1
        have B55 : MB 174 55 = s.2.2.1 := by rw [FB' 174 55 (by decide), FA 174 55 (by decide), f4 174 55 (by decide)]; exact v55
        rw [B37, nI_sub1 (by omega), gd_t (nI_inb (show l.length - 1 < 6 by omega) (by decide)), nI_clamp (show l.length - 1 < 2 ^ 31 by omega), wp_vl, B192, wp_ml, B55]
        have f5 : Fr ffF M3 (up MB 174 55 (s.2.2.1 ||| 1 <<< (nI (ga l (l.length - 1)) &&& 31))) := Fr.up (((f4.mn (fun i k z => by unfold ffF; omega)).tr (FA.mn (fun i k z => by unfold ffF; omega))).tr (FB'.mn (fun i k z => by unfold ffF; omega))) (by unfold ffF; omega)
        obtain ⟨x1, x2, x3, x4⟩ := ff_keep c2 f5 y1 y2 y3 y4
        refine fin (s.1 + 1, s.2.1 ||| (1 <<< (nI (ga l 0) &&& 31)), s.2.2.1 ||| (1 <<< (nI (ga l (l.length - 1)) &&& 31)), if s.1 = 0 then l else s.2.2.2) _ (if_pos z).symm ⟨x1, x2, hq4.eq ?_ (fun j => ?_), x3, j5, x4, ?_, ?_, ?_, (fun _ j g eg => ?_), (j11.tr f3).tr f5⟩
        · rw [up_col _ _ _ (by decide), FB' 174 37 (by decide), FA 174 37 (by decide)]
        · rw [up_row _ _ _ (by decide), FB' 192 j (by omega), FA 192 j (by omega)]
        · rw [up_col _ _ _ (by decide), FB' 174 53 (by decide), A53]
        · rw [up_col _ _ _ (by decide), B54]
        · rw [up_self]
        · rw [up_row _ _ _ (by decide), FB' 193 j (by omega), FA 193 j (by omega)]
          rw [ef] at hA
          exact hA j g eg
      by_cases y : s.1 = 0
      · rw [if_pos (show nI s.1 = 0 by rw [y]; rfl)]
        exact copyF l.length 0 FU M3 (by omega) (by show l.length < 2000; have := hq3.1; omega) hq3 (fun j hj => absurd hj (Nat.not_lt_zero j)) (fun M4 h1 h2 => add l M4 (if_pos y).symm h1 h2)
      · rw [if_neg (show ¬ nI s.1 = 0 from fun u => y ((nI_eq (b := 0) (by omega) (by decide)).mp u))]
        exact add s.2.2.2 M3 (if_neg y).symm (v193 (by omega)) Fr.rf
    · rw [b2i_f z, if_pos rfl]
      exact fin s M3 (if_neg z).symm ⟨y1, y2, hq3, y3, j5, y4, v53, v54, v55, v193, j11.tr f3⟩
  · show wp (f_X11_findFits_22 (n + 1) 0 M2) _
    unfold f_X11_findFits_22
    rw [if_pos rfl, wp_s]
    exact hJ
theorem fits31 {l : List Nat} {c : Nat} (hc : 0 < c) (hc2 : c ≤ 720) (h6 : l.length ≤ 6) : ∀ (m k n : Nat) (M : Mem), k + m = l.length → m < n → M 174 37 = nI l.length → M 174 53 = nI c → Ar (M 193) l → RwR M (rI (l.take k)) → wp (f_X11_fits_31 n (nI k) M) (fun r M' => r = nI c ∧ RwR M' (rI l) ∧ Fr rrS M M')
  | 0, k, n + 1, M, he, _, hq, h53, hA, hR => by
    unfold f_X11_fits_31 f_X11_fits_62
    rw [hq, if_neg (nI_nlt (by omega) (by omega)), wp_s]
    rw [List.take_of_length_le (by omega)] at hR
    exact ⟨h53, hR, Fr.rf⟩
  | m + 1, k, n + 1, M, he, hn, hq, h53, hA, hR => by
    obtain ⟨g, g1, g2, g3, g4⟩ := get_some (l := l) (k := k) (by omega)
    unfold f_X11_fits_31
    rw [hq, if_pos (nI_lt (by omega) (by omega)), h53, if_pos (nIp hc (by omega)), gd_t (nI_inb (show k < 6 by omega) (by decide)), nI_clamp (by omega), hA k g g1, wp_bd]
    refine wp_mono (tellr_spec (nI g) hR (by rw [rI_len, List.length_take]; omega)) (fun _ M1 w => ?_)
    rw [wp_vl, nI_1]
    refine wp_mono (fits31 hc hc2 h6 m (k + 1) n M1 (by omega) (by omega) ((w.2 174 37 (by unfold rrS; omega)).trans hq) ((w.2 174 53 (by unfold rrS; omega)).trans h53) (fun j x e => (w.2 193 j (by unfold rrS; omega)).trans (hA j x e)) ?_) (fun _ M2 y => ⟨y.1, y.2.1, w.2.tr y.2.2⟩)
    rw [g3, rI_app]
    exact w.1
/-- what was heard, as both hold it -/
theorem InvE.hr {N : Nat} {C : Cf} {σ : Sm} {M : Mem} (hI : InvE N C σ M) : ∃ tg h hp hm ht, HrC C M tg h hp hm ht ∧ HrR C M tg h hp hm ht := by
  obtain ⟨a1, a2, a3, a4, a5, a6, a7, a8, a9, a10, a11, a12, a13, ⟨h, hp, hm, ht, h1, h2, h3, h4⟩⟩ := hI
  have key : ∀ g, ∃ t, g < C.2.1 → t < 5 ∧ M 5 g = nI t := by
    intro g
    by_cases z : g < C.2.1
    · obtain ⟨t, t1, t2⟩ := (a10 g z).2.2.2.2.1
      exact ⟨t, fun _ => ⟨t1, t2⟩⟩
    · exact ⟨0, fun w => absurd w z⟩
  refine ⟨fun g => Classical.choose (key g), h, hp, hm, ht, ⟨h1, h2, fun i hi => ?_, fun g hg => Classical.choose_spec (key g) hg⟩, ⟨h1, h3, fun i hi => ?_, fun g hg => ?_⟩⟩
  · obtain ⟨e1, e2, e3, e4, e5, e6, e7, e8, e9, e10⟩ := h4 i hi
    exact ⟨e1, e2, e3, e4, e5, e7, e9⟩
  · obtain ⟨e1, e2, e3, e4, e5, e6, e7, e8, e9, e10⟩ := h4 i hi
    exact ⟨e1, e2, e3, e4, e6, e8, e10⟩
  · have := Classical.choose_spec (key g) hg
    exact ⟨this.1, by rw [← (a10 g hg).1]; exact this.2⟩
