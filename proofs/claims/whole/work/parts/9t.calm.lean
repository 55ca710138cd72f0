/-! calm, many -/
theorem calm_end (n : Nat) (x1 x2 x3 x5 : Int32) (M : Mem) : f_X10_calm_25 (n + 1) x1 x2 x3 (-1) x5 M = f_X10_calm_135 x2 x3 M := by
  unfold f_X10_calm_25
  split <;> rfl
theorem calm_cls {C : Cf} {σ : Sm} {p : Nat → Bool} {M : Mem} {Q : Int32 → Mem → Prop} (hC : COk C) (hO : Ok C σ) (hp : Tho C σ p) (hB : σ.2.2.2.2 < 2 ^ 29) (hM : CfC M C) (hI : IsC C M 26 σ) (hQ : ∀ M', Fr obS M M' → bok p (RbS C σ false p) → FdC (RbS C σ false p) M' → wp (f_X10_calm_135 (bwm (RbS C σ false p)) (bx (RbS C σ false p)) M') Q) : wp (bd (f_X10_beginOrders (bI p) 0 M) fun r5 M6 => f_X10_calm_25 FU (bI p) (-1) (-1) r5 0 M6) Q := by
  have c2 := hC.2.1
  rw [wp_bd]
  show wp (f_X10_beginOrders (bI p) (b2i (false = true)) M) _
  refine wp_mono (beginC (lis := false) (S := S1) hC hO hM hI (fun _ _ _ => rfl) (fun z => by cases z)) (fun r M1 q => ?_)
  obtain ⟨rfl, q1, q2⟩ := q
  refine ord_loop (fun n s fm t M => f_X10_calm_25 n (bI p) (bwm s) (bx s) fm t M) (rbS C σ false) (fun s l fm M' => CB C σ false S1 p l M M' ∧ Wpr C σ 400 false S1 l fm M' ∧ fm < l.length ∧ bok p s ∧ FdC s M') (fun s M' => Fr obS M M' ∧ bok p s ∧ FdC s M') Q (RbS C σ false p) (fun n s l fm t M2 ht hJ k0 k1 => ?_) (fun n t M2 hJ => ?_) 720 0 FU (fl p 6) none 0 M1 rfl (by decide) (ends_fl p) rfl ⟨q1, q2 _, tho_ne hC hp (List.Perm.refl _), (fun x e => by cases e), (fun x e => by cases e)⟩
  · obtain ⟨j1, j2, j3, j4, j5⟩ := hJ
    have hio := j1.2.2.2.1
    have fin : ∀ (s' : BSt) (M3 : Mem), s' = rbS C σ false s l → CB C σ false S1 p l M M3 → Wkp C σ 400 false S1 l M3 → bok p s' → FdC s' M3 → wp (f_X10_calm_120 (f_X10_calm_25 n) (bI p) (bwm s') (bx s') (nI t) M3) Q := by
      intro s' M3 e b1 b2 b3 b4
      unfold f_X10_calm_120
      rw [wp_bd]
      refine wp_mono (turnC hC hp b1 b2) (fun r M4 w => ?_)
      rw [wp_vl, nI_1]
      rcases w with ⟨w1, rfl, rfl⟩ | ⟨q, l', w1, rfl, w3, w4, w5, w6⟩
      · rw [e]
        exact k0 _ w1 (by rw [← e]; exact ⟨b1.2.2.2.2, b3, b4⟩)
      · rw [e]
        exact k1 q l' M4 w1 (by rw [← e]; exact ⟨w3, w4, w5, b3, fun x ex => (b4 x ex).eq (w6 126 1 (by omega)) (fun k => w6 127 k (by omega))⟩)
    have h6 := io_len hio
    show wp (f_X10_calm_25 (n + 1) (bI p) (bwm s) (bx s) (nI fm) (nI t) M2) Q
    unfold f_X10_calm_25
    rw [if_pos (show nI t < 720 from nI_lt (b := 720) ht (by decide)), if_neg (nI_neq (by omega)), wp_bd]
    refine wp_mono (walkC (L := 400) hC hB hp (Nat.le_refl _) j1 j2 j3) (fun r M3 w => ?_)
    obtain ⟨w1, w2, w3, w4⟩ := w
    have fd3 : FdC s M3 := fun x ex => (j5 x ex).eq (w4 126 1 (by unfold trS; omega)) (fun k => w4 127 k (by unfold trS; omega))
    rcases wk_yes (Nat.le_refl _) w3 with ⟨v, rfl, v2, v3, v4⟩ | ⟨rfl, v2⟩
    · obtain ⟨d1, d2, d3⟩ := dv_ok hC hO hp hio v2
      rw [if_neg (by decide), waitC hio v4, bd_e, gone_spec hC hO (tho_l hp hio).1 w1.2.1 v4, bd_e]
      have upd : rbS C σ false s l = some (v, wto C σ l v, l) → wp (f_X10_calm_103 (f_X10_calm_25 n) (bI p) (nI t) (nI (wto C σ l v)) (nI v) M3) Q := by
        intro e
        unfold f_X10_calm_103
        rw [wp_bd]
        refine wp_mono (copy_ord w1.2.2.1) (fun _ M4 y => ?_)
        obtain ⟨y1, y2⟩ := y
        refine fin (some (v, wto C σ l v, l)) M4 e.symm (w1.cells c2 y2) (w2.cells (fun i k z => y2 i k (by omega))) (fun x ex => ?_) (fun x ex => ?_)
        · cases ex; exact ⟨d1, d2, d3, hio⟩
        · cases ex; exact y1
      cases s with
      | none =>
        rw [show bwm none = -1 from rfl, if_pos rfl]
        refine upd ?_
        unfold rbS
        rw [v2]
      | some x =>
        obtain ⟨o1, o2, o3, o4⟩ := j4 x rfl
        have eS : rbS C σ false (some x) l = if bet false v (wto C σ l v) x.1 x.2.1 = true then some (v, wto C σ l v, l) else some x := by unfold rbS; rw [v2]
        rw [show bx (some x) = nI x.1 from rfl, show bwm (some x) = nI x.2.1 from rfl, if_neg (nI_neq (by omega))]
        by_cases z : wto C σ l v < x.2.1
        · rw [if_pos (nI_lt z (by omega))]
          exact upd (eS.trans (if_pos (bet_0.mpr (Or.inl z))))
        · rw [if_neg (nI_nlt (by omega) (by omega))]
          by_cases y : wto C σ l v = x.2.1
          · rw [if_pos (by rw [y])]
            by_cases u : v < x.1
            · rw [if_pos (nI_lt u (by omega))]
              exact upd (eS.trans (if_pos (bet_0.mpr (Or.inr ⟨y, u⟩))))
            · rw [if_neg (nI_nlt (by omega) (by omega))]
              exact fin (some x) M3 (eS.trans (if_neg (fun t => by have := bet_0.mp t; omega))).symm w1 w2 j4 fd3
          · rw [if_neg (fun t => y ((nI_eq (by omega) (by omega)).mp t))]
            exact fin (some x) M3 (eS.trans (if_neg (fun t => by have := bet_0.mp t; omega))).symm w1 w2 j4 fd3
    · rw [if_pos rfl]
      refine fin s M3 ?_ w1 w2 j4 fd3
      unfold rbS
      cases ed : odv C σ l with
      | none => rfl
      | some v =>
        have hv := v2 v ed
        have := (dv_some.mp ed).1
        omega
  · show wp (f_X10_calm_25 (n + 1) (bI p) (bwm (RbS C σ false p)) (bx (RbS C σ false p)) (-1) t M2) Q
    rw [calm_end]
    exact hQ M2 hJ.1 hJ.2.1 hJ.2.2
theorem st_calm {N : Nat} {M : Mem} (hN : N < 512) (h : Cpl N M) (x : Int32) : Both N (f_X10_calm x) (f_X11_calm x) M := by
  obtain ⟨⟨C, σ, hI⟩, hR⟩ := h
  obtain ⟨a1, a2, a3, a4, a5, a6, a7, a8, -⟩ := id hI
  have c2 := a1.2.1
  unfold Both f_X10_calm f_X10_calm_0
  by_cases hx : ThoX C σ x
  · rw [(c_out a1 a5 a7 a2 x).1 hx, bd_e, if_neg (by decide)]
    obtain ⟨p, rfl, hp⟩ := id hx
    refine calm_cls a1 a2 hp (by omega) a5 a7 (fun M1 q2 q3 q4 => ?_)
    have ref : ∀ M2, Fr scr M M2 → (RbS C σ false p = none → Fr scr0 M M2) → (∀ z, RbS C σ false p = some z → RwC M2 (nI z.1 :: rI z.2.2)) → wp (f_X11_calm (bI p) M2) (fun r' M3 => r' = (match RbS C σ false p with
        | none => -2
        | some z => nI z.2.1) ∧ Cpl (N + 1) M3) := by
      intro M2 hF hF0 hw
      have hI2 := hI.sc hF
      unfold f_X11_calm f_X11_calm_0
      rw [wp_ml, (no_tho hI2 (bI p)).1 hx, bd_e, if_neg (by decide), wp_bd]
      refine wp_mono (ref_ly hI2) (fun _ M3 w => ?_)
      obtain ⟨w1, w2, w3⟩ := w
      obtain ⟨b1, b2, b3, b4, b5, b6, b7, b8, -⟩ := id w1
      rw [wp_bd, show (0 : Int32) = b2i (false = true) from rfl]
      refine wp_mono (findBest_spec (bt := false) b1 b2 hp (by omega) b6 w2 b8) (fun _ M4 y => ?_)
      obtain ⟨y1, y2, y3, y4, y5, y6⟩ := y
      have f24 : Fr scr0 M2 M4 := w3.tr (fb_s0 y6)
      rw [show b2i (false = true) = (0 : Int32) from rfl, y1]
      cases e : RbS C σ false p with
      | none =>
        rw [show bR1 none = 1000000 from rfl, if_pos rfl, wp_s]
        exact ⟨rfl, q_same hI hN hR ((hF0 e).tr f24)⟩
      | some z =>
        obtain ⟨z1, z2, z3, z4⟩ := q3 z e
        have e39 : M4 174 39 = nI z.1 := by rw [y1, e]; rfl
        have e40 : M4 174 40 = nI z.2.1 := by rw [y2, e]; rfl
        rw [show bR1 (some z) = nI z.1 from rfl, if_neg (show ¬ nI z.1 = 1000000 from fun t => by have := (nI_eq (b := 1000000) (by omega) (by decide)).mp t; omega), wp_ml, up_col _ _ _ (by decide), e39, wp_bd]
        have hlen := z4.length_eq
        have h6 := io_len z4
        refine wp_mono (tellr_spec (nI z.1) (rowr0 M4).1 (by decide)) (fun _ M5 s => ?_)
        obtain ⟨s1, s2⟩ := s
        have f45 : Fr rrS M4 M5 := (rowr0 M4).2.tr s2
        refine wp_mono (calm53 (l := z.2.2) (r0 := [nI z.1]) h6 (by show 1 + z.2.2.length ≤ 12; omega) z.2.2.length 0 FU _ (by omega) (by show _ < 2000; omega) (by rw [f45 174 37 (by unfold rrS; omega), y5, hlen]) (fun j g eg => (f45 193 j (by unfold rrS; omega)).trans (y4 z e j g eg)) (by rw [List.take_zero]; exact s1)) (fun r M6 u => ?_)
        obtain ⟨u1, u2, u3⟩ := u
        have f46 := f45.tr u3
        refine ⟨?_, q_row (l := nI z.1 :: rI z.2.2) hI hN ((hF.tr (s0_scr f24)).tr (rr_scr f46)) (by rw [List.length_cons, rI_len]; omega) ?_ u2⟩
        · rw [u1, f45 174 40 (by unfold rrS; omega), e40]
        · refine (hw z e).fr ?_ (funext fun k => ?_)
          · rw [f46 0 16 (by unfold rrS; omega)]; exact f24 0 16 (by unfold scr0; omega)
          · rw [f46 173 k (by unfold rrS; omega)]; exact f24 173 k (by unfold scr0; omega)
    unfold f_X10_calm_135
    cases e : RbS C σ false p with
    | none =>
      rw [show bwm none = -1 from rfl, if_pos rfl, wp_s]
      have := ref M1 (s0_scr (ob_s0 q2)) (fun _ => ob_s0 q2) (fun z ez => by rw [e] at ez; cases ez)
      rw [e] at this
      exact this
    | some z =>
      obtain ⟨z1, z2, z3, z4⟩ := q3 z e
      rw [show bwm (some z) = nI z.2.1 from rfl, show bx (some z) = nI z.1 from rfl, if_neg (nI_neq (by omega)), wp_bd]
      refine wp_mono (clearRow_spec M1) (fun _ M2 w => ?_)
      rw [wp_bd]
      refine wp_mono (tell_spec (nI z.1) w.1 (by decide)) (fun _ M3 y => ?_)
      have f13 : Fr rcS M1 M3 := w.2.tr y.2
      rw [wp_bd]
      refine wp_mono (tellFound_spec (l := z.2.2) (r0 := [nI z.1]) (by show 1 + z.2.2.length ≤ 12; have := io_len z4; omega) ((q4 z e).eq (f13 126 1 (by unfold rcS; omega)) (fun k => f13 127 k (by unfold rcS; omega))) y.1) (fun _ M4 u => ?_)
      rw [wp_s]
      have := ref M4 (((s0_scr (ob_s0 q2)).tr (rc_scr f13)).tr (rc_scr u.2)) (fun t => by rw [e] at t; cases t) (fun z' ez => by rw [e] at ez; cases ez; exact u.1)
      rw [e] at this
      exact this
  · rw [(c_out a1 a5 a7 a2 x).2 hx, bd_e, if_pos rfl, wp_s]
    unfold f_X11_calm f_X11_calm_0
    rw [wp_ml, (no_tho hI x).2 hx, bd_e, if_pos rfl, wp_s]
    exact ⟨rfl, q_same hI hN hR fr14⟩
/-! many -/
def myS (C : Cf) (σ : Sm) (n : Nat) (s : Nat × Nat) (l : List Nat) : Nat × Nat := match odv C σ l with
  | none => (s.1, s.2 + 1)
  | some v => if n < v then s else (s.1 + 1, s.2)
def MyS (C : Cf) (σ : Sm) (n : Nat) (p : Nat → Bool) : Nat × Nat := (chain 720 (fl p 6)).foldl (myS C σ n) (0, 0)
theorem many_end (n : Nat) (x2 x3 x4 x6 : Int32) (M : Mem) : f_X10_many_38 (n + 1) x2 x3 x4 (-1) x6 M = f_X10_many_106 x3 x4 M := by
  unfold f_X10_many_38
  split <;> rfl
theorem many_cls {C : Cf} {σ : Sm} {p : Nat → Bool} {M : Mem} {y : Nat} {Q : Int32 → Mem → Prop} (hy : y ≤ 400) (hC : COk C) (hO : Ok C σ) (hp : Tho C σ p) (hB : σ.2.2.2.2 < 2 ^ 29) (hM : CfC M C) (hI : IsC C M 26 σ) (hQ : ∀ M', Fr obS M M' → wp (f_X10_many_106 (nI (MyS C σ y p).1) (nI (MyS C σ y p).2) M') Q) : wp (bd (f_X10_beginOrders (bI p) 0 M) fun r7 M8 => f_X10_many_38 FU (nI y) 0 0 r7 0 M8) Q := by
  have c2 := hC.2.1
  rw [wp_bd]
  show wp (f_X10_beginOrders (bI p) (b2i (false = true)) M) _
  refine wp_mono (beginC (lis := false) (S := S1) hC hO hM hI (fun _ _ _ => rfl) (fun z => by cases z)) (fun r M1 q => ?_)
  obtain ⟨rfl, q1, q2⟩ := q
  refine ord_loop (St := Nat × Nat) (fun n s fm t M => f_X10_many_38 n (nI y) (nI s.1) (nI s.2) fm t M) (myS C σ y) (fun s l fm M' => CB C σ false S1 p l M M' ∧ Wpr C σ 400 false S1 l fm M' ∧ fm < l.length) (fun s M' => Fr obS M M') Q (MyS C σ y p) (fun n s l fm t M2 ht hJ k0 k1 => ?_) (fun n t M2 hJ => ?_) 720 0 FU (fl p 6) (0, 0) 0 M1 rfl (by decide) (ends_fl p) rfl ⟨q1, q2 _, tho_ne hC hp (List.Perm.refl _)⟩
  · obtain ⟨j1, j2, j3⟩ := hJ
    have hio := j1.2.2.2.1
    have fin : ∀ (s' : Nat × Nat) (M3 : Mem), s' = myS C σ y s l → CB C σ false S1 p l M M3 → Wkp C σ 400 false S1 l M3 → wp (f_X10_many_91 (f_X10_many_38 n) (nI y) (nI s'.1) (nI s'.2) (nI t) M3) Q := by
      intro s' M3 e b1 b2
      unfold f_X10_many_91
      rw [wp_bd]
      refine wp_mono (turnC hC hp b1 b2) (fun r M4 w => ?_)
      rw [wp_vl, nI_1]
      rcases w with ⟨w1, rfl, rfl⟩ | ⟨q, l', w1, rfl, w3, w4, w5, w6⟩
      · rw [e]
        exact k0 _ w1 b1.2.2.2.2
      · rw [e]
        exact k1 q l' M4 w1 ⟨w3, w4, w5⟩
    have h6 := io_len hio
    show wp (f_X10_many_38 (n + 1) (nI y) (nI s.1) (nI s.2) (nI fm) (nI t) M2) Q
    unfold f_X10_many_38
    rw [if_pos (show nI t < 720 from nI_lt (b := 720) ht (by decide)), if_neg (nI_neq (by omega)), wp_bd]
    refine wp_mono (walkC (L := 400) hC hB hp (Nat.le_refl _) j1 j2 j3) (fun r M3 w => ?_)
    obtain ⟨w1, w2, w3, w4⟩ := w
    rcases wk_yes (Nat.le_refl _) w3 with ⟨v, rfl, v2, v3, v4⟩ | ⟨rfl, v2⟩
    · obtain ⟨d1, d2, d3⟩ := dv_ok hC hO hp hio v2
      rw [if_neg (by decide), gone_spec hC hO (tho_l hp hio).1 w1.2.1 v4, bd_e]
      have eS : myS C σ y s l = if y < v then s else (s.1 + 1, s.2) := by unfold myS; rw [v2]
      by_cases z : y < v
      · rw [if_pos (nI_lt z (by omega))]
        exact fin s M3 (eS.trans (if_pos z)).symm w1 w2
      · rw [if_neg (nI_nlt (by omega) (by omega)), wp_vl, nI_1]
        exact fin (s.1 + 1, s.2) M3 (eS.trans (if_neg z)).symm w1 w2
    · rw [if_pos rfl, wp_vl, nI_1]
      refine fin (s.1, s.2 + 1) M3 ?_ w1 w2
      unfold myS
      cases ed : odv C σ l with
      | none => rfl
      | some v =>
        have hv := v2 v ed
        have := (dv_some.mp ed).1
        omega
  · show wp (f_X10_many_38 (n + 1) (nI y) (nI (MyS C σ y p).1) (nI (MyS C σ y p).2) (-1) t M2) Q
    rw [many_end]
    exact hQ M2 hJ
def myF : Nat → Nat → Prop := fun i k => (191 ≤ i ∧ i ≤ 193) ∨ (i = 174 ∧ (k = 30 ∨ k = 31 ∨ k = 32 ∨ k = 37))
theorem my_s0 {M M' : Mem} (h : Fr myF M M') : Fr scr0 M M' := h.mn (fun i k q => by
  rcases q with q | q
  · exact s0_9x (by omega)
  · exact s0_74 (by omega))
theorem my_keep {C : Cf} {σ : Sm} {M M' : Mem} (c2 : C.2.1 ≤ 6) (hF : Fr myF M M') (a : CfR M C) (b : StR M C) (c : IsR C (M 175) σ) : CfR M' C ∧ StR M' C ∧ IsR C (M' 175) σ := ⟨CfR.eq (hF 174 1 (by unfold myF; omega)) (hF 174 3 (by unfold myF; omega)) (fun i k _ _ => hF i k (by unfold myF; omega)) a, StR.eq (funext fun k => hF 187 k (by unfold myF; omega)) b, IsR.eq c2 (fun k _ => hF 175 k (by unfold myF; omega)) c⟩
theorem many_ref {C : Cf} {σ : Sm} {p : Nat → Bool} {M : Mem} {y : Nat} (hy : y ≤ 400) (hC : COk C) (hO : Ok C σ) (hp : Tho C σ p) (hB : σ.2.2.2.2 < 2 ^ 29) (hM : CfR M C) (hT : StR M C) (hI : IsR C (M 175) σ) : wp (bd (f_X11_firstOrder (bI p) M) fun _ M14 => f_X11_many_43 FU (nI y) 0 0 1 M14) (fun r M' => r = nI (MyS C σ y p).1 ∧ RwR M' [nI (MyS C σ y p).2] ∧ ∃ M1, Fr myF M M1 ∧ Fr rrS M1 M') := by
  have c2 := hC.2.1
  rw [wp_bd]
  refine wp_mono (beg_ref hC hM hp.1) (fun _ M1 q => ?_)
  obtain ⟨q1, q2⟩ := q
  have f1 : Fr myF M M1 := q2.mn (fun i k z => by unfold foS at z; unfold myF; omega)
  obtain ⟨g1, g2, g3⟩ := my_keep c2 f1 hM hT hI
  refine ord_loopR (St := Nat × Nat) (fun n s mo M => f_X11_many_43 n (nI y) (nI s.1) (nI s.2) mo M) (myS C σ y) (fun s l M' => CfR M' C ∧ StR M' C ∧ OrR M' l ∧ IsR C (M' 175) σ ∧ InO p l ∧ Fr myF M M') (fun s M' => Fr myF M M') _ (MyS C σ y p) (fun n s l M2 hJ k0 k1 => ?_) (fun n M2 hJ => ?_) 720 FU (fl p 6) (0, 0) M1 (by decide) (ends_fl p) rfl ⟨g1, g2, q1, g3, List.Perm.refl _, f1⟩
  · obtain ⟨j1, j2, j3, j4, j5, j6⟩ := hJ
    have hl := tho_l hp j5
    have hne : l ≠ [] := by
      intro z
      have := tho_ne hC hp j5
      rw [z] at this
      exact absurd this (Nat.lt_irrefl 0)
    show wp (f_X11_many_43 (n + 1) (nI y) (nI s.1) (nI s.2) 1 M2) _
    unfold f_X11_many_43
    rw [if_neg (by decide), wp_bd]
    refine wp_mono (goDay_spec hC hO hl.1 hne hB j1 j2 j3 j4) (fun r M3 w => ?_)
    obtain ⟨w1, w2⟩ := w
    have f3 : Fr myF M2 M3 := w1.mn (fun i k z => by unfold mnS at z; unfold myF; omega)
    obtain ⟨y1, y2, y3⟩ := my_keep c2 f3 j1 j2 j4
    have hq3 : OrR M3 l := j3.fr w1
    have fin : ∀ s', s' = myS C σ y s l → wp (bd (f_X11_nextOrder M3) fun r28 M29 => f_X11_many_43 n (nI y) (nI s'.1) (nI s'.2) r28 M29) (fun r M' => r = nI (MyS C σ y p).1 ∧ RwR M' [nI (MyS C σ y p).2] ∧ ∃ M1, Fr myF M M1 ∧ Fr rrS M1 M') := by
      intro s' e
      rw [wp_bd]
      refine wp_mono (turn_ref hq3 (fun g hg => ((io_mem j5).mp hg).1) (tho_ne hC hp j5)) (fun r M4 w => ?_)
      rcases w with ⟨v1, rfl, rfl⟩ | ⟨q, l', w1, rfl, w3, w4⟩
      · rw [e]
        exact k0 _ v1 (j6.tr f3)
      · have f4 : Fr myF M3 M4 := w4.mn (fun i k z => by unfold noS at z; unfold myF; omega)
        obtain ⟨z1, z2, z3⟩ := my_keep c2 f4 y1 y2 y3
        rw [e]
        exact k1 q l' M4 w1 ⟨z1, z2, w3, z3, io_next j5 w1, (j6.tr f3).tr f4⟩
    unfold f_X11_many_66 f_X11_many_83
    rcases w2 with ⟨v, v1, rfl, v3⟩ | ⟨v1, rfl, v3⟩
    · obtain ⟨d1, d2, d3⟩ := dv_ok hC hO hp j5 v1
      have eS : myS C σ y s l = if y < v then s else (s.1 + 1, s.2) := by unfold myS; rw [v1]
      have nf : ¬ nI v = 1000000 := fun t => by have := (nI_eq (b := 1000000) (by omega) (by decide)).mp t; omega
      by_cases z : y < v
      · rw [if_pos (nI_lt z (by omega)), wp_vl, if_neg nf, wp_vl, show nI s.2 + 0 = nI s.2 from nI_add s.2 0, show nI s.1 + 0 = nI s.1 from nI_add s.1 0]
        exact fin s (eS.trans (if_pos z)).symm
      · rw [if_neg (nI_nlt (by omega) (by omega)), wp_vl, if_neg nf, wp_vl, show nI s.2 + 0 = nI s.2 from nI_add s.2 0, nI_1]
        exact fin (s.1 + 1, s.2) (eS.trans (if_neg z)).symm
    · rw [if_pos (show nI y < 1000000 from nI_lt (b := 1000000) (by omega) (by decide)), wp_vl, if_pos rfl, wp_vl, nI_1, show nI s.1 + 0 = nI s.1 from nI_add s.1 0]
      exact fin (s.1, s.2 + 1) (by unfold myS; rw [v1])
  · show wp (f_X11_many_43 (n + 1) (nI y) (nI (MyS C σ y p).1) (nI (MyS C σ y p).2) 0 M2) _
    unfold f_X11_many_43
    rw [if_pos rfl, wp_ml, wp_bd]
    refine wp_mono (tellr_spec (nI (MyS C σ y p).2) (rowr0 M2).1 (by decide)) (fun _ M3 w => ?_)
    rw [wp_s]
    exact ⟨rfl, w.1, M2, hJ, (rowr0 M2).2.tr w.2⟩
theorem st_many {N : Nat} {M : Mem} (hN : N < 512) (h : Cpl N M) (x y : Int32) : Both N (f_X10_many x y) (f_X11_many x y) M := by
  obtain ⟨⟨C, σ, hI⟩, hR⟩ := h
  obtain ⟨a1, a2, a3, a4, a5, a6, a7, a8, -⟩ := id hI
  have c2 := a1.2.1
  have no : ¬ (ThoX C σ x ∧ ¬ y < 1 ∧ ¬ 400 < y) → wp (f_X11_many x y M) (fun r' M2 => r' = -1 ∧ Cpl (N + 1) M2) := by
    intro hx
    unfold f_X11_many f_X11_many_0 f_X11_many_24
    rw [wp_ml]
    by_cases z : ThoX C σ x
    · rw [(no_tho hI x).1 z, bd_e, if_neg (by decide), in_spec, bd_e, b2i_f (fun w => hx ⟨z, w⟩), if_pos rfl, wp_s]
      exact ⟨rfl, q_same hI hN hR fr14⟩
    · rw [(no_tho hI x).2 z, bd_e, if_pos rfl, wp_s]
      exact ⟨rfl, q_same hI hN hR fr14⟩
  unfold Both f_X10_many f_X10_many_0 f_X10_many_20
  by_cases h1 : y < 1
  · rw [if_pos h1, wp_s]; exact no (fun q => q.2.1 h1)
  rw [if_neg h1]
  by_cases h2 : 400 < y
  · rw [if_pos h2, wp_s]; exact no (fun q => q.2.2 h2)
  rw [if_neg h2]
  by_cases hx : ThoX C σ x
  · rw [(c_out a1 a5 a7 a2 x).1 hx, bd_e, if_neg (by decide)]
    obtain ⟨p, rfl, hp⟩ := id hx
    obtain ⟨m, m1, m2, rfl⟩ := rng (a := 1) (b := 400) (by decide) (by decide) h1 h2
    refine many_cls m2 a1 a2 hp (by omega) a5 a7 (fun M1 q => ?_)
    unfold f_X10_many_106
    rw [wp_bd]
    refine wp_mono (clearRow_spec M1) (fun _ M2 w => ?_)
    rw [wp_bd]
    refine wp_mono (tell_spec (nI (MyS C σ m p).2) w.1 (by decide)) (fun _ M3 u => ?_)
    rw [wp_s]
    have f3 : Fr scr M M3 := ((s0_scr (ob_s0 q)).tr (rc_scr w.2)).tr (rc_scr u.2)
    have hI3 := hI.sc f3
    unfold f_X11_many f_X11_many_0
    rw [wp_ml, (no_tho hI3 (bI p)).1 hx, bd_e, if_neg (by decide), in_spec, bd_e, b2i_t ⟨h1, h2⟩, if_neg (by decide), wp_bd]
    refine wp_mono (ref_ly hI3) (fun _ M4 v => ?_)
    obtain ⟨w1, w2, w3⟩ := v
    obtain ⟨b1, b2, b3, b4, b5, b6, b7, b8, -⟩ := id w1
    refine wp_mono (many_ref m2 b1 b2 hp (by omega) b6 w2 b8) (fun r M5 z => ?_)
    obtain ⟨rfl, z2, M6, z3, z4⟩ := z
    have f36 : Fr scr0 M3 M6 := w3.tr (my_s0 z3)
    refine ⟨rfl, q_row (l := [nI (MyS C σ m p).2]) hI hN ((f3.tr (s0_scr f36)).tr (rr_scr z4)) (by show 1 ≤ 12; decide) (u.1.fr ?_ (funext fun k => ?_)) z2⟩
    · rw [z4 0 16 (by unfold rrS; omega)]; exact f36 0 16 (by unfold scr0; omega)
    · rw [z4 173 k (by unfold rrS; omega)]; exact f36 173 k (by unfold scr0; omega)
  · rw [(c_out a1 a5 a7 a2 x).2 hx, bd_e, if_pos rfl, wp_s]
    exact no (fun q => hx q.1)
