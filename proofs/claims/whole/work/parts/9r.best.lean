/-! the best of all orders -/
abbrev BSt : Type := Option (Nat × Nat × List Nat)
def bx (s : BSt) : Int32 := match s with
  | none => -1
  | some x => nI x.1
def bw0 (s : BSt) : Int32 := match s with
  | none => 0
  | some x => nI x.2.1
def bwm (s : BSt) : Int32 := match s with
  | none => -1
  | some x => nI x.2.1
def bR1 (s : BSt) : Int32 := match s with
  | none => 1000000
  | some x => nI x.1
def bR2 (s : BSt) : Int32 := match s with
  | none => 1000000
  | some x => nI x.2.1
def bet (bt : Bool) (v w sv sw : Nat) : Bool := if bt = true then decide (v < sv ∨ (v = sv ∧ w < sw)) else decide (w < sw ∨ (w = sw ∧ v < sv))
theorem bet_1 {v w sv sw : Nat} : bet true v w sv sw = true ↔ v < sv ∨ (v = sv ∧ w < sw) := by simp [bet]
theorem bet_0 {v w sv sw : Nat} : bet false v w sv sw = true ↔ w < sw ∨ (w = sw ∧ v < sv) := by simp [bet]
def rbS (C : Cf) (σ : Sm) (bt : Bool) (s : BSt) (l : List Nat) : BSt := match odv C σ l with
  | none => s
  | some v => match s with
    | none => some (v, wto C σ l v, l)
    | some x => if bet bt v (wto C σ l v) x.1 x.2.1 = true then some (v, wto C σ l v, l) else some x
def fsS (C : Cf) (σ : Sm) (L0 : Nat) (s : BSt) (l : List Nat) : BSt := match odv C σ l with
  | none => s
  | some v => match s with
    | none => if v ≤ L0 then some (v, wto C σ l v, l) else none
    | some x => if bet true v (wto C σ l v) x.1 x.2.1 = true then some (v, wto C σ l v, l) else some x
def bok (p : Nat → Bool) (s : BSt) : Prop := ∀ x, s = some x → 1 ≤ x.1 ∧ x.1 ≤ 400 ∧ x.2.1 ≤ 2400 ∧ InO p x.2.2
def FdC (s : BSt) (M : Mem) : Prop := ∀ x, s = some x → OrC 126 M x.2.2
def lim (L0 : Nat) (s : BSt) : Nat := match s with
  | none => L0
  | some x => x.1
theorem dv_ok {C : Cf} {σ : Sm} {p : Nat → Bool} {l : List Nat} {n : Nat} (hC : COk C) (hO : Ok C σ) (hp : Tho C σ p) (hl : InO p l) (e : odv C σ l = some n) : 1 ≤ n ∧ n ≤ 400 ∧ wto C σ l n ≤ 2400 := by
  obtain ⟨h1, h2, h3⟩ := dv_some.mp e
  refine ⟨?_, h1, wto_le hC hO (tho_l hp hl).1 (tho_l hp hl).2 h1⟩
  apply Classical.byContradiction
  intro z
  have : n = 0 := by omega
  subst this
  have h4 : l = [] := (dnb_t.mp h2).1
  have := tho_ne hC hp hl
  rw [h4] at this
  exact absurd this (Nat.lt_irrefl 0)
def S1 : Nat → Sm → Bool := fun _ _ => true
theorem waitC {C : Cf} {σ : Sm} {p : Nat → Bool} {l : List Nat} {n : Nat} {M : Mem} (hl : InO p l) (hI : IsC C M 165 (od C σ l n)) : f_X7_waitedBy 165 (bI p) M = some (nI (wto C σ l n), M) := by
  rw [ci_waited hI, sumB_tb]
  unfold wto
  rw [io_sum hl]
theorem beginC {C : Cf} {σ : Sm} {p : Nat → Bool} {M : Mem} {lis : Bool} {S : Nat → Sm → Bool} (hC : COk C) (hO : Ok C σ) (hM : CfC M C) (hI : IsC C M 26 σ) (h0 : lis = false → ∀ n τ, S n τ = true) (h1 : lis = true → ∃ tg h hp hm ht, HrC C M tg h hp hm ht ∧ S = Sh C.2.1 tg h hp hm ht) : wp (f_X10_beginOrders (bI p) (b2i (lis = true)) M) (fun r M' => r = 0 ∧ CB C σ lis S p (fl p 6) M M' ∧ ∀ L, Wpr C σ L lis S (fl p 6) 0 M') := by
  have c2 := hC.2.1
  unfold f_X10_beginOrders f_X10_beginOrders_0
  rw [wp_bd]
  refine wp_mono (begin_spec (lis := lis) hI hO) (fun _ M1 q => ?_)
  obtain ⟨q1, q2, q3, q4⟩ := q
  rw [wp_bd]
  refine wp_mono (beg_cls (q := 124) (p := p)) (fun _ M2 w => ?_)
  obtain ⟨w1, w2⟩ := w
  rw [wp_s]
  have f12 : ∀ i k, i ≠ 124 → i ≠ 125 → i ≠ 128 → ¬ (130 ≤ i ∧ i ≤ 134) → M2 i k = M i k := fun i k e1 e2 e3 e4 => (w2 i k (by omega)).trans (q4 i k (by unfold bgS; omega))
  refine ⟨rfl, ⟨CfC.eq c2 (fun i k hi => f12 i k (by omega) (by omega) (by omega) (by omega)) hM, ⟨(w2 128 5 (by omega)).trans q1, (w2 128 3 (by omega)).trans q2, h0, fun hl => ?_⟩, w1, List.Perm.refl _, fun i k hn => f12 i k (fun z => hn (by unfold obS; omega)) (fun z => hn (by unfold obS; omega)) (fun z => hn (by unfold obS; omega)) (fun z => hn (by unfold obS; omega))⟩, fun L => (q3 L S (fl p 6)).cells (fun i k z => w2 i k (by omega))⟩
  obtain ⟨tg, h, hp, hm, ht, a, b⟩ := h1 hl
  exact ⟨tg, h, hp, hm, ht, a.eq c2 (fun i k z => f12 i k (by omega) (by omega) (by omega) (by omega)), b⟩
theorem fs_end (n : Nat) (x1 x2 x3 x4 x6 : Int32) (M : Mem) : f_X10_findSoonest_16 (n + 1) x1 x2 x3 x4 (-1) x6 M = some (x3, M) := by
  unfold f_X10_findSoonest_16
  split <;> rfl
def SoS (C : Cf) (σ : Sm) (L0 : Nat) (p : Nat → Bool) : BSt := (chain 720 (fl p 6)).foldl (fsS C σ L0) none
def RbS (C : Cf) (σ : Sm) (bt : Bool) (p : Nat → Bool) : BSt := (chain 720 (fl p 6)).foldl (rbS C σ bt) none
theorem findSoonest_spec {C : Cf} {σ : Sm} {p : Nat → Bool} {M : Mem} {L0 : Nat} (hC : COk C) (hO : Ok C σ) (hp : Tho C σ p) (hB : σ.2.2.2.2 < 2 ^ 29) (hL : L0 ≤ 400) (hM : CfC M C) (hI : IsC C M 26 σ) : wp (f_X10_findSoonest (bI p) (nI L0) M) (fun r M' => r = bx (SoS C σ L0 p) ∧ Fr obS M M' ∧ bok p (SoS C σ L0 p) ∧ FdC (SoS C σ L0 p) M') := by
  have c2 := hC.2.1
  unfold f_X10_findSoonest f_X10_findSoonest_0
  rw [wp_bd, show (0 : Int32) = b2i (false = true) from rfl]
  refine wp_mono (beginC (lis := false) (S := S1) hC hO hM hI (fun _ _ _ => rfl) (fun z => by cases z)) (fun r M1 q => ?_)
  obtain ⟨rfl, q1, q2⟩ := q
  refine ord_loop (fun n s fm t M => f_X10_findSoonest_16 n (bI p) (nI L0) (bx s) (bw0 s) fm t M) (fsS C σ L0) (fun s l fm M' => CB C σ false S1 p l M M' ∧ Wpr C σ (lim L0 s) false S1 l fm M' ∧ fm < l.length ∧ bok p s ∧ FdC s M') (fun s M' => Fr obS M M' ∧ bok p s ∧ FdC s M') _ (SoS C σ L0 p) (fun n s l fm t M2 ht hJ k0 k1 => ?_) (fun n t M2 hJ => ?_) 720 0 FU (fl p 6) none 0 M1 rfl (by decide) (ends_fl p) rfl ⟨q1, q2 _, tho_ne hC hp (List.Perm.refl _), (fun x e => by cases e), (fun x e => by cases e)⟩
  · obtain ⟨j1, j2, j3, j4, j5⟩ := hJ
    have hlim : lim L0 s ≤ 400 := by
      cases s with
      | none => exact hL
      | some x => exact (j4 x rfl).2.1
    have hio := j1.2.2.2.1
    have fin : ∀ (s' : BSt) (M3 : Mem), s' = fsS C σ L0 s l → CB C σ false S1 p l M M3 → Wkp C σ (lim L0 s') false S1 l M3 → bok p s' → FdC s' M3 → wp (f_X10_findSoonest_114 (f_X10_findSoonest_16 n) (bI p) (nI L0) (bx s') (bw0 s') (nI t) M3) (fun r M' => r = bx (SoS C σ L0 p) ∧ Fr obS M M' ∧ bok p (SoS C σ L0 p) ∧ FdC (SoS C σ L0 p) M') := by
      intro s' M3 e b1 b2 b3 b4
      unfold f_X10_findSoonest_114
      rw [wp_bd]
      refine wp_mono (turnC hC hp b1 b2) (fun r M4 w => ?_)
      rw [wp_vl, nI_1]
      rcases w with ⟨w1, rfl, rfl⟩ | ⟨q, l', w1, rfl, w3, w4, w5, w6⟩
      · rw [e]
        exact k0 _ w1 (by rw [← e]; exact ⟨b1.2.2.2.2, b3, b4⟩)
      · rw [e]
        exact k1 q l' M4 w1 (by rw [← e]; exact ⟨w3, w4, w5, b3, fun x ex => (b4 x ex).eq (w6 126 1 (by omega)) (fun k => w6 127 k (by omega))⟩)
    have key : wp (f_X10_findSoonest_50 (f_X10_findSoonest_16 n) (bI p) (nI L0) (bx s) (bw0 s) (nI t) (nI fm) (nI (lim L0 s)) M2) (fun r M' => r = bx (SoS C σ L0 p) ∧ Fr obS M M' ∧ bok p (SoS C σ L0 p) ∧ FdC (SoS C σ L0 p) M') := by
      unfold f_X10_findSoonest_50
      rw [wp_bd]
      refine wp_mono (walkC hC hB hp hlim j1 j2 j3) (fun r M3 w => ?_)
      obtain ⟨w1, w2, w3, w4⟩ := w
      have fd3 : FdC s M3 := fun x ex => (j5 x ex).eq (w4 126 1 (by unfold trS; omega)) (fun k => w4 127 k (by unfold trS; omega))
      rcases wk_yes hlim w3 with ⟨v, rfl, v2, v3, v4⟩ | ⟨rfl, v2⟩
      · obtain ⟨d1, d2, d3⟩ := dv_ok hC hO hp hio v2
        rw [if_neg (by decide), gone_spec hC hO (tho_l hp hio).1 w1.2.1 v4, bd_e, waitC hio v4, bd_e]
        have upd : fsS C σ L0 s l = some (v, wto C σ l v, l) → wp (f_X10_findSoonest_96 (f_X10_findSoonest_16 n) (bI p) (nI L0) (nI t) (nI v) (nI (wto C σ l v)) M3) (fun r M' => r = bx (SoS C σ L0 p) ∧ Fr obS M M' ∧ bok p (SoS C σ L0 p) ∧ FdC (SoS C σ L0 p) M') := by
          intro e
          unfold f_X10_findSoonest_96
          rw [wp_bd]
          refine wp_mono (copy_ord w1.2.2.1) (fun _ M4 y => ?_)
          obtain ⟨y1, y2⟩ := y
          refine fin (some (v, wto C σ l v, l)) M4 e.symm (w1.cells c2 y2) ((w2.le v3 (fun _ _ => rfl)).cells (fun i k z => y2 i k (by omega))) (fun x ex => ?_) (fun x ex => ?_)
          · cases ex; exact ⟨d1, d2, d3, hio⟩
          · cases ex; exact y1
        cases s with
        | none =>
          rw [show bx none = -1 from rfl, if_pos rfl]
          refine upd ?_
          unfold fsS
          rw [v2]
          exact if_pos v3
        | some x =>
          obtain ⟨o1, o2, o3, o4⟩ := j4 x rfl
          have v3' : v ≤ x.1 := v3
          rw [show bx (some x) = nI x.1 from rfl, show bw0 (some x) = nI x.2.1 from rfl, if_neg (nI_neq (by omega))]
          by_cases z : v < x.1
          · rw [if_pos (nI_lt z (by omega))]
            refine upd ?_
            unfold fsS
            rw [v2]
            exact if_pos (bet_1.mpr (Or.inl z))
          · rw [if_neg (nI_nlt (by omega) (by omega))]
            by_cases y : wto C σ l v < x.2.1
            · rw [if_pos (nI_lt y (by omega))]
              refine upd ?_
              unfold fsS
              rw [v2]
              exact if_pos (bet_1.mpr (Or.inr ⟨by omega, y⟩))
            · rw [if_neg (nI_nlt (by omega) (by omega))]
              refine fin (some x) M3 ?_ w1 w2 j4 fd3
              unfold fsS
              rw [v2]
              exact (if_neg (fun u => by have := bet_1.mp u; omega)).symm
      · rw [if_pos rfl]
        refine fin s M3 ?_ w1 w2 j4 fd3
        unfold fsS
        cases ed : odv C σ l with
        | none => rfl
        | some v =>
          have hv := v2 v ed
          cases s with
          | none =>
            have hv' : L0 < v := hv
            exact (if_neg (by omega)).symm
          | some x =>
            have hv' : x.1 < v := hv
            exact (if_neg (fun u => by have := bet_1.mp u; omega)).symm
    show wp (f_X10_findSoonest_16 (n + 1) (bI p) (nI L0) (bx s) (bw0 s) (nI fm) (nI t) M2) _
    have h6 := io_len hio
    unfold f_X10_findSoonest_16
    rw [if_pos (show nI t < 720 from nI_lt (b := 720) ht (by decide)), if_neg (nI_neq (by omega))]
    cases s with
    | none => rw [show bx none = -1 from rfl, if_pos rfl]; exact key
    | some x => rw [show bx (some x) = nI x.1 from rfl, if_neg (nI_neq (by have := (j4 x rfl).2.1; omega))]; exact key
  · show wp (f_X10_findSoonest_16 (n + 1) (bI p) (nI L0) (bx (SoS C σ L0 p)) (bw0 (SoS C σ L0 p)) (-1) t M2) _
    rw [fs_end, wp_s]
    exact ⟨rfl, hJ⟩
/-! the reference finds the best -/
def fbF : Nat → Nat → Prop := fun i k => (191 ≤ i ∧ i ≤ 193) ∨ (i = 174 ∧ (k = 30 ∨ k = 31 ∨ k = 32 ∨ k = 37 ∨ k = 39 ∨ k = 40))
theorem fb_s0 {M M' : Mem} (h : Fr fbF M M') : Fr scr0 M M' := h.mn (fun i k q => by
  rcases q with q | q
  · exact s0_9x (by omega)
  · exact s0_74 (by omega))
theorem copyR {K21 : Int32 → Int32 → Mem → Option (Int32 × Mem)} {x2 : Int32} {l : List Nat} {Q : Int32 → Mem → Prop} : ∀ (m k n : Nat) (M : Mem), k + m = l.length → m < n → OrR M l → (∀ j, j < k → M 193 j = M 192 j) → (∀ M', Ar (M' 193) l → Fr (fun i _ => i = 193) M M' → wp (f_X11_findBest_167 K21 x2 M') Q) → wp (f_X11_findBest_138 K21 n x2 (nI k) M) Q
  | 0, k, n + 1, M, he, _, hq, hk, hc => by
    have h6 := hq.1
    unfold f_X11_findBest_138
    rw [hq.2.1, if_neg (nI_nlt (by omega) (by omega))]
    refine hc M (fun j g e => ?_) Fr.rf
    have hj : j < l.length := by
      apply Classical.byContradiction
      intro z
      rw [List.getElem?_eq_none (by omega)] at e; cases e
    rw [hk j (by omega)]
    exact hq.2.2 j g e
  | m + 1, k, n + 1, M, he, hn, hq, hk, hc => by
    have h6 := hq.1
    unfold f_X11_findBest_138
    rw [hq.2.1, if_pos (nI_lt (by omega) (by omega)), gd_t (nI_inb (show k < 6 by omega) (by decide)), gd_t (nI_inb (show k < 6 by omega) (by decide)), nI_clamp (by omega), wp_ml, wp_vl, nI_1]
    refine copyR m (k + 1) n _ (by omega) (by omega) (hq.eq (by rw [up_row _ _ _ (by decide)]) (fun j => by rw [up_row _ _ _ (by decide)])) (fun j hj => ?_) (fun M' h1 h2 => hc M' h1 (Fr.tr (Fr.up (S := fun i _ => i = 193) Fr.rf rfl) h2))
    rw [up_row (j := 192) _ _ _ (by decide)]
    by_cases z : j = k
    · subst z; rw [up_self]
    · rw [up_col _ _ _ z]; exact hk j (by omega)
def FdR (s : BSt) (M : Mem) : Prop := ∀ x, s = some x → Ar (M 193) x.2.2
def RB (C : Cf) (σ : Sm) (p : Nat → Bool) (s : BSt) (l : List Nat) (M0 M : Mem) : Prop := CfR M C ∧ StR M C ∧ OrR M l ∧ IsR C (M 175) σ ∧ InO p l ∧ M 174 39 = bR1 s ∧ M 174 40 = bR2 s ∧ bok p s ∧ FdR s M ∧ Fr fbF M0 M
theorem findBest_spec {C : Cf} {σ : Sm} {p : Nat → Bool} {M : Mem} {bt : Bool} (hC : COk C) (hO : Ok C σ) (hp : Tho C σ p) (hB : σ.2.2.2.2 < 2 ^ 29) (hM : CfR M C) (hT : StR M C) (hI : IsR C (M 175) σ) : wp (f_X11_findBest (bI p) (b2i (bt = true)) M) (fun _ M' => M' 174 39 = bR1 (RbS C σ bt p) ∧ M' 174 40 = bR2 (RbS C σ bt p) ∧ bok p (RbS C σ bt p) ∧ FdR (RbS C σ bt p) M' ∧ M' 174 37 = nI (fl p 6).length ∧ Fr fbF M M') := by
  have c2 := hC.2.1
  unfold f_X11_findBest f_X11_findBest_0
  rw [wp_ml, wp_ml, wp_bd]
  have hM1 : CfR (up (up M 174 39 1000000) 174 40 1000000) C := CfR.eq (by rw [up_col _ _ _ (by decide), up_col _ _ _ (by decide)]) (by rw [up_col _ _ _ (by decide), up_col _ _ _ (by decide)]) (fun i k a b => by rw [up_row _ _ _ (by omega), up_row _ _ _ (by omega)]) hM
  refine wp_mono (beg_ref hC hM1 hp.1) (fun _ M1 q => ?_)
  obtain ⟨q1, q2⟩ := q
  have e39 : M1 174 39 = 1000000 := by rw [q2 174 39 (by unfold foS; omega), up_col _ _ _ (by decide), up_self]
  have e40 : M1 174 40 = 1000000 := by rw [q2 174 40 (by unfold foS; omega), up_self]
  have f1 : Fr fbF M M1 := ((Fr.rf.up (by unfold fbF; omega)).up (by unfold fbF; omega)).tr (q2.mn (fun i k z => by unfold foS at z; unfold fbF; omega))
  have hfr : ∀ {M' M'' : Mem}, Fr fbF M' M'' → CfR M' C → StR M' C → IsR C (M' 175) σ → CfR M'' C ∧ StR M'' C ∧ IsR C (M'' 175) σ := by
    intro M' M'' hF a b c
    exact ⟨CfR.eq (hF 174 1 (by unfold fbF; omega)) (hF 174 3 (by unfold fbF; omega)) (fun i k _ _ => hF i k (by unfold fbF; omega)) a, StR.eq (funext fun k => hF 187 k (by unfold fbF; omega)) b, IsR.eq c2 (fun k _ => hF 175 k (by unfold fbF; omega)) c⟩
  obtain ⟨g1, g2, g3⟩ := hfr f1 hM hT hI
  refine ord_loopR (fun n s mo M => f_X11_findBest_21 n (b2i (bt = true)) mo M) (rbS C σ bt) (fun s l M' => RB C σ p s l M M') (fun s M' => M' 174 39 = bR1 s ∧ M' 174 40 = bR2 s ∧ bok p s ∧ FdR s M' ∧ M' 174 37 = nI (fl p 6).length ∧ Fr fbF M M') _ (RbS C σ bt p) (fun n s l M2 hJ k0 k1 => ?_) (fun n M2 hJ => ?_) 720 FU (fl p 6) none M1 (by decide) (ends_fl p) rfl ⟨g1, g2, q1, g3, List.Perm.refl _, e39, e40, (fun x e => by cases e), (fun x e => by cases e), f1⟩
  · obtain ⟨j1, j2, j3, j4, j5, j6, j7, j8, j9, j10⟩ := hJ
    have hlen := j5.length_eq
    have fin : ∀ (s' : BSt) (M3 : Mem), s' = rbS C σ bt s l → RB C σ p s' l M M3 → wp (f_X11_findBest_167 (f_X11_findBest_21 n) (b2i (bt = true)) M3) (fun _ M' => M' 174 39 = bR1 (RbS C σ bt p) ∧ M' 174 40 = bR2 (RbS C σ bt p) ∧ bok p (RbS C σ bt p) ∧ FdR (RbS C σ bt p) M' ∧ M' 174 37 = nI (fl p 6).length ∧ Fr fbF M M') := by
      intro s' M3 e hR
      obtain ⟨b1, b2, b3, b4, b5, b6, b7, b8, b9, b10⟩ := hR
      unfold f_X11_findBest_167
      rw [wp_bd]
      refine wp_mono (turn_ref b3 (fun g hg => ((io_mem b5).mp hg).1) (tho_ne hC hp b5)) (fun r M4 w => ?_)
      rcases w with ⟨w1, rfl, rfl⟩ | ⟨q, l', w1, rfl, w3, w4⟩
      · exact k0 _ w1 (by rw [← e]; exact ⟨b6, b7, b8, b9, by rw [b3.2.1, hlen], b10⟩)
      · have f4 : Fr fbF M3 M4 := w4.mn (fun i k z => by unfold noS at z; unfold fbF; omega)
        obtain ⟨y1, y2, y3⟩ := hfr f4 b1 b2 b4
        exact k1 q l' M4 w1 (by rw [← e]; exact ⟨y1, y2, w3, y3, io_next b5 w1, (w4 174 39 (by unfold noS; omega)).trans b6, (w4 174 40 (by unfold noS; omega)).trans b7, b8, fun x ex j g eg => (w4 193 j (by unfold noS; omega)).trans (b9 x ex j g eg), b10.tr f4⟩)
    have hl := tho_l hp j5
    have hne : l ≠ [] := by
      intro z
      have := tho_ne hC hp j5
      rw [z] at this
      exact absurd this (Nat.lt_irrefl 0)
    show wp (f_X11_findBest_21 (n + 1) (b2i (bt = true)) 1 M2) _
    unfold f_X11_findBest_21
    rw [if_neg (by decide), wp_bd]
    refine wp_mono (goDay_spec hC hO hl.1 hne hB j1 j2 j3 j4) (fun r M3 w => ?_)
    obtain ⟨w1, w2⟩ := w
    have f3 : Fr fbF M2 M3 := w1.mn (fun i k z => by unfold mnS at z; unfold fbF; omega)
    obtain ⟨y1, y2, y3⟩ := hfr f3 j1 j2 j4
    have hq3 : OrR M3 l := j3.fr w1
    have e39' : M3 174 39 = bR1 s := (w1 174 39 (by unfold mnS; omega)).trans j6
    have e40' : M3 174 40 = bR2 s := (w1 174 40 (by unfold mnS; omega)).trans j7
    have rb3 : RB C σ p s l M M3 := ⟨y1, y2, hq3, y3, j5, e39', e40', j8, fun x ex j g eg => (w1 193 j (by unfold mnS; omega)).trans (j9 x ex j g eg), j10.tr f3⟩
    rcases w2 with ⟨v, v1, rfl, v3⟩ | ⟨v1, rfl, v3⟩
    · obtain ⟨d1, d2, d3⟩ := dv_ok hC hO hp j5 v1
      rw [waitedR_spec hC hl.1 hl.2 (io_nd j5) hO hq3 v3 y3, bd_e, e39', e40']
      show wp (if b2i (bt = true) = 0 then _ else _) _
      have yes : rbS C σ bt s l = some (v, wto C σ l v, l) → wp (f_X11_findBest_108 (f_X11_findBest_21 n) (b2i (bt = true)) (nI v) (nI (wto C σ l v)) 1 M3) (fun _ M' => M' 174 39 = bR1 (RbS C σ bt p) ∧ M' 174 40 = bR2 (RbS C σ bt p) ∧ bok p (RbS C σ bt p) ∧ FdR (RbS C σ bt p) M' ∧ M' 174 37 = nI (fl p 6).length ∧ Fr fbF M M') := by
        intro e
        unfold f_X11_findBest_108
        rw [if_pos (show nI v < 1000000 from nI_lt (b := 1000000) (by omega) (by decide)), if_neg (by decide), wp_ml, wp_ml]
        refine copyR l.length 0 FU _ (by omega) (by show l.length < 2000; have := hq3.1; omega) (hq3.eq (by rw [up_col _ _ _ (by decide), up_col _ _ _ (by decide)]) (fun j => by rw [up_row _ _ _ (by decide), up_row _ _ _ (by decide)])) (fun j hj => absurd hj (Nat.not_lt_zero j)) (fun M4 h1 h2 => ?_)
        have f4 : Fr fbF M3 M4 := ((Fr.rf.up (by unfold fbF; omega)).up (by unfold fbF; omega)).tr (h2.mn (fun i k z => by unfold fbF; omega))
        obtain ⟨z1, z2, z3⟩ := hfr f4 y1 y2 y3
        refine fin (some (v, wto C σ l v, l)) M4 e.symm ⟨z1, z2, hq3.eq ?_ (fun j => ?_), z3, j5, ?_, ?_, (fun x ex => by cases ex; exact ⟨d1, d2, d3, j5⟩), (fun x ex => by cases ex; exact h1), rb3.2.2.2.2.2.2.2.2.2.tr f4⟩
        · rw [h2 174 37 (by decide), up_col _ _ _ (by decide), up_col _ _ _ (by decide)]
        · rw [h2 192 j (by show ¬ 192 = 193; decide), up_row _ _ _ (by decide), up_row _ _ _ (by decide)]
        · rw [h2 174 39 (by decide), up_col _ _ _ (by decide), up_self]; rfl
        · rw [h2 174 40 (by decide), up_self]; rfl
      have no : rbS C σ bt s l = s → wp (f_X11_findBest_108 (f_X11_findBest_21 n) (b2i (bt = true)) (nI v) (nI (wto C σ l v)) 0 M3) (fun _ M' => M' 174 39 = bR1 (RbS C σ bt p) ∧ M' 174 40 = bR2 (RbS C σ bt p) ∧ bok p (RbS C σ bt p) ∧ FdR (RbS C σ bt p) M' ∧ M' 174 37 = nI (fl p 6).length ∧ Fr fbF M M') := by
        intro e
        unfold f_X11_findBest_108
        rw [if_pos (show nI v < 1000000 from nI_lt (b := 1000000) (by omega) (by decide)), if_pos rfl]
        exact fin s M3 e.symm rb3
      unfold f_X11_findBest_103 f_X11_findBest_107 f_X11_findBest_68 f_X11_findBest_72
      cases s with
      | none =>
        have eS : rbS C σ bt none l = some (v, wto C σ l v, l) := by unfold rbS; rw [v1]
        rw [show bR1 none = 1000000 from rfl, show bR2 none = 1000000 from rfl]
        cases bt with
        | true => rw [if_neg (by decide), if_pos (show nI v < 1000000 from nI_lt (b := 1000000) (by omega) (by decide))]; exact yes eS
        | false => rw [if_pos (by decide), if_pos (show nI (sumB (lb l) (od C σ l v).2.2.1) < 1000000 from nI_lt (b := 1000000) (by unfold wto at d3; omega) (by decide))]; exact yes eS
      | some x =>
        obtain ⟨o1, o2, o3, o4⟩ := j8 x rfl
        have eS : rbS C σ bt (some x) l = if bet bt v (wto C σ l v) x.1 x.2.1 = true then some (v, wto C σ l v, l) else some x := by unfold rbS; rw [v1]
        have d3' : sumB (lb l) (od C σ l v).2.2.1 ≤ 2400 := d3
        rw [show bR1 (some x) = nI x.1 from rfl, show bR2 (some x) = nI x.2.1 from rfl]
        have ew : sumB (lb l) (od C σ l v).2.2.1 = wto C σ l v := rfl
        rw [ew] at d3' ⊢
        cases bt with
        | true =>
          rw [if_neg (by decide)]
          by_cases z : v < x.1
          · rw [if_pos (nI_lt z (by omega))]
            exact yes (eS.trans (if_pos (bet_1.mpr (Or.inl z))))
          · rw [if_neg (nI_nlt (by omega) (by omega))]
            by_cases y : v = x.1
            · rw [if_pos (by rw [y])]
              by_cases u : wto C σ l v < x.2.1
              · rw [if_pos (nI_lt u (by omega))]
                exact yes (eS.trans (if_pos (bet_1.mpr (Or.inr ⟨y, u⟩))))
              · rw [if_neg (nI_nlt (by omega) (by omega))]
                exact no (eS.trans (if_neg (fun t => by have := bet_1.mp t; omega)))
            · rw [if_neg (fun t => y ((nI_eq (by omega) (by omega)).mp t))]
              exact no (eS.trans (if_neg (fun t => by have := bet_1.mp t; omega)))
        | false =>
          rw [if_pos (by decide)]
          by_cases z : wto C σ l v < x.2.1
          · rw [if_pos (nI_lt z (by omega))]
            exact yes (eS.trans (if_pos (bet_0.mpr (Or.inl z))))
          · rw [if_neg (nI_nlt (by omega) (by omega))]
            by_cases y : wto C σ l v = x.2.1
            · rw [if_pos (by rw [y])]
              by_cases u : v < x.1
              · rw [if_pos (nI_lt u (by omega))]
                exact yes (eS.trans (if_pos (bet_0.mpr (Or.inr ⟨y, u⟩))))
              · rw [if_neg (nI_nlt (by omega) (by omega))]
                exact no (eS.trans (if_neg (fun t => by have := bet_0.mp t; omega)))
            · rw [if_neg (fun t => y ((nI_eq (by omega) (by omega)).mp t))]
              exact no (eS.trans (if_neg (fun t => by have := bet_0.mp t; omega)))
    · rw [waitedR_spec hC hl.1 hl.2 (io_nd j5) hO hq3 v3 y3, bd_e]
      have eS : rbS C σ bt s l = s := by unfold rbS; rw [v1]
      have all : ∀ t0, wp (f_X11_findBest_108 (f_X11_findBest_21 n) (b2i (bt = true)) 1000000 (nI (sumB (lb l) (od C σ l 400).2.2.1)) t0 M3) (fun _ M' => M' 174 39 = bR1 (RbS C σ bt p) ∧ M' 174 40 = bR2 (RbS C σ bt p) ∧ bok p (RbS C σ bt p) ∧ FdR (RbS C σ bt p) M' ∧ M' 174 37 = nI (fl p 6).length ∧ Fr fbF M M') := by
        intro t0
        unfold f_X11_findBest_108
        rw [if_neg (by decide)]
        exact fin s M3 eS.symm rb3
      unfold f_X11_findBest_103 f_X11_findBest_107 f_X11_findBest_68 f_X11_findBest_72
      split
      · split
        · exact all 1
        · split
          · split
            · exact all 1
            · exact all 0
          · exact all 0
      · split
        · exact all 1
        · split
          · split
            · exact all 1
            · exact all 0
          · exact all 0
  · show wp (f_X11_findBest_21 (n + 1) (b2i (bt = true)) 0 M2) _
    unfold f_X11_findBest_21
    rw [if_pos rfl, wp_s]
    exact hJ
