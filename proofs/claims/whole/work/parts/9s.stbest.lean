/-! who may be asked for -/
def ThoX (C : Cf) (σ : Sm) (x : Int32) : Prop := ∃ p, x = bI p ∧ Tho C σ p
theorem bI0 : bI (fun _ => false) = 0 := by decide
theorem tho_of {C : Cf} {σ : Sm} {x : Int32} {p : Nat → Bool} (hC : COk C) (e : x = bI p) (h1 : ∀ g, C.2.1 ≤ g → p g = false) (h0 : x ≠ 0) (h2 : ∀ g, g < C.2.1 → p g = true → σ.1 g = 0) : Tho C σ p := by
  refine ⟨h1, fun g hg => ?_, ?_⟩
  · by_cases z : g < C.2.1
    · exact h2 g z hg
    · rw [h1 g (by omega)] at hg; cases hg
  · apply Classical.byContradiction
    intro z
    apply h0
    rw [e, bI_zero]
    intro g _
    rw [Bool.eq_false_iff]
    intro w
    exact z ⟨g, w⟩
theorem c_out {C : Cf} {σ : Sm} {M : Mem} (hC : COk C) (hM : CfC M C) (hI : IsC C M 26 σ) (hO : Ok C σ) (x : Int32) : (ThoX C σ x → f_X10_areOutside x M = some (1, M)) ∧ (¬ ThoX C σ x → f_X10_areOutside x M = some (0, M)) := by
  have c2 := hC.2.1
  have key : ∀ p, bI p &&& (bI (fun g => ins (σ.1 g)) ||| bI (fun g => σ.1 g == 10)) = 0 ↔ ∀ g, g < 6 → p g = true → σ.1 g = 0 := by
    intro p
    rw [bI_or, bI_and, bI_zero]
    constructor
    · intro h g hg hp
      have := h g hg
      rw [hp, Bool.true_and, Bool.or_eq_false_iff] at this
      rcases ins_f.mp this.1 with q | q
      · exact q
      · rw [q] at this; exact absurd this.2 (by decide)
    · intro h g hg
      cases hp : p g with
      | false => rfl
      | true => rw [h g hg hp]; rfl
  unfold f_X10_areOutside f_X10_areOutside_0 f_X10_areOutside_38 f_X10_areOutside_39
  rw [ci_ins hC hI hO.toM, bd_e, ci_thr hC hI hO.toM, bd_e]
  constructor
  · rintro ⟨p, rfl, h⟩
    have hne : bI p ≠ 0 := by
      rw [Ne, bI_zero]
      intro z
      obtain ⟨g, hg⟩ := h.2.2
      by_cases w : g < 6
      · rw [z g w] at hg; cases hg
      · rw [h.1 g (by omega)] at hg; cases hg
    show (if bI p = 0 then _ else _) = _
    rw [if_neg hne, c_there hC hM, bd_e, b2i_t ((there_iff c2 _).mpr ⟨p, rfl, h.1⟩), if_neg (by decide), if_pos ((key p).mpr (fun g _ hg => h.2.1 g hg))]
    rfl
  · intro h
    show (if x = 0 then _ else _) = _
    by_cases z : x = 0
    · rw [if_pos z]; rfl
    · rw [if_neg z, c_there hC hM, bd_e]
      by_cases y : (x &&& (bI (allB C.2.1) ^^^ (-1))) = 0
      · rw [b2i_t y, if_neg (by decide)]
        obtain ⟨p, e, hp⟩ := (there_iff c2 x).mp y
        subst e
        rw [if_neg (fun w => h ⟨p, rfl, tho_of hC rfl hp z (fun g hg hg2 => (key p).mp w g (by omega) hg2)⟩)]
        rfl
      · rw [b2i_f y, if_pos rfl]; rfl
theorem ro_loop {C : Cf} {σ : Sm} {M : Mem} (hC : COk C) (hM : CfR M C) (hI : IsR C (M 175) σ) (hO : Ok C σ) (p : Nat → Bool) : ∀ (m g n : Nat), g + m = C.2.1 → m < n → (∀ j, j < g → p j = true → σ.1 j = 0) → ((∀ j, j < C.2.1 → p j = true → σ.1 j = 0) → f_X11_areOutside_2 n (bI p) (nI g) M = some (1, M)) ∧ (¬ (∀ j, j < C.2.1 → p j = true → σ.1 j = 0) → f_X11_areOutside_2 n (bI p) (nI g) M = some (0, M))
  | 0, g, n + 1, he, _, hj => by
    have c2 := hC.2.1
    have : g = C.2.1 := by omega
    subst this
    unfold f_X11_areOutside_2
    rw [hM.2.1, if_neg (nI_nlt (Nat.le_refl _) (by omega))]
    exact ⟨fun _ => rfl, fun z => absurd hj z⟩
  | m + 1, g, n + 1, he, hn, hj => by
    have c2 := hC.2.1
    have hg : g < C.2.1 := by omega
    have hat := at_lt hC hO.toM g
    have hb : bit (bI p) (nI g) ↔ p g = true := by rw [bit_bI p (by omega)]; exact ⟨fun z => z.2, fun z => ⟨by omega, z⟩⟩
    unfold f_X11_areOutside_2
    rw [hM.2.1, if_pos (nI_lt hg (by omega)), mhas_spec, bd_e]
    have on : (p g = true → σ.1 g = 0) → ((∀ j, j < C.2.1 → p j = true → σ.1 j = 0) → f_X11_areOutside_30 (f_X11_areOutside_2 n) (bI p) (nI g) M = some (1, M)) ∧ (¬ (∀ j, j < C.2.1 → p j = true → σ.1 j = 0) → f_X11_areOutside_30 (f_X11_areOutside_2 n) (bI p) (nI g) M = some (0, M)) := by
      intro w
      have e : f_X11_areOutside_30 (f_X11_areOutside_2 n) (bI p) (nI g) M = f_X11_areOutside_2 n (bI p) (nI (g + 1)) M := by
        rw [← nI_1]; rfl
      rw [e]
      exact ro_loop hC hM hI hO p m (g + 1) n (by omega) (by omega) (fun j h1 h2 => by
        by_cases q : j = g
        · subst q; exact w h2
        · exact hj j (by omega) h2)
    by_cases z : p g = true
    · rw [b2i_t (hb.mpr z), if_neg (by decide), gd_t (nI_inb (show g < 25 by omega) (by decide)), nI_clamp (by omega), hI.1 g hg]
      by_cases y : σ.1 g = 0
      · rw [if_pos ((pI_m1 (by omega)).mpr y)]
        exact on (fun _ => y)
      · rw [if_neg (fun w => y ((pI_m1 (by omega)).mp w))]
        exact ⟨fun w => absurd (w g hg z) y, fun _ => rfl⟩
    · rw [b2i_f (fun w => z (hb.mp w)), if_pos rfl]
      exact on (fun w => absurd w z)
theorem r_out {C : Cf} {σ : Sm} {M : Mem} (hC : COk C) (hM : CfR M C) (hI : IsR C (M 175) σ) (hO : Ok C σ) (x : Int32) : (ThoX C σ x → f_X11_canOrder x M = some (1, M)) ∧ (¬ ThoX C σ x → f_X11_canOrder x M = some (0, M)) := by
  have c2 := hC.2.1
  have lo : ∀ {y : Int32}, ¬ y < 1 → ¬ y < 0 := by
    intro y h1 h2
    apply h1
    rw [Int32.lt_iff_toInt_lt] at h2 ⊢
    have : (0 : Int32).toInt = 0 := by decide
    have : (1 : Int32).toInt = 1 := by decide
    omega
  unfold f_X11_canOrder f_X11_canOrder_0 f_X11_canOrder_24 f_X11_canOrder_25
  rw [ri_every hC hM, bd_e, in_spec, bd_e]
  constructor
  · rintro ⟨p, rfl, h⟩
    have hne : bI p ≠ 0 := by
      rw [Ne, bI_zero]
      intro z
      obtain ⟨g, hg⟩ := h.2.2
      by_cases w : g < 6
      · rw [z g w] at hg; cases hg
      · rw [h.1 g (by omega)] at hg; cases hg
    have hin := (there_in c2 (bI p)).mpr ⟨p, rfl, h.1⟩
    have h1 : ¬ bI p < 1 := by
      obtain ⟨n, n1, n2⟩ := bI_le c2 h.1
      have := pow6 c2
      rw [n2]
      refine nI_nlt (b := 1) ?_ (by omega)
      apply Classical.byContradiction
      intro z
      have : n = 0 := by omega
      rw [this] at n2
      exact hne n2
    rw [b2i_t ⟨h1, hin.2⟩, if_neg (by decide)]
    unfold f_X11_areOutside f_X11_areOutside_0
    have := (ro_loop hC hM hI hO p C.2.1 0 FU (by omega) (by show C.2.1 < 2000; omega) (fun j hj => absurd hj (Nat.not_lt_zero j))).1 (fun j _ hj => h.2.1 j hj)
    rw [nI_0] at this
    rw [this, bd_e, if_neg (by decide)]
    rfl
  · intro h
    by_cases z : ¬ x < 1 ∧ ¬ bI (allB C.2.1) < x
    · rw [b2i_t z, if_neg (by decide)]
      obtain ⟨p, e, hp⟩ := (there_in c2 x).mp ⟨lo z.1, z.2⟩
      subst e
      have hne : bI p ≠ 0 := by
        intro w
        rw [w] at z
        exact z.1 (by decide)
      unfold f_X11_areOutside f_X11_areOutside_0
      have := (ro_loop hC hM hI hO p C.2.1 0 FU (by omega) (by show C.2.1 < 2000; omega) (fun j hj => absurd hj (Nat.not_lt_zero j))).2 (fun w => h ⟨p, rfl, tho_of hC rfl hp hne w⟩)
      rw [nI_0] at this
      rw [this, bd_e, if_pos rfl]
      rfl
    · rw [b2i_f z, if_pos rfl]; rfl
/-! rows of orders -/
def rI (l : List Nat) : List Int32 := l.map nI
theorem rI_len (l : List Nat) : (rI l).length = l.length := by unfold rI; rw [List.length_map]
theorem rI_app (a b : List Nat) : rI (a ++ b) = rI a ++ rI b := by unfold rI; rw [List.map_append]
theorem tellFound_loop {l : List Nat} {r0 : List Int32} (hr : r0.length + l.length ≤ 12) : ∀ (m k n : Nat) (M : Mem), k + m = l.length → m < n → OrC 126 M l → RwC M (r0 ++ rI (l.take k)) → wp (f_X10_tellFound_2 n (nI k) M) (fun _ M' => RwC M' (r0 ++ rI l) ∧ Fr rcS M M')
  | 0, k, n + 1, M, he, _, hq, hR => by
    have h6 := hq.1
    unfold f_X10_tellFound_2
    rw [hq.2.1, if_neg (nI_nlt (by omega) (by omega)), wp_s]
    rw [List.take_of_length_le (by omega)] at hR
    exact ⟨hR, Fr.rf⟩
  | m + 1, k, n + 1, M, he, hn, hq, hR => by
    have h6 := hq.1
    obtain ⟨g, g1, g2, g3, g4⟩ := get_some (l := l) (k := k) (by omega)
    unfold f_X10_tellFound_2
    rw [hq.2.1, if_pos (nI_lt (by omega) (by omega)), gd_t (nI_inb (show k < 6 by omega) (by decide)), nI_clamp (by omega), hq.2.2 k g g1, wp_bd]
    refine wp_mono (tell_spec (nI g) hR (by rw [List.length_append, rI_len, List.length_take]; omega)) (fun _ M1 w => ?_)
    rw [wp_vl, nI_1]
    refine wp_mono (tellFound_loop hr m (k + 1) n M1 (by omega) (by omega) (hq.eq (w.2 126 1 (by unfold rcS; omega)) (fun j => w.2 127 j (by unfold rcS; omega))) ?_) (fun _ M2 y => ⟨y.1, w.2.tr y.2⟩)
    rw [g3, rI_app, ← List.append_assoc]
    exact w.1
theorem tellFound_spec {l : List Nat} {r0 : List Int32} {M : Mem} (hr : r0.length + l.length ≤ 12) (hq : OrC 126 M l) (hR : RwC M r0) : wp (f_X10_tellFound M) (fun _ M' => RwC M' (r0 ++ rI l) ∧ Fr rcS M M') := by
  have h6 := hq.1
  exact tellFound_loop hr l.length 0 FU M (by omega) (by show l.length < 2000; omega) hq (by rw [List.take_zero]; show RwC M (r0 ++ []); rw [List.append_nil]; exact hR)
theorem best45 {l : List Nat} {r0 : List Int32} (h6 : l.length ≤ 6) (hr : r0.length + l.length ≤ 12) : ∀ (m k n : Nat) (M : Mem), k + m = l.length → m < n → M 174 37 = nI l.length → Ar (M 193) l → RwR M (r0 ++ rI (l.take k)) → wp (f_X11_best_45 n (nI k) M) (fun r M' => r = M 174 39 ∧ RwR M' (r0 ++ rI l) ∧ Fr rrS M M')
  | 0, k, n + 1, M, he, _, hq, hA, hR => by
    unfold f_X11_best_45
    rw [hq, if_neg (nI_nlt (by omega) (by omega)), wp_s]
    rw [List.take_of_length_le (by omega)] at hR
    exact ⟨rfl, hR, Fr.rf⟩
  | m + 1, k, n + 1, M, he, hn, hq, hA, hR => by
    obtain ⟨g, g1, g2, g3, g4⟩ := get_some (l := l) (k := k) (by omega)
    unfold f_X11_best_45
    rw [hq, if_pos (nI_lt (by omega) (by omega)), gd_t (nI_inb (show k < 6 by omega) (by decide)), nI_clamp (by omega), hA k g g1, wp_bd]
    refine wp_mono (tellr_spec (nI g) hR (by rw [List.length_append, rI_len, List.length_take]; omega)) (fun _ M1 w => ?_)
    rw [wp_vl, nI_1]
    refine wp_mono (best45 h6 hr m (k + 1) n M1 (by omega) (by omega) ((w.2 174 37 (by unfold rrS; omega)).trans hq) (fun j x e => (w.2 193 j (by unfold rrS; omega)).trans (hA j x e)) ?_) (fun _ M2 y => ⟨y.1.trans (w.2 174 39 (by unfold rrS; omega)), y.2.1, w.2.tr y.2.2⟩)
    rw [g3, rI_app, ← List.append_assoc]
    exact w.1
theorem calm53 {l : List Nat} {r0 : List Int32} (h6 : l.length ≤ 6) (hr : r0.length + l.length ≤ 12) : ∀ (m k n : Nat) (M : Mem), k + m = l.length → m < n → M 174 37 = nI l.length → Ar (M 193) l → RwR M (r0 ++ rI (l.take k)) → wp (f_X11_calm_53 n (nI k) M) (fun r M' => r = M 174 40 ∧ RwR M' (r0 ++ rI l) ∧ Fr rrS M M')
  | 0, k, n + 1, M, he, _, hq, hA, hR => by
    unfold f_X11_calm_53
    rw [hq, if_neg (nI_nlt (by omega) (by omega)), wp_s]
    rw [List.take_of_length_le (by omega)] at hR
    exact ⟨rfl, hR, Fr.rf⟩
  | m + 1, k, n + 1, M, he, hn, hq, hA, hR => by
    obtain ⟨g, g1, g2, g3, g4⟩ := get_some (l := l) (k := k) (by omega)
    unfold f_X11_calm_53
    rw [hq, if_pos (nI_lt (by omega) (by omega)), gd_t (nI_inb (show k < 6 by omega) (by decide)), nI_clamp (by omega), hA k g g1, wp_bd]
    refine wp_mono (tellr_spec (nI g) hR (by rw [List.length_append, rI_len, List.length_take]; omega)) (fun _ M1 w => ?_)
    rw [wp_vl, nI_1]
    refine wp_mono (calm53 h6 hr m (k + 1) n M1 (by omega) (by omega) ((w.2 174 37 (by unfold rrS; omega)).trans hq) (fun j x e => (w.2 193 j (by unfold rrS; omega)).trans (hA j x e)) ?_) (fun _ M2 y => ⟨y.1.trans (w.2 174 40 (by unfold rrS; omega)), y.2.1, w.2.tr y.2.2⟩)
    rw [g3, rI_app, ← List.append_assoc]
    exact w.1
theorem fs_rb {C : Cf} {σ : Sm} (s : BSt) (l : List Nat) : fsS C σ 400 s l = rbS C σ true s l := by
  unfold fsS rbS
  cases e : odv C σ l with
  | none => rfl
  | some v =>
    cases s with
    | none => exact if_pos (dv_some.mp e).1
    | some x => rfl
theorem so_rb (C : Cf) (σ : Sm) (p : Nat → Bool) : SoS C σ 400 p = RbS C σ true p := by
  unfold SoS RbS
  rw [show fsS C σ 400 = rbS C σ true from funext fun s => funext fun l => fs_rb s l]
theorem InvE.sc {N : Nat} {C : Cf} {σ : Sm} {M M' : Mem} (h : InvE N C σ M) (hF : Fr scr M M') : InvE N C σ M' := h.fr (Nat.le_refl N) h.2.2.2.1 hF
/-- where none are asked for, or not such as may be -/
theorem no_tho {N : Nat} {C : Cf} {σ : Sm} {M : Mem} (hI : InvE N C σ M) (x : Int32) : (ThoX C σ x → f_X11_canOrder x (up M 174 14 0) = some (1, up M 174 14 0)) ∧ (¬ ThoX C σ x → f_X11_canOrder x (up M 174 14 0) = some (0, up M 174 14 0)) := by
  obtain ⟨a1, a2, a3, a4, a5, a6, a7, a8, _⟩ := hI.s0 (M' := up M 174 14 0) fr14
  exact r_out a1 a6 a8 a2 x
/-- the reference's stays are laid, then it may go on -/
theorem ref_ly {N : Nat} {C : Cf} {σ : Sm} {M : Mem} (hI : InvE N C σ M) : wp (f_X11_layStays (up M 174 14 0)) (fun _ M' => InvE N C σ M' ∧ StR M' C ∧ Fr scr0 M M') := by
  refine wp_mono (ly_st (hI.s0 (M' := up M 174 14 0) fr14)) (fun _ M' q => ?_)
  have hF : Fr scr0 M M' := fr14.tr (ly_s0 q.2)
  exact ⟨hI.s0 hF, q.1, hF⟩
theorem st_best {N : Nat} {M : Mem} (hN : N < 512) (h : Cpl N M) (x : Int32) : Both N (f_X10_best x) (f_X11_best x) M := by
  obtain ⟨⟨C, σ, hI⟩, hR⟩ := h
  obtain ⟨a1, a2, a3, a4, a5, a6, a7, a8, -⟩ := id hI
  have c2 := a1.2.1
  unfold Both f_X10_best f_X10_best_0
  by_cases hx : ThoX C σ x
  · rw [(c_out a1 a5 a7 a2 x).1 hx, bd_e, if_neg (by decide)]
    obtain ⟨p, rfl, hp⟩ := id hx
    rw [wp_bd, show (400 : Int32) = nI 400 from rfl]
    refine wp_mono (findSoonest_spec a1 a2 hp (by omega) (Nat.le_refl _) a5 a7) (fun r M1 q => ?_)
    obtain ⟨rfl, q2, q3, q4⟩ := q
    rw [so_rb] at q3 q4 ⊢
    have ref : ∀ M2, Fr scr M M2 → (RbS C σ true p = none → Fr scr0 M M2) → (∀ z, RbS C σ true p = some z → RwC M2 (rI z.2.2)) → wp (f_X11_best (bI p) M2) (fun r' M3 => r' = (match RbS C σ true p with
        | none => -2
        | some z => nI z.1) ∧ Cpl (N + 1) M3) := by
      intro M2 hF hF0 hw
      have hI2 := hI.sc hF
      unfold f_X11_best f_X11_best_0
      rw [wp_ml, (no_tho hI2 (bI p)).1 hx, bd_e, if_neg (by decide), wp_bd]
      refine wp_mono (ref_ly hI2) (fun _ M3 w => ?_)
      obtain ⟨w1, w2, w3⟩ := w
      obtain ⟨b1, b2, b3, b4, b5, b6, b7, b8, -⟩ := id w1
      rw [wp_bd, show (1 : Int32) = b2i (true = true) from rfl]
      refine wp_mono (findBest_spec (bt := true) b1 b2 hp (by omega) b6 w2 b8) (fun _ M4 y => ?_)
      obtain ⟨y1, y2, y3, y4, y5, y6⟩ := y
      have f24 : Fr scr0 M2 M4 := w3.tr (fb_s0 y6)
      rw [y1]
      cases e : RbS C σ true p with
      | none =>
        rw [show bR1 none = 1000000 from rfl, if_pos rfl, wp_s]
        exact ⟨rfl, q_same hI hN hR ((hF0 e).tr f24)⟩
      | some z =>
        obtain ⟨z1, z2, z3, z4⟩ := q3 z e
        rw [show bR1 (some z) = nI z.1 from rfl, if_neg (show ¬ nI z.1 = 1000000 from fun t => by have := (nI_eq (b := 1000000) (by omega) (by decide)).mp t; omega), wp_ml]
        have hlen := z4.length_eq
        have h6 := io_len z4
        refine wp_mono (best45 (l := z.2.2) (r0 := []) h6 (by show 0 + z.2.2.length ≤ 12; omega) z.2.2.length 0 FU _ (by omega) (by show _ < 2000; omega) (by rw [up_col _ _ _ (by decide), y5, hlen]) (fun j g eg => by rw [up_row _ _ _ (by decide)]; exact y4 z e j g eg) (by rw [List.take_zero]; exact (rowr0 M4).1)) (fun r M5 u => ?_)
        obtain ⟨u1, u2, u3⟩ := u
        refine ⟨?_, q_row (l := rI z.2.2) hI hN (((hF.tr (s0_scr f24)).tr (rr_scr (rowr0 M4).2)).tr (rr_scr u3)) (by rw [rI_len]; omega) ?_ u2⟩
        · rw [u1, up_col _ _ _ (by decide), y1, e]; rfl
        · refine (hw z e).fr ?_ (funext fun k => ?_)
          · rw [u3 0 16 (by unfold rrS; omega), up_row _ _ _ (by decide)]; exact f24 0 16 (by unfold scr0; omega)
          · rw [u3 173 k (by unfold rrS; omega), up_row _ _ _ (by decide)]; exact f24 173 k (by unfold scr0; omega)
    cases e : RbS C σ true p with
    | none =>
      rw [show bx none = -1 from rfl, if_pos rfl, wp_s]
      have := ref M1 (s0_scr (ob_s0 q2)) (fun _ => ob_s0 q2) (fun z ez => by rw [e] at ez; cases ez)
      rw [e] at this
      exact this
    | some z =>
      obtain ⟨z1, z2, z3, z4⟩ := q3 z e
      rw [show bx (some z) = nI z.1 from rfl, if_neg (nI_neq (by omega)), wp_bd]
      refine wp_mono (clearRow_spec M1) (fun _ M2 w => ?_)
      rw [wp_bd]
      refine wp_mono (tellFound_spec (l := z.2.2) (r0 := []) (by show 0 + z.2.2.length ≤ 12; have := io_len z4; omega) ((q4 z e).eq (w.2 126 1 (by unfold rcS; omega)) (fun k => w.2 127 k (by unfold rcS; omega))) w.1) (fun _ M3 y => ?_)
      rw [wp_s]
      have := ref M3 (((s0_scr (ob_s0 q2)).tr (rc_scr w.2)).tr (rc_scr y.2)) (fun t => by rw [e] at t; cases t) (fun z' ez => by rw [e] at ez; cases ez; exact y.1)
      rw [e] at this
      exact this
  · rw [(c_out a1 a5 a7 a2 x).2 hx, bd_e, if_pos rfl, wp_s]
    unfold f_X11_best f_X11_best_0
    rw [wp_ml, (no_tho hI x).2 hx, bd_e, if_pos rfl, wp_s]
    exact ⟨rfl, q_same hI hN hR fr14⟩
