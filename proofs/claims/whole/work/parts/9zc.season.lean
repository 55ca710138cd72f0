/-! season -/
abbrev SnT : Type := Int32 × Nat × Option Nat × Nat × Nat
def snS (C : Cf) (σ : Sm) (n : Nat) (k : Nat) (s : SnT) : SnT := match odv C σ (drw 6 s.1 [] n).2 with
  | none => ((drw 6 s.1 [] n).1, s.2)
  | some v => ((drw 6 s.1 [] n).1, s.2.1 + 1, (match s.2.2.1 with
      | none => some v
      | some b => if v < b then some v else some b), (if s.2.2.2.1 < v + 1 then v + 1 else s.2.2.2.1), (match s.2.2.1 with
      | none => k + 1
      | some b => if v < b then k + 1 else s.2.2.2.2))
def oI (o : Option Nat) : Int32 := match o with
  | none => -1
  | some v => nI v
def snk (s : SnT) : Prop := (∀ b, s.2.2.1 = some b → b ≤ 400) ∧ s.2.2.2.1 ≤ 401
theorem sn_k {C : Cf} {σ : Sm} {n k : Nat} {s : SnT} (h : snk s) : snk (snS C σ n k s) := by
  unfold snS
  cases e : odv C σ (drw 6 s.1 [] n).2 with
  | none => exact h
  | some v =>
    have hv := (dv_some.mp e).1
    obtain ⟨h1, h2⟩ := h
    refine ⟨fun b hb => ?_, ?_⟩
    · cases e2 : s.2.2.1 with
      | none => simp only [e2] at hb; cases hb; exact hv
      | some c =>
        have hc := h1 c e2
        simp only [e2] at hb
        split at hb
        · cases hb; exact hv
        · cases hb; exact hc
    · show (if s.2.2.2.1 < v + 1 then v + 1 else s.2.2.2.1) ≤ 401
      split <;> omega
theorem dr_io {p : Nat → Bool} {n : Nat} (hn : n < 64) (e : bI p = nI n) (d : Int32) : InO p (drw 6 d [] n).2 := by
  have := drw_perm 6 d [] n hn (bl_all n hn).2.2
  rw [List.nil_append, bl_p hn e] at this
  exact this
section Sn
variable {C : Cf} {σ : Sm} {p : Nat → Bool} {n dn : Nat} {M0 : Mem}
theorem season_c51 {Q : Int32 → Mem → Prop} {x1 : Int32} (hC : COk C) (hO : Ok C σ) (hp : Tho C σ p) (hB : σ.2.2.2.2 < 2 ^ 29) (hn : n < 64) (e : bI p = nI n) (ex : x1 = bI p) (hd : dn ≤ 20) : ∀ (m k nf : Nat) (s : SnT) (M : Mem), k + m = dn → m < nf → CfC M C → HS C σ.2.2.2.2 false S1 M → (∀ l, InO p l → Wpr C σ 400 false S1 l 0 M) → Fr obS M0 M → snk s → (∀ M' s', s' = foldF (snS C σ n) m k s → Fr obS M0 M' → wp (bd (f_X10_clearRow M') fun _ M12 => bd (f_X10_tell (oI s'.2.2.1) M12) fun _ M15 => bd (f_X10_tell (pI s'.2.2.2.1) M15) fun _ M18 => bd (f_X10_tell (pI s'.2.2.2.2) M18) fun _ M21 => some (nI s'.2.1, M21)) Q) → wp (f_X10_season_51 nf x1 (nI dn) s.1 (nI s.2.1) (oI s.2.2.1) (pI s.2.2.2.1) (pI s.2.2.2.2) (nI k) M) Q
  | 0, k, nf + 1, s, M, he, _, hM, hH, hW, hF, hs, hk => by
    unfold f_X10_season_51
    rw [if_neg (nI_nlt (by omega) (by omega))]
    exact hk M s rfl hF
  | m + 1, k, nf + 1, s, M, he, hm, hM, hH, hW, hF, hs, hk => by
    have c2 := hC.2.1
    have io := dr_io hn e s.1
    have hl := tho_l hp io
    unfold f_X10_season_51
    rw [if_pos (nI_lt (by omega) (by omega)), ex, wp_bd]
    refine wp_mono (draw_cls (q := 124) (d := s.1) hn e) (fun r M1 w => ?_)
    obtain ⟨rfl, w2, w3⟩ := w
    have hM1 : CfC M1 C := CfC.eq c2 (fun i j hi => w3 i j (by omega)) hM
    have hH1 : HS C σ.2.2.2.2 false S1 M1 := hH.eq c2 (fun i j hi => w3 i j (by omega))
    have hCB : CB C σ false S1 p (drw 6 s.1 [] n).2 M0 M1 := ⟨hM1, hH1, w2, io, hF.tr (w3.mn (fun i j z => by unfold obS; omega))⟩
    rw [wp_bd]
    show wp (f_X9_walk 124 (nI 0) (nI 400) M1) _
    refine wp_mono (walkC (L := 400) hC hB hp (Nat.le_refl _) hCB ((hW _ io).cells (fun i j z => w3 i j (by omega))) (tho_ne hC hp io)) (fun r M2 y => ?_)
    obtain ⟨y1, y2, y3, y4⟩ := y
    have hW2 : ∀ l, InO p l → Wpr C σ 400 false S1 l 0 M2 := fun l hl' => wpr_of (io_len io) (hl'.length_eq.trans io.length_eq.symm) (Nat.zero_le _) (by rw [List.take_zero, List.take_zero]) y2
    have next : ∀ s' t4, s' = snS C σ n k s → pI s'.2.2.2.2 = t4 → wp (f_X10_season_129 (f_X10_season_51 nf) (bI p) (nI dn) s'.1 (nI s'.2.1) (oI s'.2.2.1) (pI s'.2.2.2.1) t4 (nI k) M2) Q := by
      intro s' t4 es et
      subst et
      unfold f_X10_season_129
      rw [wp_vl, nI_1]
      exact season_c51 hC hO hp hB hn e rfl hd m (k + 1) nf s' M2 (by omega) (by omega) y1.1 y1.2.1 hW2 y1.2.2.2.2 (by rw [es]; exact sn_k hs) (fun M' s'' e2 => hk M' s'' (by rw [e2, es]; rfl))
    rcases wk_yes (Nat.le_refl _) y3 with ⟨v, rfl, v2, v3, v4⟩ | ⟨rfl, v2⟩
    · obtain ⟨d1, d2, d3⟩ := dv_ok hC hO hp io v2
      obtain ⟨k1, k2⟩ := hs
      have eS : snS C σ n k s = ((drw 6 s.1 [] n).1, s.2.1 + 1, (match s.2.2.1 with
        | none => some v
        | some b => if v < b then some v else some b), (if s.2.2.2.1 < v + 1 then v + 1 else s.2.2.2.1), (match s.2.2.1 with
        | none => k + 1
        | some b => if v < b then k + 1 else s.2.2.2.2)) := by unfold snS; rw [v2]
      have el : (if pI s.2.2.2.1 < nI v then nI v else pI s.2.2.2.1) = pI (if s.2.2.2.1 < v + 1 then v + 1 else s.2.2.2.1) := by
        by_cases z : s.2.2.2.1 < v + 1
        · rw [if_pos ((pI_ltn (by omega) (by omega)).mpr (by omega)), if_pos z, pI_s]
        · rw [if_neg (fun w => by have := (pI_ltn (by omega) (by omega)).mp w; omega), if_neg z]
      rw [if_neg (by decide), gone_spec hC hO hl.1 y1.2.1 v4, bd_e, wp_vl, nI_1, el, wp_vl]
      unfold f_X10_season_121
      cases e2 : s.2.2.1 with
      | none =>
        rw [show oI none = -1 from rfl, if_pos rfl]
        rw [e2] at eS
        exact next _ (nI k) eS.symm (pI_s k)
      | some b =>
        have hb := k1 b e2
        rw [e2] at eS
        rw [show oI (some b) = nI b from rfl, if_neg (nI_neq (by omega))]
        by_cases z : v < b
        · rw [if_pos (nI_lt z (by omega))]
          have eS' : snS C σ n k s = ((drw 6 s.1 [] n).1, s.2.1 + 1, some v, (if s.2.2.2.1 < v + 1 then v + 1 else s.2.2.2.1), k + 1) := by
            rw [eS]
            simp only [if_pos z]
          exact next _ (nI k) eS'.symm (pI_s k)
        · rw [if_neg (nI_nlt (by omega) (by omega))]
          have eS' : snS C σ n k s = ((drw 6 s.1 [] n).1, s.2.1 + 1, some b, (if s.2.2.2.1 < v + 1 then v + 1 else s.2.2.2.1), s.2.2.2.2) := by
            rw [eS]
            simp only [if_neg z]
          exact next _ _ eS'.symm rfl
    · rw [if_pos rfl]
      refine next ((drw 6 s.1 [] n).1, s.2) _ ?_ rfl
      unfold snS
      cases ed : odv C σ (drw 6 s.1 [] n).2 with
      | none => rfl
      | some v =>
        have hv := v2 v ed
        have := (dv_some.mp ed).1
        omega
def snF : Nat → Nat → Prop := fun i k => (191 ≤ i ∧ i ≤ 193) ∨ (i = 174 ∧ (k = 30 ∨ k = 31 ∨ k = 32 ∨ k = 37 ∨ k = 56))
theorem season_r49 {Q : Int32 → Mem → Prop} {x1 : Int32} (hC : COk C) (hO : Ok C σ) (hp : Tho C σ p) (hB : σ.2.2.2.2 < 2 ^ 29) (hn : n < 64) (e : bI p = nI n) (ex : x1 = bI p) (hd : dn ≤ 20) : ∀ (m k nf : Nat) (s : SnT) (M : Mem), k + m = dn → m < nf → CfR M C → StR M C → IsR C (M 175) σ → M 174 56 = s.1 → Fr snF M0 M → snk s → (∀ M' s', s' = foldF (snS C σ n) m k s → Fr snF M0 M' → wp (ml (up M' 174 13 0) fun M15 => bd (f_X11_tell (oI s'.2.2.1) M15) fun _ M17 => bd (f_X11_tell (pI s'.2.2.2.1) M17) fun _ M20 => bd (f_X11_tell (pI s'.2.2.2.2) M20) fun _ M23 => some (nI s'.2.1, M23)) Q) → wp (f_X11_season_49 nf x1 (nI dn) (nI s.2.1) (oI s.2.2.1) (pI s.2.2.2.1) (pI s.2.2.2.2) (nI k) M) Q
  | 0, k, nf + 1, s, M, he, _, hM, hT, hI, h56, hF, hs, hk => by
    unfold f_X11_season_49
    rw [if_neg (nI_nlt (by omega) (by omega))]
    exact hk M s rfl hF
  | m + 1, k, nf + 1, s, M, he, hm, hM, hT, hI, h56, hF, hs, hk => by
    have c2 := hC.2.1
    have io := dr_io hn e s.1
    have hl := tho_l hp io
    have hne : (drw 6 s.1 [] n).2 ≠ [] := by
      intro z
      have := tho_ne hC hp io
      rw [z] at this
      exact absurd this (Nat.lt_irrefl 0)
    have keep : ∀ {M' M'' : Mem}, Fr snF M' M'' → CfR M' C → StR M' C → IsR C (M' 175) σ → CfR M'' C ∧ StR M'' C ∧ IsR C (M'' 175) σ := by
      intro M' M'' hF a b c
      exact ⟨CfR.eq (hF 174 1 (by unfold snF; omega)) (hF 174 3 (by unfold snF; omega)) (fun i k _ _ => hF i k (by unfold snF; omega)) a, StR.eq (funext fun k => hF 187 k (by unfold snF; omega)) b, IsR.eq c2 (fun k _ => hF 175 k (by unfold snF; omega)) c⟩
    unfold f_X11_season_49
    rw [if_pos (nI_lt (by omega) (by omega)), ex, e, wp_bd]
    refine wp_mono (draw_ref (d := s.1) hn h56) (fun r M1 w => ?_)
    obtain ⟨w1, w2, w3⟩ := w
    have f1 : Fr snF M M1 := w3.mn (fun i j z => by unfold drF at z; unfold snF; omega)
    obtain ⟨b1, b2, b3⟩ := keep f1 hM hT hI
    rw [wp_bd]
    refine wp_mono (goDay_spec hC hO hl.1 hne hB b1 b2 w2 b3) (fun r M2 y => ?_)
    obtain ⟨y1, y2⟩ := y
    have f2 : Fr snF M1 M2 := y1.mn (fun i j z => by unfold mnS at z; unfold snF; omega)
    obtain ⟨g1, g2, g3⟩ := keep f2 b1 b2 b3
    have next : ∀ s' t4, s' = snS C σ n k s → s'.1 = (drw 6 s.1 [] n).1 → pI s'.2.2.2.2 = t4 → wp (f_X11_season_113 (f_X11_season_49 nf) (nI n) (nI dn) (nI s'.2.1) (oI s'.2.2.1) (pI s'.2.2.2.1) t4 (nI k) M2) Q := by
      intro s' t4 es e1 et
      subst et
      unfold f_X11_season_113
      rw [wp_vl, nI_1]
      exact season_r49 hC hO hp hB hn e e.symm hd m (k + 1) nf s' M2 (by omega) (by omega) g1 g2 g3 (by rw [e1, y1 174 56 (by unfold mnS; omega)]; exact w1) ((hF.tr f1).tr f2) (by rw [es]; exact sn_k hs) (fun M' s'' e2 => hk M' s'' (by rw [e2, es]; rfl))
    rcases y2 with ⟨v, v2, rfl, v4⟩ | ⟨v2, rfl, v4⟩
    · obtain ⟨d1, d2, d3⟩ := dv_ok hC hO hp io v2
      obtain ⟨k1, k2⟩ := hs
      have eS : snS C σ n k s = ((drw 6 s.1 [] n).1, s.2.1 + 1, (match s.2.2.1 with
        | none => some v
        | some b => if v < b then some v else some b), (if s.2.2.2.1 < v + 1 then v + 1 else s.2.2.2.1), (match s.2.2.1 with
        | none => k + 1
        | some b => if v < b then k + 1 else s.2.2.2.2)) := by unfold snS; rw [v2]
      have el : (if pI s.2.2.2.1 < nI v then nI v else pI s.2.2.2.1) = pI (if s.2.2.2.1 < v + 1 then v + 1 else s.2.2.2.1) := by
        by_cases z : s.2.2.2.1 < v + 1
        · rw [if_pos ((pI_ltn (by omega) (by omega)).mpr (by omega)), if_pos z, pI_s]
        · rw [if_neg (fun w => by have := (pI_ltn (by omega) (by omega)).mp w; omega), if_neg z]
      rw [if_neg (show ¬ nI v = 1000000 from fun t => by have := (nI_eq (b := 1000000) (by omega) (by decide)).mp t; omega), wp_vl, nI_1, el, wp_vl]
      unfold f_X11_season_105
      cases e2 : s.2.2.1 with
      | none =>
        rw [show oI none = -1 from rfl, if_pos rfl]
        rw [e2] at eS
        exact next _ (nI k) eS.symm rfl (pI_s k)
      | some b =>
        have hb := k1 b e2
        rw [e2] at eS
        rw [show oI (some b) = nI b from rfl, if_neg (nI_neq (by omega))]
        by_cases z : v < b
        · rw [if_pos (nI_lt z (by omega))]
          have eS' : snS C σ n k s = ((drw 6 s.1 [] n).1, s.2.1 + 1, some v, (if s.2.2.2.1 < v + 1 then v + 1 else s.2.2.2.1), k + 1) := by
            rw [eS]
            simp only [if_pos z]
          exact next _ (nI k) eS'.symm rfl (pI_s k)
        · rw [if_neg (nI_nlt (by omega) (by omega))]
          have eS' : snS C σ n k s = ((drw 6 s.1 [] n).1, s.2.1 + 1, some b, (if s.2.2.2.1 < v + 1 then v + 1 else s.2.2.2.1), s.2.2.2.2) := by
            rw [eS]
            simp only [if_neg z]
          exact next _ _ eS'.symm rfl rfl
    · rw [if_pos rfl]
      exact next ((drw 6 s.1 [] n).1, s.2) _ (by unfold snS; rw [v2]) rfl rfl
theorem season_c51' {Q : Int32 → Mem → Prop} {y x5 x6 x9 : Int32} {M : Mem} (hC : COk C) (hO : Ok C σ) (hp : Tho C σ p) (hB : σ.2.2.2.2 < 2 ^ 29) (hn : n < 64) (e : bI p = nI n) (hd : dn ≤ 20) (hM : CfC M C) (hH : HS C σ.2.2.2.2 false S1 M) (hW : ∀ l, InO p l → Wpr C σ 400 false S1 l 0 M) (hF : Fr obS M0 M) (hs : snk (y, 0, none, 0, 0)) (hk : ∀ M' s', s' = foldF (snS C σ n) dn 0 (y, 0, none, 0, 0) → Fr obS M0 M' → wp (bd (f_X10_clearRow M') fun _ M12 => bd (f_X10_tell (oI s'.2.2.1) M12) fun _ M15 => bd (f_X10_tell (pI s'.2.2.2.1) M15) fun _ M18 => bd (f_X10_tell (pI s'.2.2.2.2) M18) fun _ M21 => some (nI s'.2.1, M21)) Q) (e5 : x5 = nI 0 := by rfl) (e6 : x6 = -1 := by rfl) (e9 : x9 = nI 0 := by rfl) : wp (f_X10_season_51 FU (bI p) (nI dn) y x5 x6 x6 x6 x9 M) Q := by
  subst e5 e9
  have := season_c51 (M0 := M0) (Q := Q) hC hO hp hB hn e rfl hd dn 0 FU (y, 0, none, 0, 0) M (by omega) (by show dn < 2000; omega) hM hH hW hF hs hk
  have e1 : pI (y, 0, (none : Option Nat), 0, 0).2.2.2.1 = x6 := by rw [e6]; exact pI_0
  have e2 : pI (y, 0, (none : Option Nat), 0, 0).2.2.2.2 = x6 := by rw [e6]; exact pI_0
  have e3 : oI (y, 0, (none : Option Nat), 0, 0).2.2.1 = x6 := e6.symm
  rw [e1, e3] at this
  exact this
theorem season_r49' {Q : Int32 → Mem → Prop} {y x5 x6 x9 : Int32} {M : Mem} (hC : COk C) (hO : Ok C σ) (hp : Tho C σ p) (hB : σ.2.2.2.2 < 2 ^ 29) (hn : n < 64) (e : bI p = nI n) (hd : dn ≤ 20) (hM : CfR M C) (hT : StR M C) (hI : IsR C (M 175) σ) (h56 : M 174 56 = y) (hF : Fr snF M0 M) (hs : snk (y, 0, none, 0, 0)) (hk : ∀ M' s', s' = foldF (snS C σ n) dn 0 (y, 0, none, 0, 0) → Fr snF M0 M' → wp (ml (up M' 174 13 0) fun M15 => bd (f_X11_tell (oI s'.2.2.1) M15) fun _ M17 => bd (f_X11_tell (pI s'.2.2.2.1) M17) fun _ M20 => bd (f_X11_tell (pI s'.2.2.2.2) M20) fun _ M23 => some (nI s'.2.1, M23)) Q) (e5 : x5 = nI 0 := by rfl) (e6 : x6 = -1 := by rfl) (e9 : x9 = nI 0 := by rfl) : wp (f_X11_season_49 FU (bI p) (nI dn) x5 x6 x6 x6 x9 M) Q := by
  subst e5 e9
  have := season_r49 (M0 := M0) (Q := Q) hC hO hp hB hn e rfl hd dn 0 FU (y, 0, none, 0, 0) M (by omega) (by show dn < 2000; omega) hM hT hI h56 hF hs hk
  have e1 : pI (y, 0, (none : Option Nat), 0, 0).2.2.2.1 = x6 := by rw [e6]; exact pI_0
  have e2 : pI (y, 0, (none : Option Nat), 0, 0).2.2.2.2 = x6 := by rw [e6]; exact pI_0
  have e3 : oI (y, 0, (none : Option Nat), 0, 0).2.2.1 = x6 := e6.symm
  rw [e1, e3] at this
  exact this
end Sn
theorem sn_s0 {M M' : Mem} (h : Fr snF M M') : Fr scr0 M M' := h.mn (fun i k q => by
  rcases q with q | q
  · exact s0_9x (by omega)
  · exact s0_74 (by omega))
theorem st_season {N : Nat} {M : Mem} (hN : N < 512) (h : Cpl N M) (x y z : Int32) : Both N (f_X10_season x y z) (f_X11_season x y z) M := by
  obtain ⟨⟨C, σ, hI⟩, hR⟩ := h
  obtain ⟨a1, a2, a3, a4, a5, a6, a7, a8, -⟩ := id hI
  have c2 := a1.2.1
  have no : ¬ (ThoX C σ x ∧ ¬ z < 1 ∧ ¬ 20 < z) → wp (f_X11_season x y z M) (fun r' M2 => r' = -1 ∧ Cpl (N + 1) M2) := by
    intro hx
    unfold f_X11_season f_X11_season_0 f_X11_season_23
    rw [wp_ml]
    by_cases w : ThoX C σ x
    · rw [(no_tho hI x).1 w, bd_e, if_neg (by decide), in_spec, bd_e, b2i_f (fun u => hx ⟨w, u⟩), if_pos rfl, wp_s]
      exact ⟨rfl, q_same hI hN hR fr14⟩
    · rw [(no_tho hI x).2 w, bd_e, if_pos rfl, wp_s]
      exact ⟨rfl, q_same hI hN hR fr14⟩
  unfold Both f_X10_season f_X10_season_0 f_X10_season_19
  by_cases h1 : z < 1
  · rw [if_pos h1, wp_s]; exact no (fun q => q.2.1 h1)
  rw [if_neg h1]
  by_cases h2 : 20 < z
  · rw [if_pos h2, wp_s]; exact no (fun q => q.2.2 h2)
  rw [if_neg h2]
  by_cases hx : ThoX C σ x
  · rw [(c_out a1 a5 a7 a2 x).1 hx, bd_e, if_neg (by decide)]
    obtain ⟨p, rfl, hp⟩ := id hx
    obtain ⟨dn, m1, m2, rfl⟩ := rng (a := 1) (b := 20) (by decide) (by decide) h1 h2
    have hB : σ.2.2.2.2 < 2 ^ 29 := by omega
    obtain ⟨n, n1, n2⟩ := bI_le c2 hp.1
    have hn : n < 64 := by have := pow6 c2; omega
    have k0 : snk (y, 0, none, 0, 0) := ⟨(fun b e => by cases e), by show 0 ≤ 401; omega⟩
    rw [wp_bd, show (0 : Int32) = b2i (false = true) from rfl]
    refine wp_mono (begin_spec (lis := false) a7 a2) (fun _ M1 q => ?_)
    obtain ⟨q1, q2, q3, q4⟩ := q
    have hM1 : CfC M1 C := CfC.eq c2 (fun i k hi => q4 i k (by unfold bgS; omega)) a5
    have f1 : Fr obS M M1 := q4.mn (fun i k w => by unfold bgS at w; unfold obS; omega)
    refine season_c51' a1 a2 hp hB hn n2 m2 hM1 ⟨q1, q2, fun _ _ _ => rfl, fun w => by cases w⟩ (fun l _ => q3 400 S1 l) f1 k0 (fun M2 s' es hF2 => ?_)
    rw [wp_bd]
    refine wp_mono (clearRow_spec M2) (fun _ M3 w => ?_)
    rw [wp_bd]
    refine wp_mono (tell_spec (oI s'.2.2.1) w.1 (by decide)) (fun _ M4 u => ?_)
    rw [wp_bd]
    refine wp_mono (tell_spec (pI s'.2.2.2.1) u.1 (by show 1 < 12; decide)) (fun _ M5 v => ?_)
    rw [wp_bd]
    refine wp_mono (tell_spec (pI s'.2.2.2.2) v.1 (by show 2 < 12; decide)) (fun _ M6 t => ?_)
    rw [wp_s]
    have f6 : Fr scr M M6 := ((((s0_scr (ob_s0 hF2)).tr (rc_scr w.2)).tr (rc_scr u.2)).tr (rc_scr v.2)).tr (rc_scr t.2)
    have hI6 := hI.sc f6
    unfold f_X11_season f_X11_season_0
    rw [wp_ml, (no_tho hI6 (bI p)).1 hx, bd_e, if_neg (by decide), in_spec, bd_e, b2i_t ⟨h1, h2⟩, if_neg (by decide), wp_bd]
    refine wp_mono (ref_ly hI6) (fun _ M7 s => ?_)
    obtain ⟨s1, s2, s3⟩ := s
    obtain ⟨b1, b2, b3, b4, b5, b6, b7, b8, -⟩ := id s1
    rw [wp_ml]
    have f78 : Fr snF M7 (up M7 174 56 y) := Fr.rf.up (by unfold snF; omega)
    refine season_r49' (M0 := M7) a1 a2 hp hB hn n2 m2 (CfR.eq (by rw [up_col _ _ _ (by decide)]) (by rw [up_col _ _ _ (by decide)]) (fun i k _ _ => by rw [up_row _ _ _ (by omega)]) b6) (StR.eq (by rw [up_row _ _ _ (by decide)]) s2) (by rw [up_row _ _ _ (by decide)]; exact b8) (up_self _ _ _ _) f78 k0 (fun M9 s'' es2 hF9 => ?_)
    have ess : s'' = s' := es2.trans es.symm
    subst ess
    have f69 : Fr scr0 M6 M9 := s3.tr (sn_s0 hF9)
    rw [wp_ml, wp_bd]
    refine wp_mono (tellr_spec (oI s''.2.2.1) (rowr0 M9).1 (by decide)) (fun _ Ma ra => ?_)
    rw [wp_bd]
    refine wp_mono (tellr_spec (pI s''.2.2.2.1) ra.1 (by show 1 < 16; decide)) (fun _ Mb rb => ?_)
    rw [wp_bd]
    refine wp_mono (tellr_spec (pI s''.2.2.2.2) rb.1 (by show 2 < 16; decide)) (fun _ Mc rc => ?_)
    rw [wp_s]
    have f9c : Fr rrS M9 Mc := (((rowr0 M9).2.tr ra.2).tr rb.2).tr rc.2
    refine ⟨rfl, q_row (l := [oI s''.2.2.1, pI s''.2.2.2.1, pI s''.2.2.2.2]) hI hN ((f6.tr (s0_scr f69)).tr (rr_scr f9c)) (by show 3 ≤ 12; decide) (t.1.fr ?_ (funext fun k => ?_)) rc.1⟩
    · rw [f9c 0 16 (by unfold rrS; omega)]; exact f69 0 16 (by unfold scr0; omega)
    · rw [f9c 173 k (by unfold rrS; omega)]; exact f69 173 k (by unfold scr0; omega)
  · rw [(c_out a1 a5 a7 a2 x).2 hx, bd_e, if_pos rfl, wp_s]
    exact no (fun q => hx q.1)
