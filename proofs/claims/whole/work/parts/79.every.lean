/-! stay, every, dies, loss -/
theorem C14g {N : Nat} {C : Cf} {σ : Sm} {M Mc : Mem} (hI : InvE N C σ M) (hge : ∀ i k, 174 ≤ i → Mc i k = M i k) : CfR (up Mc 174 14 0) C ∧ IsR C (up Mc 174 14 0 175) σ ∧ HlR (up Mc 174 14 0) C := by
  have g14 : ∀ i k, 174 ≤ i → ¬ (i = 174 ∧ k = 14) → up Mc 174 14 0 i k = M i k := fun i k hi hk => by rw [up_at, if_neg hk]; exact hge i k hi
  exact ⟨CfR.eq (g14 174 1 (by decide) (by omega)) (g14 174 3 (by decide) (by omega)) (fun i k e1 e2 => g14 i k (by omega) (by omega)) hI.2.2.2.2.2.1, IsR.eq hI.1.2.1 (fun k _ => g14 175 k (by decide) (by omega)) hI.2.2.2.2.2.2.2.1, hI.hl.eq (fun i k q => g14 i k (by unfold cHl at q; omega) (by unfold cHl at q; omega))⟩
theorem st_stay {N : Nat} {M : Mem} (hN : N < 512) (h : Cpl N M) (x y : Int32) : Both N (f_X10_stay x y) (f_X11_stay x y) M := by
  obtain ⟨⟨C, σ, hI⟩, hR⟩ := h
  obtain ⟨a1, a2, a3, a4, a5, a6, a7, a8, a9⟩ := id hI
  have c1 := a1.1
  have c2 := a1.2.1
  obtain ⟨m14, r14, h14⟩ := C14g (Mc := M) hI (fun _ _ _ => rfl)
  have done : Cpl (N + 1) (up M 174 14 0) := q_same hI hN hR fr14
  unfold Both f_X10_stay f_X10_stay_0 f_X10_stay_36 f_X10_stay_37 f_X11_stay f_X11_stay_0 f_X11_stay_30 f_X11_stay_31
  rcases gcase C.2.1 c2 x with ⟨g, hg, rfl⟩ | ⟨hx, _⟩
  · rw [hasG_t a1 a5 hg, bd_e, if_neg (by decide)]
    rcases gcase C.1 c1 y with ⟨r, hr, rfl⟩ | ⟨hy, _⟩
    · rw [hasR_t a1 a5 hr, bd_e, if_neg (by decide), gd_t (nI_inb (show g < 6 by omega) (by decide)), gd_t (nI_inb (show r < 6 by omega) (by decide)), nI_clamp (by omega), nI_clamp (by omega), wp_vl, wp_s, cStay a5 hg hr, wp_ml, isG_t a1 m14 hg, bd_e, if_neg (by decide), isR_t a1 m14 hr, bd_e, if_neg (by decide), wp_bd]
      refine wp_mono (h14.stay a1 hg hr) (fun v M' q => ?_)
      rw [wp_s]
      exact ⟨q.1, q_same hI hN hR (fr14.tr (q.2.mn (fun i k z => s0_74 (by unfold soS at z; omega))))⟩
    · rw [hasR_f a5 hy, bd_e, if_pos rfl, wp_s, wp_ml, isG_t a1 m14 hg, bd_e, if_neg (by decide), isR_f a1 m14 hy, bd_e, if_pos rfl, wp_s]
      exact ⟨rfl, done⟩
  · rw [hasG_f a5 hx, bd_e, if_pos rfl, wp_s, wp_ml, isG_f a1 m14 hx, bd_e, if_pos rfl, wp_s]
    exact ⟨rfl, done⟩
theorem e44_s0 {M M' : Mem} (h : Fr (fun i k => i = 174 ∧ k = 44) M M') : Fr scr0 M M' := h.mn (fun i k q => s0_74 (by omega))
theorem lst_le {C : Cf} (hC : COk C) (g a : Nat) : lst C g a ≤ 30 := by
  unfold lst
  split
  · omega
  · exact Sy_le hC _ _
theorem st_every {N : Nat} {M : Mem} (hN : N < 512) (h : Cpl N M) (x : Int32) : Both N (f_X10_every x) (f_X11_every x) M := by
  obtain ⟨⟨C, σ, hI⟩, hR⟩ := h
  obtain ⟨a1, a2, a3, a4, a5, a6, a7, a8, a9⟩ := id hI
  have c1 := a1.1
  have c2 := a1.2.1
  obtain ⟨m14, r14, h14⟩ := C14g (Mc := M) hI (fun _ _ _ => rfl)
  unfold Both f_X10_every f_X10_every_0
  rcases gcase C.2.1 c2 x with ⟨g, hg, rfl⟩ | ⟨hx, _⟩
  rotate_left
  · unfold f_X11_every f_X11_every_0
    rw [hasG_f a5 hx, bd_e, if_pos rfl, wp_s, wp_ml, isG_f a1 m14 hx, bd_e, if_pos rfl, wp_s]
    exact ⟨rfl, q_same hI hN hR fr14⟩
  rw [hasG_t a1 a5 hg, bd_e, if_neg (by decide), c_long a1 a5 hg, bd_e]
  have hle := lp_le C g C.1
  have hlp : lpl C g ≤ C.1 := hle
  have hw := whl_le a1 g
  have hl := lst_le a1 g (lpl C g)
  have go : wp (f_X10_every_42 (nI g) (pI (lpl C g)) (nI (lst C g (lpl C g))) M) (fun r M1 => wp (f_X11_every (nI g) M1) (fun r' M2 => r' = r ∧ Cpl (N + 1) M2)) := by
    unfold f_X10_every_42 f_X10_every_77
    rw [wp_bd]
    refine wp_mono (clearRow_spec M) (fun _ M6 w => ?_)
    obtain ⟨w1, w2⟩ := w
    rw [wp_bd]
    refine wp_mono (tell_spec _ w1 (by decide)) (fun _ M7 v => ?_)
    obtain ⟨v1, v2⟩ := v
    have m7 : CfC M7 C := a5.eq2 c2 (fun i k z => (w2.tr v2) i k (by unfold cHo at z; unfold rcS; omega))
    have fin : ∀ t : Int32, t = (if nI (lst C g (lpl C g)) = 0 then -1 else (300 - nI (whl C g)) / nI (lst C g (lpl C g)) + 1) → wp (bd (f_X10_tell t M7) fun _ M24 => some (nI (lst C g (lpl C g)), M24)) (fun r M1 => wp (f_X11_every (nI g) M1) (fun r' M2 => r' = r ∧ Cpl (N + 1) M2)) := by
      intro t ht
      rw [wp_bd]
      refine wp_mono (tell_spec t v1 (by show 1 < 12; decide)) (fun _ Mc s => ?_)
      obtain ⟨s1, s2⟩ := s
      have hrc : Fr rcS M Mc := (w2.tr v2).tr s2
      have hge : ∀ i k, 174 ≤ i → Mc i k = M i k := fun i k hi => hrc i k (by unfold rcS; omega)
      obtain ⟨n14, -, -⟩ := C14g (Mc := Mc) hI hge
      rw [wp_s]
      unfold f_X11_every f_X11_every_0 f_X11_every_73
      rw [wp_ml, isG_t a1 n14 hg, bd_e, if_neg (by decide), wp_bd]
      refine wp_mono (r_aside hI hge) (fun _ N1 e => ?_)
      obtain ⟨⟨e1, e2, e3⟩, e4, e5⟩ := e
      rw [wp_bd]
      refine wp_mono (r_every a1 e2.1 e1 hg) (fun r9 N2 f => ?_)
      obtain ⟨f1, f2, f3⟩ := f
      have n2 : CfR N2 C ∧ StR N2 C := ⟨e2.1.eq2 (fun i k z => f3 i k (by unfold cHo at z; omega)), StR.eq (funext fun k => f3 187 k (by omega)) e1⟩
      rw [r_whole a1 n2.1 n2.2 hg, bd_e, wp_ml]
      obtain ⟨r1, r2⟩ := rowr0 N2
      rw [wp_bd, up_col _ _ _ (by decide), f2]
      refine wp_mono (tellr_spec _ r1 (by decide)) (fun _ N3 q => ?_)
      obtain ⟨q1, q2⟩ := q
      have fin2 : wp (bd (f_X11_tell t N3) fun _ M23 => some (nI (lst C g (lpl C g)), M23)) (fun r' M2 => r' = nI (lst C g (lpl C g)) ∧ Cpl (N + 1) M2) := by
        rw [wp_bd]
        refine wp_mono (tellr_spec t q1 (by show 1 < 16; decide)) (fun _ Mr y => ?_)
        obtain ⟨y1, y2⟩ := y
        have hrr : Fr rrS N2 Mr := (r2.tr q2).tr y2
        rw [wp_s]
        refine ⟨rfl, q_row hI hN (((rc_scr hrc).tr (s0_scr (e4.tr (e44_s0 f3)))).tr (rr_scr hrr)) (l := [] ++ [pI (lpl C g)] ++ [t]) (by show 2 ≤ 12; decide) ?_ y1⟩
        have lo : ∀ i k, i < 174 → Mr i k = Mc i k := fun i k hi => by rw [rr_lo hrr hi, f3 i k (by omega), e5 i k hi]
        exact s1.fr (lo 0 16 (by decide)) (funext fun k => lo 173 k (by decide))
      rw [f1]
      by_cases hz : nI (lst C g (lpl C g)) = 0
      · rw [if_pos hz] at ht ⊢
        rw [← ht]
        exact fin2
      · rw [if_neg hz] at ht ⊢
        rw [if_neg (show ¬ 300 < nI (whl C g) from nI_nlt (a := 300) (by omega) (by decide)), gd_t hz, ← ht]
        exact fin2
    by_cases hz : nI (lst C g (lpl C g)) = 0
    · rw [if_pos hz]
      exact fin _ (by rw [if_pos hz])
    · rw [if_neg hz, c_whole a1 m7 hg, bd_e, gd_t hz]
      exact fin _ (by rw [if_neg hz])
  by_cases h0 : lpl C g = 0
  · rw [if_pos ((pI_m1 (by omega)).mpr h0)]
    have e0 : lst C g (lpl C g) = 0 := by unfold lst; rw [if_pos h0]
    rw [e0] at go
    exact go
  · rw [if_neg (fun z => h0 ((pI_m1 (by omega)).mp z))]
    have e1 : lst C g (lpl C g) = Sy C g (lpl C g - 1) := by unfold lst; rw [if_neg h0]
    have e2 : pI (lpl C g) = nI (lpl C g - 1) := pI_p (by omega)
    rw [e2, gd_t (nI_inb (show g < 6 by omega) (by decide)), gd_t (nI_inb (show lpl C g - 1 < 6 by omega) (by decide)), nI_clamp (by omega), nI_clamp (by omega), wp_vl, cStay a5 hg (by omega), ← e1, ← e2]
    exact go
def dd (x y : Int32) : Nat → Int32 → Int32 → Nat × Int32
  | 0, l, _ => (0, l)
  | k + 1, l, b => if 0 < b then ((dd x y k b (b - x + y)).1 + 1, (dd x y k b (b - x + y)).2) else (0, l)
theorem dd_le (x y : Int32) : ∀ (k : Nat) (l b : Int32), (dd x y k l b).1 ≤ k
  | 0, _, _ => Nat.le_refl _
  | k + 1, l, b => by
    unfold dd
    have := dd_le x y k b (b - x + y)
    split
    · show (dd x y k b (b - x + y)).1 + 1 ≤ k + 1; omega
    · exact Nat.zero_le _
theorem c_dd (x y : Int32) (M : Mem) : ∀ (k j n : Nat) (l b : Int32), j + k = 20 → k < n → f_X10_dies_92 n x y (nI j) l b M = f_X10_dies_123 (nI (j + (dd x y k l b).1)) (dd x y k l b).2 M
  | 0, j, n + 1, l, b, h, _ => by
    unfold f_X10_dies_92
    rw [if_neg (show ¬ nI j < 20 from nI_nlt (b := 20) (by omega) (by omega))]
    rfl
  | k + 1, j, n + 1, l, b, h, hn => by
    unfold f_X10_dies_92 dd
    rw [if_pos (show nI j < 20 from nI_lt (b := 20) (by omega) (by decide))]
    by_cases hb : 0 < b
    · rw [if_pos hb, if_pos hb]
      simp only [vl, nI_1]
      rw [c_dd x y M k (j + 1) n b (b - x + y) (by omega) (by omega), show j + 1 + (dd x y k b (b - x + y)).1 = j + ((dd x y k b (b - x + y)).1 + 1) by omega]
    · rw [if_neg hb, if_neg hb]
      rfl
def p0 (b : Int32) : Int32 := if (0 : Int32) < b then b else 0
theorem p0_lt (b : Int32) : (0 < p0 b) ↔ 0 < b := by
  unfold p0
  by_cases h : 0 < b
  · rw [if_pos h]
  · rw [if_neg h]; exact ⟨fun z => absurd z (by decide), fun z => absurd z h⟩
theorem r_dd (x y : Int32) (M : Mem) : ∀ (k j n : Nat) (l b : Int32), j + k = 20 → k < n → f_X11_dies_73 n x y (nI j) l (p0 b) M = f_X11_dies_108 (nI (j + (dd x y k l b).1)) (dd x y k l b).2 M
  | 0, j, n + 1, l, b, h, _ => by
    unfold f_X11_dies_73
    rw [if_neg (show ¬ nI j < 20 from nI_nlt (b := 20) (by omega) (by omega))]
    split <;> rfl
  | k + 1, j, n + 1, l, b, h, hn => by
    unfold f_X11_dies_73 dd
    by_cases hb : 0 < b
    · rw [if_pos ((p0_lt b).mpr hb), if_pos (show nI j < 20 from nI_lt (b := 20) (by omega) (by decide)), if_pos hb]
      have e : p0 b = b := if_pos hb
      rw [e]
      simp only [vl, nI_1]
      have := r_dd x y M k (j + 1) n b (b - x + y) (by omega) (by omega)
      unfold p0 at this
      rw [this, show j + 1 + (dd x y k b (b - x + y)).1 = j + ((dd x y k b (b - x + y)).1 + 1) by omega]
    · rw [if_neg (fun z => hb ((p0_lt b).mp z)), if_neg hb]
      rfl
theorem st_dies {N : Nat} {M : Mem} (hN : N < 512) (h : Cpl N M) (x y z : Int32) : Both N (f_X10_dies x y z) (f_X11_dies x y z) M := by
  obtain ⟨⟨C, σ, hI⟩, hR⟩ := h
  obtain ⟨a1, a2, a3, a4, a5, a6, a7, a8, a9⟩ := id hI
  have c1 := a1.1
  have c2 := a1.2.1
  obtain ⟨m14, r14, h14⟩ := C14g (Mc := M) hI (fun _ _ _ => rfl)
  have done : Cpl (N + 1) (up M 174 14 0) := q_same hI hN hR fr14
  have noc : (∀ M1 : Mem, CfR M1 C → f_X11_dies_0 x y z M = f_X11_dies_33 (up M 174 14 0)) → f_X10_dies x y z M = some (-1, M) → Both N (f_X10_dies x y z) (f_X11_dies x y z) M := by
    intro h1 h2
    unfold Both
    rw [h2, wp_s]
    unfold f_X11_dies
    rw [h1 _ m14]
    unfold f_X11_dies_33
    rw [wp_s]
    exact ⟨rfl, done⟩
  by_cases h1 : y < 1
  · refine noc (fun _ _ => ?_) (by unfold f_X10_dies f_X10_dies_0 f_X10_dies_33; rw [if_pos h1])
    unfold f_X11_dies_0
    simp only [ml]
    rcases gcase C.2.1 c2 x with ⟨g, hg, rfl⟩ | ⟨hx, _⟩
    · rw [isG_t a1 m14 hg, bd_e, if_neg (by decide), in_f1 _ h1, bd_e, if_pos rfl]
    · rw [isG_f a1 m14 hx, bd_e, if_pos rfl]
  by_cases h2 : 60 < y
  · refine noc (fun _ _ => ?_) (by unfold f_X10_dies f_X10_dies_0 f_X10_dies_33; rw [if_neg h1, if_pos h2])
    unfold f_X11_dies_0
    simp only [ml]
    rcases gcase C.2.1 c2 x with ⟨g, hg, rfl⟩ | ⟨hx, _⟩
    · rw [isG_t a1 m14 hg, bd_e, if_neg (by decide), in_f2 _ h2, bd_e, if_pos rfl]
    · rw [isG_f a1 m14 hx, bd_e, if_pos rfl]
  by_cases h3 : z < 1
  · refine noc (fun _ _ => ?_) (by unfold f_X10_dies f_X10_dies_0 f_X10_dies_33; rw [if_neg h1, if_neg h2, if_pos h3])
    unfold f_X11_dies_0
    simp only [ml]
    rcases gcase C.2.1 c2 x with ⟨g, hg, rfl⟩ | ⟨hx, _⟩
    · rw [isG_t a1 m14 hg, bd_e, if_neg (by decide), in_t _ h1 h2, bd_e, if_neg (by decide), in_f1 _ h3, bd_e, if_pos rfl]
    · rw [isG_f a1 m14 hx, bd_e, if_pos rfl]
  by_cases h4 : 60 < z
  · refine noc (fun _ _ => ?_) (by unfold f_X10_dies f_X10_dies_0 f_X10_dies_33; rw [if_neg h1, if_neg h2, if_neg h3, if_pos h4])
    unfold f_X11_dies_0
    simp only [ml]
    rcases gcase C.2.1 c2 x with ⟨g, hg, rfl⟩ | ⟨hx, _⟩
    · rw [isG_t a1 m14 hg, bd_e, if_neg (by decide), in_t _ h1 h2, bd_e, if_neg (by decide), in_f2 _ h4, bd_e, if_pos rfl]
    · rw [isG_f a1 m14 hx, bd_e, if_pos rfl]
  rcases gcase C.2.1 c2 x with ⟨g, hg, rfl⟩ | ⟨hx, _⟩
  rotate_left
  · refine noc (fun _ _ => ?_) (by unfold f_X10_dies f_X10_dies_0 f_X10_dies_33; rw [if_neg h1, if_neg h2, if_neg h3, if_neg h4, hasG_f a5 hx, bd_e, if_pos rfl])
    unfold f_X11_dies_0
    simp only [ml]
    rw [isG_f a1 m14 hx, bd_e, if_pos rfl]
  have hle := lp_le C g C.1
  have hlp : lpl C g ≤ C.1 := hle
  have ref : ∀ (Mc : Mem), (∀ i k, 174 ≤ i → Mc i k = M i k) → ∀ (Q : Int32 → Mem → Prop), (∀ N2, Fr scr0 Mc N2 → (∀ i k, i < 174 → N2 i k = Mc i k) → wp (if y < nI (lst C g (lpl C g)) then some (-2, N2) else vl (p0 (z - y + nI (lst C g (lpl C g)))) fun v21 => f_X11_dies_73 FU y (nI (lst C g (lpl C g))) 0 0 v21 N2) Q) → wp (f_X11_dies (nI g) y z Mc) Q := by
    intro Mc hge Q hk
    obtain ⟨n14, -, -⟩ := C14g (Mc := Mc) hI hge
    unfold f_X11_dies f_X11_dies_0
    rw [wp_ml, isG_t a1 n14 hg, bd_e, if_neg (by decide), in_t _ h1 h2, bd_e, if_neg (by decide), in_t _ h3 h4, bd_e, if_neg (by decide), wp_bd]
    refine wp_mono (r_aside hI hge) (fun _ N1 e => ?_)
    obtain ⟨⟨e1, e2, e3⟩, e4, e5⟩ := e
    rw [wp_bd]
    refine wp_mono (r_every a1 e2.1 e1 hg) (fun r9 N2 f => ?_)
    obtain ⟨f1, f2, f3⟩ := f
    rw [f1]
    exact hk N2 (e4.tr (e44_s0 f3)) (fun i k hi => (f3 i k (by omega)).trans (e5 i k hi))
  have go : wp (f_X10_dies_67 y z (nI (lst C g (lpl C g))) M) (fun r M1 => wp (f_X11_dies (nI g) y z M1) (fun r' M2 => r' = r ∧ Cpl (N + 1) M2)) := by
    unfold f_X10_dies_67
    by_cases hlt : y < nI (lst C g (lpl C g))
    · rw [if_pos hlt, wp_s]
      refine ref M (fun _ _ _ => rfl) _ (fun N2 k1 k2 => ?_)
      rw [if_pos hlt, wp_s]
      exact ⟨rfl, q_same hI hN hR k1⟩
    · rw [if_neg hlt, wp_vl, show f_X10_dies_92 FU y (nI (lst C g (lpl C g))) 0 0 (z - y + nI (lst C g (lpl C g))) M = _ from c_dd y (nI (lst C g (lpl C g))) M 20 0 FU 0 (z - y + nI (lst C g (lpl C g))) rfl (by decide)]
      unfold f_X10_dies_123
      rw [wp_bd]
      refine wp_mono (clearRow_spec M) (fun _ M6 w => ?_)
      obtain ⟨w1, w2⟩ := w
      rw [wp_bd]
      refine wp_mono (tell_spec _ w1 (by decide)) (fun _ Mc v => ?_)
      obtain ⟨v1, v2⟩ := v
      have hrc : Fr rcS M Mc := w2.tr v2
      rw [wp_s]
      refine ref Mc (fun i k hi => hrc i k (by unfold rcS; omega)) _ (fun N2 k1 k2 => ?_)
      rw [if_neg hlt, wp_vl, show f_X11_dies_73 FU y (nI (lst C g (lpl C g))) 0 0 (p0 (z - y + nI (lst C g (lpl C g)))) N2 = _ from r_dd y (nI (lst C g (lpl C g))) N2 20 0 FU 0 (z - y + nI (lst C g (lpl C g))) rfl (by decide)]
      unfold f_X11_dies_108
      rw [wp_ml]
      obtain ⟨r1, r2⟩ := rowr0 N2
      rw [wp_bd]
      refine wp_mono (tellr_spec _ r1 (by decide)) (fun _ Mr q => ?_)
      obtain ⟨q1, q2⟩ := q
      have hrr : Fr rrS N2 Mr := r2.tr q2
      rw [wp_s]
      have lo : ∀ i k, i < 174 → Mr i k = Mc i k := fun i k hi => by rw [rr_lo hrr hi, k2 i k hi]
      exact ⟨rfl, q_row hI hN (((rc_scr hrc).tr (s0_scr k1)).tr (rr_scr hrr)) (by show 1 ≤ 12; decide) (v1.fr (lo 0 16 (by decide)) (funext fun k => lo 173 k (by decide))) q1⟩
  unfold Both f_X10_dies f_X10_dies_0
  rw [if_neg h1, if_neg h2, if_neg h3, if_neg h4, hasG_t a1 a5 hg, bd_e, if_neg (by decide), c_long a1 a5 hg, bd_e]
  by_cases h0 : lpl C g = 0
  · rw [if_pos ((pI_m1 (by omega)).mpr h0)]
    have e0 : lst C g (lpl C g) = 0 := by unfold lst; rw [if_pos h0]
    rw [e0] at go
    exact go
  · rw [if_neg (fun z => h0 ((pI_m1 (by omega)).mp z))]
    have e1 : lst C g (lpl C g) = Sy C g (lpl C g - 1) := by unfold lst; rw [if_neg h0]
    rw [pI_p (by omega), gd_t (nI_inb (show g < 6 by omega) (by decide)), gd_t (nI_inb (show lpl C g - 1 < 6 by omega) (by decide)), nI_clamp (by omega), nI_clamp (by omega), wp_vl, cStay a5 hg (by omega), ← e1]
    exact go
