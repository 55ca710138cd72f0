/-! brief -/
def Cz (C : Cf) (g r : Nat) : Cf := C' C (fun g' r' => if g' = g ∧ r' = r then 0 else C.2.2.2.2.2 g' r')
theorem cz_ok {C : Cf} (hC : COk C) (g r : Nat) : COk (Cz C g r) := by
  obtain ⟨a, b, c, d, e⟩ := hC
  refine ⟨a, b, fun g' r' => ?_, d, e⟩
  show (if g' = g ∧ r' = r then 0 else C.2.2.2.2.2 g' r') ≤ 30
  split
  · omega
  · exact c g' r'
theorem cz_c {C : Cf} {M : Mem} {g r : Nat} (hC : COk C) (hM : CfC M C) (hg : g < C.2.1) : CfC (up M (17 + g) r 0) (Cz C g r) := by
  have c2 := hC.2.1
  obtain ⟨h1, h2, h3, h4⟩ := hM
  refine ⟨?_, ?_, fun k hk => ?_, fun j hj => ⟨?_, ?_, fun k hk => ?_⟩⟩
  · rw [up_row _ _ _ (by omega)]; exact h1
  · rw [up_row _ _ _ (by omega)]; exact h2
  · rw [up_row _ _ _ (by omega)]; exact h3 k hk
  · rw [up_row _ _ _ (by omega)]; exact (h4 j hj).1
  · rw [up_row _ _ _ (by omega)]; exact (h4 j hj).2.1
  · show up M (17 + g) r 0 (17 + j) k = nI (if j = g ∧ k = r then 0 else C.2.2.2.2.2 j k)
    rw [up_at]
    by_cases z : j = g ∧ k = r
    · rw [if_pos (by omega), if_pos z]; rfl
    · rw [if_neg (by omega), if_neg z]
      exact (h4 j hj).2.2 k hk
theorem cz_r {C : Cf} {M : Mem} {g r : Nat} (hC : COk C) (hM : CfR M C) (hT : StR M C) (hr : r < C.1) : CfR (up M 187 (6 * g + r) 0) (Cz C g r) ∧ StR (up M 187 (6 * g + r) 0) (Cz C g r) := by
  have c1 := hC.1
  refine ⟨CfR.eq (C := Cz C g r) (M := M) (by rw [up_row _ _ _ (by decide)]) (by rw [up_row _ _ _ (by decide)]) (fun i k a b => by rw [up_row _ _ _ (by omega)]) hM, fun j hj k hk => ?_⟩
  have hk' : k < C.1 := hk
  show up M 187 (6 * g + r) 0 187 (6 * j + k) = nI (if j = g ∧ k = r then 0 else C.2.2.2.2.2 j k)
  rw [up_at]
  by_cases z : j = g ∧ k = r
  · rw [if_pos (by omega), if_pos z]; rfl
  · rw [if_neg (by omega), if_neg z]
    exact hT j hj k hk
/-- those alone by which all are through in so many minutes -/
theorem so_lim (C : Cf) (σ : Sm) (L0 : Nat) (p : Nat → Bool) : bx (SoS C σ L0 p) = match RbS C σ true p with
    | none => -1
    | some x => if x.1 ≤ L0 then nI x.1 else -1 := by
  have key : ∀ (c : List (List Nat)) (s t : BSt), (s = none ∧ (t = none ∨ ∃ x, t = some x ∧ L0 < x.1)) ∨ (∃ x, s = some x ∧ t = some x ∧ x.1 ≤ L0) → (c.foldl (fsS C σ L0) s = none ∧ (c.foldl (rbS C σ true) t = none ∨ ∃ x, c.foldl (rbS C σ true) t = some x ∧ L0 < x.1)) ∨ (∃ x, c.foldl (fsS C σ L0) s = some x ∧ c.foldl (rbS C σ true) t = some x ∧ x.1 ≤ L0) := by
    intro c
    induction c with
    | nil => intro s t h; exact h
    | cons l c ih =>
      intro s t h
      rw [List.foldl_cons, List.foldl_cons]
      apply ih
      unfold fsS rbS
      cases e : odv C σ l with
      | none => exact h
      | some v =>
        rcases h with ⟨rfl, rfl | ⟨x, rfl, hx⟩⟩ | ⟨x, rfl, rfl, hx⟩
        · by_cases z : v ≤ L0
          · exact Or.inr ⟨_, if_pos z, rfl, z⟩
          · exact Or.inl ⟨if_neg z, Or.inr ⟨_, rfl, by show L0 < v; omega⟩⟩
        · by_cases z : v ≤ L0
          · exact Or.inr ⟨_, if_pos z, if_pos (bet_1.mpr (Or.inl (by omega))), z⟩
          · refine Or.inl ⟨if_neg z, Or.inr ?_⟩
            by_cases y : bet true v (wto C σ l v) x.1 x.2.1 = true
            · exact ⟨_, if_pos y, by show L0 < v; omega⟩
            · exact ⟨_, if_neg y, hx⟩
        · by_cases y : bet true v (wto C σ l v) x.1 x.2.1 = true
          · refine Or.inr ⟨_, if_pos y, if_pos y, ?_⟩
            have := bet_1.mp y
            show v ≤ L0
            omega
          · exact Or.inr ⟨_, if_neg y, if_neg y, hx⟩
  rcases key (chain 720 (fl p 6)) none none (Or.inl ⟨rfl, Or.inl rfl⟩) with ⟨a, b⟩ | ⟨x, a, b, c⟩
  · have a' : SoS C σ L0 p = none := a
    rw [a']
    rcases b with b | ⟨x, b, c⟩
    · have b' : RbS C σ true p = none := b
      rw [b']; rfl
    · have b' : RbS C σ true p = some x := b
      rw [b']
      exact (if_neg (by omega)).symm
  · have a' : SoS C σ L0 p = some x := a
    have b' : RbS C σ true p = some x := b
    rw [a', b']
    exact (if_pos c).symm
theorem rb_ok {C : Cf} {σ : Sm} {p : Nat → Bool} {bt : Bool} (hC : COk C) (hO : Ok C σ) (hp : Tho C σ p) : ∀ x, RbS C σ bt p = some x → 1 ≤ x.1 ∧ x.1 ≤ 400 := by
  have key : ∀ (k : Nat) (l : List Nat) (s : BSt), InO p l → (∀ x, s = some x → 1 ≤ x.1 ∧ x.1 ≤ 400) → ∀ x, (chain k l).foldl (rbS C σ bt) s = some x → 1 ≤ x.1 ∧ x.1 ≤ 400 := by
    intro k
    induction k with
    | zero => intro l s _ hs x hx; exact hs x hx
    | succ k ih =>
      intro l s hl hs x hx
      have hst : ∀ y, rbS C σ bt s l = some y → 1 ≤ y.1 ∧ y.1 ≤ 400 := by
        intro y hy
        unfold rbS at hy
        cases e : odv C σ l with
        | none => rw [e] at hy; exact hs y hy
        | some v =>
          rw [e] at hy
          obtain ⟨d1, d2, _⟩ := dv_ok hC hO hp hl e
          cases s with
          | none => cases hy; exact ⟨d1, d2⟩
          | some z =>
            simp only at hy
            split at hy
            · cases hy; exact ⟨d1, d2⟩
            · cases hy; exact hs _ rfl
      unfold chain at hx
      cases e : nxo l with
      | none => rw [e] at hx; exact hst x hx
      | some q =>
        rw [e] at hx
        exact ih q.2 _ (io_next hl (q := q.1) (l' := q.2) e) hst x hx
  exact key 720 (fl p 6) none (List.Perm.refl _) (fun x e => by cases e)
abbrev BfS : Type := Option Nat × Nat × Nat
def bfx (s : BfS) : Int32 := match s.1 with
  | none => -1
  | some v => nI v
def bfr (s : BfS) : Int32 := match s.1 with
  | none => 1000000
  | some v => nI v
def bfS (C : Cf) (σ : Sm) (p : Nat → Bool) (g r : Nat) (s : BfS) : BfS := if C.2.2.2.2.2 g r = 0 then s else match RbS (Cz C g r) σ true p with
  | none => s
  | some x => match s.1 with
    | none => (some x.1, g + 1, r + 1)
    | some b => if x.1 < b then (some x.1, g + 1, r + 1) else s
def bfk (s : BfS) : Prop := ∀ v, s.1 = some v → 1 ≤ v ∧ v ≤ 400
theorem bf_ok {C : Cf} {σ : Sm} {p : Nat → Bool} {g r : Nat} {s : BfS} (hC : COk C) (hO : Ok C σ) (hp : Tho C σ p) (h : bfk s) : bfk (bfS C σ p g r s) := by
  unfold bfS
  split
  · exact h
  · cases e : RbS (Cz C g r) σ true p with
    | none => exact h
    | some x =>
      have hx := rb_ok (cz_ok hC g r) (Ok.c' _ hO) hp x e
      cases e2 : s.1 with
      | none => intro v hv; cases hv; exact hx
      | some b =>
        show bfk (if x.1 < b then (some x.1, g + 1, r + 1) else s)
        split
        · intro v hv; cases hv; exact hx
        · exact h
def bfG (C : Cf) (σ : Sm) (p : Nat → Bool) (g : Nat) (s : BfS) : BfS := foldF (bfS C σ p g) C.1 0 s
theorem foldF_P {α : Type} {f : Nat → α → α} {P : α → Prop} (h : ∀ k x, P x → P (f k x)) : ∀ (m g : Nat) (a : α), P a → P (foldF f m g a)
  | 0, _, _, ha => ha
  | m + 1, g, a, ha => foldF_P h m (g + 1) (f g a) (h g a ha)
section BrC
variable {C : Cf} {σ : Sm} {p : Nat → Bool} {M0 : Mem} {Q : Int32 → Mem → Prop}
theorem brief42 {K27 : Int32 → Int32 → Int32 → Int32 → Int32 → Mem → Option (Int32 × Mem)} (hC : COk C) (hO : Ok C σ) (hp : Tho C σ p) (hB : σ.2.2.2.2 < 2 ^ 29) (hM0 : CfC M0 C) (hI0 : IsC C M0 26 σ) {g : Nat} (hg : g < C.2.1) : ∀ (m r n : Nat) (M : Mem) (s : BfS), r + m = C.1 → m < n → Fr obS M0 M → bfk s → (∀ M' s', s' = foldF (bfS C σ p g) m r s → bfk s' → Fr obS M0 M' → wp (K27 (bI p) (bfx s') (pI s'.2.1) (pI s'.2.2) (nI (g + 1)) M') Q) → wp (f_X10_brief_42 K27 n (bI p) (bfx s) (pI s.2.1) (pI s.2.2) (nI g) (nI r) M) Q
  | 0, r, n + 1, M, s, he, _, hF, hs, hk => by
    have c1 := hC.1
    have c2 := hC.2.1
    have hM : CfC M C := CfC.eq c2 (fun i k hi => hF i k (by unfold obS; omega)) hM0
    unfold f_X10_brief_42
    rw [hM.1, if_neg (nI_nlt (by omega) (by omega)), wp_vl, nI_1]
    exact hk M s rfl hs hF
  | m + 1, r, n + 1, M, s, he, hn, hF, hs, hk => by
    have c1 := hC.1
    have c2 := hC.2.1
    have hr : r < C.1 := by omega
    have hM : CfC M C := CfC.eq c2 (fun i k hi => hF i k (by unfold obS; omega)) hM0
    have hI : IsC C M 26 σ := IsC.eq (fun i k a b _ => hF i k (by unfold obS; omega)) hI0
    have hst := (hM.2.2.2 g hg).2.2 r hr
    have h30 := hC.2.2.1 g r
    have next : ∀ (M' : Mem) (s' : BfS), s' = bfS C σ p g r s → Fr obS M0 M' → wp (f_X10_brief_140 K27 (f_X10_brief_42 K27 n) (bI p) (bfx s') (pI s'.2.1) (pI s'.2.2) (nI g) (nI r) M') Q := by
      intro M' s' e hF'
      unfold f_X10_brief_140
      rw [wp_vl, nI_1]
      exact brief42 hC hO hp hB hM0 hI0 hg m (r + 1) n M' s' (by omega) (by omega) hF' (by rw [e]; exact bf_ok hC hO hp hs) (fun M'' s'' e2 => hk M'' s'' (by rw [e2, e]; rfl))
    unfold f_X10_brief_42
    rw [hM.1, if_pos (nI_lt hr (by omega)), gd_t (nI_inb (show g < 6 by omega) (by decide)), gd_t (nI_inb (show r < 6 by omega) (by decide)), nI_clamp (show g < 2 ^ 31 by omega), nI_clamp (show r < 2 ^ 31 by omega), wp_vl, hst]
    by_cases z : C.2.2.2.2.2 g r = 0
    · rw [if_neg (show ¬ (0 : Int32) < nI (C.2.2.2.2.2 g r) by rw [z]; decide)]
      exact next M s (if_pos z).symm hF
    · rw [if_pos (nIp (by omega) (by omega)), gd_t (nI_inc (show g < 6 by omega) (by decide)), gd_t (nI_inc (show r < 6 by omega) (by decide)), wp_ml]
      have hCz := cz_ok hC g r
      have hMz : CfC (up M (17 + g) r 0) (Cz C g r) := cz_c hC hM hg
      have hIz : IsC (Cz C g r) (up M (17 + g) r 0) 26 σ := IsC.eq (fun i k a b _ => by rw [up_row _ _ _ (by omega)]) (IsC.c' _ hI)
      have go : ∀ L0, L0 ≤ 400 → L0 = (match s.1 with
          | none => 400
          | some b => b - 1) → wp (f_X10_brief_104 K27 (f_X10_brief_42 K27 n) (bI p) (bfx s) (pI s.2.1) (pI s.2.2) (nI g) (nI r) (nI (C.2.2.2.2.2 g r)) (bI p) (nI L0) (up M (17 + g) r 0)) Q := by
        intro L0 hL eL
        unfold f_X10_brief_104
        rw [wp_bd]
        refine wp_mono (findSoonest_spec hCz (Ok.c' _ hO) hp hB hL hMz hIz) (fun x M2 q => ?_)
        obtain ⟨q1, q2, -, -⟩ := q
        rw [so_lim] at q1
        rw [gd_t (nI_inb (show g < 6 by omega) (by decide)), gd_t (nI_inb (show r < 6 by omega) (by decide)), nI_clamp (show g < 2 ^ 31 by omega), nI_clamp (show r < 2 ^ 31 by omega), wp_ml]
        have hF2 : Fr obS M0 (up M2 (17 + g) r (nI (C.2.2.2.2.2 g r))) := by
          intro i k hn
          rw [up_at]
          by_cases y : i = 17 + g ∧ k = r
          · rw [if_pos y, y.1, y.2, ← hst]
            exact hF (17 + g) r (by unfold obS; omega)
          · rw [if_neg y, q2 i k hn, up_at, if_neg y]
            exact hF i k hn
        rw [q1]
        have eS : bfS C σ p g r s = match RbS (Cz C g r) σ true p with
          | none => s
          | some x => match s.1 with
            | none => (some x.1, g + 1, r + 1)
            | some b => if x.1 < b then (some x.1, g + 1, r + 1) else s := if_neg z
        cases e : RbS (Cz C g r) σ true p with
        | none =>
          rw [e] at eS
          show wp (if (-1 : Int32) = -1 then _ else _) Q
          rw [if_pos rfl]
          exact next _ s eS.symm hF2
        | some x =>
          rw [e] at eS
          have hx := rb_ok hCz (Ok.c' _ hO) hp x e
          show wp (if (if x.1 ≤ L0 then nI x.1 else -1) = -1 then _ else f_X10_brief_140 K27 _ (bI p) (if x.1 ≤ L0 then nI x.1 else -1) (nI g) (nI r) (nI g) (nI r) _) Q
          have eS2 : bfS C σ p g r s = match s.1 with
            | none => (some x.1, g + 1, r + 1)
            | some b => if x.1 < b then (some x.1, g + 1, r + 1) else s := eS
          by_cases y : x.1 ≤ L0
          · rw [if_pos y, if_neg (nI_neq (by omega))]
            have e3 : bfS C σ p g r s = (some x.1, g + 1, r + 1) := by
              rw [eS2]
              cases e4 : s.1 with
              | none => rfl
              | some b =>
                rw [e4] at eL
                have eL' : L0 = b - 1 := eL
                have := (hs b e4).1
                exact if_pos (by omega)
            have := next (up M2 (17 + g) r (nI (C.2.2.2.2.2 g r))) (some x.1, g + 1, r + 1) e3.symm hF2
            rw [show pI (some x.1, g + 1, r + 1).2.1 = nI g from pI_s g, show pI (some x.1, g + 1, r + 1).2.2 = nI r from pI_s r] at this
            exact this
          · rw [if_neg y, if_pos rfl]
            refine next _ s ?_ hF2
            rw [eS2]
            cases e4 : s.1 with
            | none =>
              rw [e4] at eL
              have eL' : L0 = 400 := eL
              omega
            | some b =>
              rw [e4] at eL
              have eL' : L0 = b - 1 := eL
              exact (if_neg (by omega)).symm
      cases e4 : s.1 with
      | none =>
        rw [show bfx s = -1 by unfold bfx; rw [e4], if_pos rfl]
        have := go 400 (Nat.le_refl _) (by rw [e4])
        rw [show bfx s = -1 by unfold bfx; rw [e4]] at this
        exact this
      | some b =>
        have hb := hs b e4
        have eb : bfx s = nI b := by unfold bfx; rw [e4]
        rw [eb, if_neg (nI_neq (by omega)), nI_sub1 (by omega)]
        have := go (b - 1) (by omega) (by rw [e4])
        rw [eb] at this
        exact this
theorem brief27 (hC : COk C) (hO : Ok C σ) (hp : Tho C σ p) (hB : σ.2.2.2.2 < 2 ^ 29) (hM0 : CfC M0 C) (hI0 : IsC C M0 26 σ) : ∀ (m g n : Nat) (M : Mem) (s : BfS), g + m = C.2.1 → m < n → Fr obS M0 M → bfk s → (∀ n' M' s', s' = foldF (bfG C σ p) m g s → bfk s' → Fr obS M0 M' → wp (f_X10_brief_27 (n' + 1) (bI p) (bfx s') (pI s'.2.1) (pI s'.2.2) (nI C.2.1) M') Q) → wp (f_X10_brief_27 n (bI p) (bfx s) (pI s.2.1) (pI s.2.2) (nI g) M) Q
  | 0, g, n + 1, M, s, he, _, hF, hs, hk => by
    have : g = C.2.1 := by omega
    subst this
    exact hk n M s rfl hs hF
  | m + 1, g, n + 1, M, s, he, hn, hF, hs, hk => by
    have c1 := hC.1
    have c2 := hC.2.1
    have hM : CfC M C := CfC.eq c2 (fun i k hi => hF i k (by unfold obS; omega)) hM0
    unfold f_X10_brief_27
    rw [hM.2.1, if_pos (nI_lt (by omega) (by omega))]
    refine brief42 hC hO hp hB hM0 hI0 (show g < C.2.1 by omega) C.1 0 FU M s (by omega) (by show C.1 < 2000; omega) hF hs (fun M' s' e hs' hF' => ?_)
    exact brief27 hC hO hp hB hM0 hI0 m (g + 1) n M' s' (by omega) (by omega) hF' hs' (fun n'' M'' s'' e2 => hk n'' M'' s'' (by rw [e2, e]; rfl))
theorem brief27' {x2 x3 x4 x5 : Int32} {M : Mem} {s : BfS} (hC : COk C) (hO : Ok C σ) (hp : Tho C σ p) (hB : σ.2.2.2.2 < 2 ^ 29) (hM0 : CfC M0 C) (hI0 : IsC C M0 26 σ) (e2 : x2 = bfx s) (e3 : x3 = pI s.2.1) (e4 : x4 = pI s.2.2) (e5 : x5 = nI 0) (hF : Fr obS M0 M) (hs : bfk s) (hk : ∀ n' M' s', s' = foldF (bfG C σ p) C.2.1 0 s → bfk s' → Fr obS M0 M' → wp (f_X10_brief_27 (n' + 1) (bI p) (bfx s') (pI s'.2.1) (pI s'.2.2) (nI C.2.1) M') Q) : wp (f_X10_brief_27 FU (bI p) x2 x3 x4 x5 M) Q := by
  subst e2 e3 e4 e5
  have c2 := hC.2.1
  exact brief27 hC hO hp hB hM0 hI0 C.2.1 0 FU M s (by omega) (by show C.2.1 < 2000; omega) hF hs hk
end BrC
section BrR
variable {C : Cf} {σ : Sm} {p : Nat → Bool} {M0 : Mem} {Q : Int32 → Mem → Prop}
theorem briefr50 {K38 : Int32 → Int32 → Int32 → Int32 → Int32 → Mem → Option (Int32 × Mem)} (hC : COk C) (hO : Ok C σ) (hp : Tho C σ p) (hB : σ.2.2.2.2 < 2 ^ 29) (hM0 : CfR M0 C) (hT0 : StR M0 C) (hI0 : IsR C (M0 175) σ) {g : Nat} (hg : g < C.2.1) : ∀ (m r n : Nat) (M : Mem) (s : BfS), r + m = C.1 → m < n → Fr fbF M0 M → bfk s → (∀ M' s', s' = foldF (bfS C σ p g) m r s → bfk s' → Fr fbF M0 M' → wp (K38 (bI p) (bfr s') (pI s'.2.1) (pI s'.2.2) (nI (g + 1)) M') Q) → wp (f_X11_brief_50 K38 n (bI p) (bfr s) (pI s.2.1) (pI s.2.2) (nI g) (nI r) M) Q
  | 0, r, n + 1, M, s, he, _, hF, hs, hk => by
    have c1 := hC.1
    have c2 := hC.2.1
    unfold f_X11_brief_50
    rw [hF 174 1 (by unfold fbF; omega), hM0.1, if_neg (nI_nlt (by omega) (by omega)), wp_vl, nI_1]
    exact hk M s rfl hs hF
  | m + 1, r, n + 1, M, s, he, hn, hF, hs, hk => by
    have c1 := hC.1
    have c2 := hC.2.1
    have hr : r < C.1 := by omega
    have hM : CfR M C := CfR.eq (hF 174 1 (by unfold fbF; omega)) (hF 174 3 (by unfold fbF; omega)) (fun i k _ _ => hF i k (by unfold fbF; omega)) hM0
    have hT : StR M C := StR.eq (funext fun k => hF 187 k (by unfold fbF; omega)) hT0
    have hI : IsR C (M 175) σ := IsR.eq c2 (fun k _ => hF 175 k (by unfold fbF; omega)) hI0
    have hst := hT g hg r hr
    have h30 := hC.2.2.1 g r
    have e6 : (6 : Int32) * nI g + nI r = nI (6 * g + r) := by rw [lm6, nI_add]
    have next : ∀ (M' : Mem) (s' : BfS), s' = bfS C σ p g r s → Fr fbF M0 M' → wp (f_X11_brief_140 K38 (f_X11_brief_50 K38 n) (bI p) (bfr s') (pI s'.2.1) (pI s'.2.2) (nI g) (nI r) M') Q := by
      intro M' s' e hF'
      unfold f_X11_brief_140
      rw [wp_vl, nI_1]
      exact briefr50 hC hO hp hB hM0 hT0 hI0 hg m (r + 1) n M' s' (by omega) (by omega) hF' (by rw [e]; exact bf_ok hC hO hp hs) (fun M'' s'' e2 => hk M'' s'' (by rw [e2, e]; rfl))
    unfold f_X11_brief_50
    rw [hM.1, if_pos (nI_lt hr (by omega)), e6, gd_t (nI_inb (show 6 * g + r < 36 by omega) (by decide)), nI_clamp (show 6 * g + r < 2 ^ 31 by omega), wp_vl, hst]
    by_cases z : C.2.2.2.2.2 g r = 0
    · rw [if_pos (show nI (C.2.2.2.2.2 g r) = 0 by rw [z]; rfl)]
      exact next M s (if_pos z).symm hF
    · rw [if_neg (show ¬ nI (C.2.2.2.2.2 g r) = 0 from fun w => z ((nI_eq (b := 0) (by omega) (by decide)).mp w)), gd_t (nI_inc (show 6 * g + r < 36 by omega) (by decide)), wp_ml, wp_bd]
      have hCz := cz_ok hC g r
      obtain ⟨hMz, hTz⟩ := cz_r (g := g) hC hM hT hr
      have hIz : IsR (Cz C g r) (up M 187 (6 * g + r) 0 175) σ := by rw [up_row _ _ _ (by decide)]; exact IsR.c' _ hI
      rw [show (1 : Int32) = b2i (true = true) from rfl]
      refine wp_mono (findBest_spec (bt := true) hCz (Ok.c' _ hO) hp hB hMz hTz hIz) (fun _ M2 q => ?_)
      obtain ⟨q1, -, -, -, -, q6⟩ := q
      rw [gd_t (nI_inc (show 6 * g + r < 36 by omega) (by decide)), wp_ml]
      have hF2 : Fr fbF M0 (up M2 187 (6 * g + r) (nI (C.2.2.2.2.2 g r))) := by
        intro i k hn
        rw [up_at]
        by_cases y : i = 187 ∧ k = 6 * g + r
        · rw [if_pos y, y.1, y.2, ← hst]
          exact hF 187 (6 * g + r) (by unfold fbF; omega)
        · rw [if_neg y, q6 i k hn, up_at, if_neg y]
          exact hF i k hn
      have e39 : up M2 187 (6 * g + r) (nI (C.2.2.2.2.2 g r)) 174 39 = bR1 (RbS (Cz C g r) σ true p) := by rw [up_row _ _ _ (by decide)]; exact q1
      rw [e39]
      have eS : bfS C σ p g r s = match RbS (Cz C g r) σ true p with
        | none => s
        | some x => match s.1 with
          | none => (some x.1, g + 1, r + 1)
          | some b => if x.1 < b then (some x.1, g + 1, r + 1) else s := if_neg z
      cases e : RbS (Cz C g r) σ true p with
      | none =>
        rw [e] at eS
        rw [show bR1 none = 1000000 from rfl]
        have hno : ¬ (1000000 : Int32) < bfr s := by
          unfold bfr
          cases e4 : s.1 with
          | none => decide
          | some b => exact nI_nlt (a := 1000000) (by have := hs b e4; omega) (by decide)
        rw [if_neg hno]
        exact next _ s eS.symm hF2
      | some x =>
        rw [e] at eS
        have hx := rb_ok hCz (Ok.c' _ hO) hp x e
        have eS2 : bfS C σ p g r s = match s.1 with
          | none => (some x.1, g + 1, r + 1)
          | some b => if x.1 < b then (some x.1, g + 1, r + 1) else s := eS
        rw [show bR1 (some x) = nI x.1 from rfl]
        have upd : bfS C σ p g r s = (some x.1, g + 1, r + 1) → wp (f_X11_brief_140 K38 (f_X11_brief_50 K38 n) (bI p) (nI x.1) (nI g) (nI r) (nI g) (nI r) (up M2 187 (6 * g + r) (nI (C.2.2.2.2.2 g r)))) Q := by
          intro e3
          have := next (up M2 187 (6 * g + r) (nI (C.2.2.2.2.2 g r))) (some x.1, g + 1, r + 1) e3.symm hF2
          rw [show pI (some x.1, g + 1, r + 1).2.1 = nI g from pI_s g, show pI (some x.1, g + 1, r + 1).2.2 = nI r from pI_s r] at this
          exact this
        cases e4 : s.1 with
        | none =>
          rw [e4] at eS2
          rw [show bfr s = 1000000 by unfold bfr; rw [e4], if_pos (show nI x.1 < 1000000 from nI_lt (b := 1000000) (by omega) (by decide)), wp_vl]
          exact upd eS2
        | some b =>
          rw [e4] at eS2
          have hb := hs b e4
          have eb : bfr s = nI b := by unfold bfr; rw [e4]
          by_cases y : x.1 < b
          · rw [eb, if_pos (nI_lt y (by omega)), wp_vl]
            exact upd (eS2.trans (if_pos y))
          · rw [if_neg (show ¬ nI x.1 < bfr s by rw [eb]; exact nI_nlt (by omega) (by omega))]
            exact next _ s (eS2.trans (if_neg y)).symm hF2
theorem briefr38 (hC : COk C) (hO : Ok C σ) (hp : Tho C σ p) (hB : σ.2.2.2.2 < 2 ^ 29) (hM0 : CfR M0 C) (hT0 : StR M0 C) (hI0 : IsR C (M0 175) σ) : ∀ (m g n : Nat) (M : Mem) (s : BfS), g + m = C.2.1 → m < n → Fr fbF M0 M → bfk s → (∀ n' M' s', s' = foldF (bfG C σ p) m g s → bfk s' → Fr fbF M0 M' → wp (f_X11_brief_38 (n' + 1) (bI p) (bfr s') (pI s'.2.1) (pI s'.2.2) (nI C.2.1) M') Q) → wp (f_X11_brief_38 n (bI p) (bfr s) (pI s.2.1) (pI s.2.2) (nI g) M) Q
  | 0, g, n + 1, M, s, he, _, hF, hs, hk => by
    have : g = C.2.1 := by omega
    subst this
    exact hk n M s rfl hs hF
  | m + 1, g, n + 1, M, s, he, hn, hF, hs, hk => by
    have c1 := hC.1
    have c2 := hC.2.1
    unfold f_X11_brief_38
    rw [hF 174 3 (by unfold fbF; omega), hM0.2.1, if_pos (nI_lt (by omega) (by omega))]
    refine briefr50 hC hO hp hB hM0 hT0 hI0 (show g < C.2.1 by omega) C.1 0 FU M s (by omega) (by show C.1 < 2000; omega) hF hs (fun M' s' e hs' hF' => ?_)
    exact briefr38 hC hO hp hB hM0 hT0 hI0 m (g + 1) n M' s' (by omega) (by omega) hF' hs' (fun n'' M'' s'' e2 => hk n'' M'' s'' (by rw [e2, e]; rfl))
theorem briefr38' {x2 x3 x4 x5 : Int32} {M : Mem} {s : BfS} (hC : COk C) (hO : Ok C σ) (hp : Tho C σ p) (hB : σ.2.2.2.2 < 2 ^ 29) (hM0 : CfR M0 C) (hT0 : StR M0 C) (hI0 : IsR C (M0 175) σ) (e2 : x2 = bfr s) (e3 : x3 = pI s.2.1) (e4 : x4 = pI s.2.2) (e5 : x5 = nI 0) (hF : Fr fbF M0 M) (hs : bfk s) (hk : ∀ n' M' s', s' = foldF (bfG C σ p) C.2.1 0 s → bfk s' → Fr fbF M0 M' → wp (f_X11_brief_38 (n' + 1) (bI p) (bfr s') (pI s'.2.1) (pI s'.2.2) (nI C.2.1) M') Q) : wp (f_X11_brief_38 FU (bI p) x2 x3 x4 x5 M) Q := by
  subst e2 e3 e4 e5
  have c2 := hC.2.1
  exact briefr38 hC hO hp hB hM0 hT0 hI0 C.2.1 0 FU M s (by omega) (by show C.2.1 < 2000; omega) hF hs hk
end BrR
def BfA (C : Cf) (σ : Sm) (p : Nat → Bool) : BfS := foldF (bfG C σ p) C.2.1 0 ((RbS C σ true p).map (fun x => x.1), 0, 0)
theorem st_brief {N : Nat} {M : Mem} (hN : N < 512) (h : Cpl N M) (x : Int32) : Both N (f_X10_brief x) (f_X11_brief x) M := by
  obtain ⟨⟨C, σ, hI⟩, hR⟩ := h
  obtain ⟨a1, a2, a3, a4, a5, a6, a7, a8, -⟩ := id hI
  have c2 := a1.2.1
  unfold Both f_X10_brief f_X10_brief_0
  by_cases hx : ThoX C σ x
  · rw [(c_out a1 a5 a7 a2 x).1 hx, bd_e, if_neg (by decide)]
    obtain ⟨p, rfl, hp⟩ := id hx
    have hB : σ.2.2.2.2 < 2 ^ 29 := by omega
    have k0 : bfk ((RbS C σ true p).map (fun x => x.1), 0, 0) := by
      intro v hv
      cases e : RbS C σ true p with
      | none => rw [e] at hv; cases hv
      | some y => rw [e] at hv; cases hv; exact rb_ok a1 a2 hp y e
    have ref : ∀ M2, Fr scr M M2 → ((BfA C σ p).1 = none → Fr scr0 M M2) → (∀ v, (BfA C σ p).1 = some v → RwC M2 [pI (BfA C σ p).2.1, pI (BfA C σ p).2.2]) → wp (f_X11_brief (bI p) M2) (fun r' M3 => r' = (match (BfA C σ p).1 with
        | none => -2
        | some v => nI v) ∧ Cpl (N + 1) M3) := by
      intro M2 hF hF0 hw
      have hI2 := hI.sc hF
      unfold f_X11_brief f_X11_brief_0
      rw [wp_ml, (no_tho hI2 (bI p)).1 hx, bd_e, if_neg (by decide), wp_bd]
      refine wp_mono (ref_ly hI2) (fun _ M3 w => ?_)
      obtain ⟨w1, w2, w3⟩ := w
      obtain ⟨b1, b2, b3, b4, b5, b6, b7, b8, -⟩ := id w1
      rw [wp_bd, show (1 : Int32) = b2i (true = true) from rfl]
      refine wp_mono (findBest_spec (bt := true) b1 b2 hp hB b6 w2 b8) (fun _ M4 y => ?_)
      obtain ⟨y1, -, -, -, -, y6⟩ := y
      rw [wp_vl, y1]
      have e0 : bR1 (RbS C σ true p) = bfr ((RbS C σ true p).map (fun x => x.1), 0, 0) := by
        unfold bfr
        cases RbS C σ true p <;> rfl
      rw [e0]
      refine briefr38' (s := ((RbS C σ true p).map (fun x => x.1), 0, 0)) b1 b2 hp hB b6 w2 b8 rfl (by rw [show b2i (true = true) = (1 : Int32) from rfl]; exact pI_0.symm) (by rw [show b2i (true = true) = (1 : Int32) from rfl]; exact pI_0.symm) rfl y6 k0 (fun n' M5 s' e hs' hF5 => ?_)
      have e' : s' = BfA C σ p := e
      subst e'
      have f25 : Fr scr0 M2 M5 := w3.tr (fb_s0 hF5)
      unfold f_X11_brief_38
      rw [hF5 174 3 (by unfold fbF; omega), b6.2.1, if_neg (nI_nlt (Nat.le_refl _) (by omega))]
      cases e4 : (BfA C σ p).1 with
      | none =>
        rw [show bfr (BfA C σ p) = 1000000 by unfold bfr; rw [e4], if_pos rfl, wp_s]
        exact ⟨rfl, q_same hI hN hR ((hF0 e4).tr f25)⟩
      | some v =>
        have hv := hs' v e4
        have ev : bfr (BfA C σ p) = nI v := by unfold bfr; rw [e4]
        rw [ev, if_neg (show ¬ nI v = 1000000 from fun t => by have := (nI_eq (b := 1000000) (by omega) (by decide)).mp t; omega), wp_ml, wp_bd]
        refine wp_mono (tellr_spec (pI (BfA C σ p).2.1) (rowr0 M5).1 (by decide)) (fun _ M6 u => ?_)
        rw [wp_bd]
        refine wp_mono (tellr_spec (pI (BfA C σ p).2.2) u.1 (by show 1 < 16; decide)) (fun _ M7 t => ?_)
        rw [wp_s]
        have f57 : Fr rrS M5 M7 := ((rowr0 M5).2.tr u.2).tr t.2
        refine ⟨rfl, q_row (l := [pI (BfA C σ p).2.1, pI (BfA C σ p).2.2]) hI hN ((hF.tr (s0_scr f25)).tr (rr_scr f57)) (by show 2 ≤ 12; decide) ((hw v e4).fr ?_ (funext fun k => ?_)) t.1⟩
        · rw [f57 0 16 (by unfold rrS; omega)]; exact f25 0 16 (by unfold scr0; omega)
        · rw [f57 173 k (by unfold rrS; omega)]; exact f25 173 k (by unfold scr0; omega)
    rw [wp_bd, show (400 : Int32) = nI 400 from rfl]
    refine wp_mono (findSoonest_spec a1 a2 hp hB (Nat.le_refl _) a5 a7) (fun r M1 q => ?_)
    obtain ⟨rfl, q2, -, -⟩ := q
    rw [so_rb]
    have e0 : bx (RbS C σ true p) = bfx ((RbS C σ true p).map (fun x => x.1), 0, 0) := by
      unfold bfx
      cases RbS C σ true p <;> rfl
    rw [e0]
    refine brief27' (s := ((RbS C σ true p).map (fun x => x.1), 0, 0)) a1 a2 hp hB a5 a7 rfl pI_0.symm pI_0.symm rfl q2 k0 (fun n' M2 s' e hs' hF2 => ?_)
    have e' : s' = BfA C σ p := e
    subst e'
    unfold f_X10_brief_27
    rw [hF2 3 2 (by unfold obS; omega), a5.2.1, if_neg (nI_nlt (Nat.le_refl _) (by omega))]
    cases e4 : (BfA C σ p).1 with
    | none =>
      rw [show bfx (BfA C σ p) = -1 by unfold bfx; rw [e4], if_pos rfl, wp_s]
      have := ref M2 (s0_scr (ob_s0 hF2)) (fun _ => ob_s0 hF2) (fun z ez => by rw [e4] at ez; cases ez)
      rw [e4] at this
      exact this
    | some v =>
      have hv := hs' v e4
      have ev : bfx (BfA C σ p) = nI v := by unfold bfx; rw [e4]
      rw [ev, if_neg (nI_neq (by omega)), wp_bd]
      refine wp_mono (clearRow_spec M2) (fun _ M3 w => ?_)
      rw [wp_bd]
      refine wp_mono (tell_spec (pI (BfA C σ p).2.1) w.1 (by decide)) (fun _ M4 y => ?_)
      rw [wp_bd]
      refine wp_mono (tell_spec (pI (BfA C σ p).2.2) y.1 (by show 1 < 12; decide)) (fun _ M5 u => ?_)
      rw [wp_s]
      have := ref M5 ((((s0_scr (ob_s0 hF2)).tr (rc_scr w.2)).tr (rc_scr y.2)).tr (rc_scr u.2)) (fun t => by rw [e4] at t; cases t) (fun _ _ => u.1)
      rw [e4] at this
      exact this
  · rw [(c_out a1 a5 a7 a2 x).2 hx, bd_e, if_pos rfl, wp_s]
    unfold f_X11_brief f_X11_brief_0
    rw [wp_ml, (no_tho hI x).2 hx, bd_e, if_pos rfl, wp_s]
    exact ⟨rfl, q_same hI hN hR fr14⟩
