/-! the reference: a day by an order -/
def OrR (M : Mem) (l : List Nat) : Prop := l.length ≤ 6 ∧ M 174 37 = nI l.length ∧ ∀ k g, l[k]? = some g → M 192 k = nI g
theorem OrR.eq {M M' : Mem} {l : List Nat} (h1 : M' 174 37 = M 174 37) (h2 : ∀ k, M' 192 k = M 192 k) (h : OrR M l) : OrR M' l := ⟨h.1, h1.trans h.2.1, fun k g e => (h2 k).trans (h.2.2 k g e)⟩
theorem OrR.fr {M M' : Mem} {l : List Nat} (hF : Fr (mnS 191) M M') (h : OrR M l) : OrR M' l := h.eq (hF 174 37 (by unfold mnS; omega)) (fun k => hF 192 k (by unfold mnS; omega))
theorem drop_cons {l : List Nat} {k : Nat} (h : k < l.length) : ∃ g, l[k]? = some g ∧ g ∈ l ∧ l.drop k = g :: l.drop (k + 1) := ⟨l[k], List.getElem?_eq_getElem h, List.getElem_mem h, List.drop_eq_getElem_cons h⟩
theorem fr191 {M M' : Mem} (h : Fr (fun i _ => i = 191) M M') : Fr (mnS 191) M M' := h.mn (fun i k q => Or.inl q)
theorem offs_ref {C : Cf} {l : List Nat} {K16 : Int32 → Int32 → Mem → Option (Int32 × Mem)} {x2 : Int32} {Q : Int32 → Mem → Prop} (hC : COk C) (hl : ∀ g, g ∈ l → g < C.2.1) : ∀ (m i n : Nat) (M : Mem) (τ : Sm), i + m = l.length → m < n → CfR M C → StR M C → OrR M l → IsR C (M 191) τ → Ok C τ → τ.2.2.2.2 < 2 ^ 30 → (∀ M' i', IsR C (M' 191) (offs C (l.drop i) τ).1 → l.drop i' = (offs C (l.drop i) τ).2 → i' ≤ l.length → Fr (mnS 191) M M' → wp (f_X11_goDay_68 K16 (nI i') x2 M') Q) → wp (f_X11_goDay_23 K16 n (nI i) x2 M) Q
  | 0, i, n + 1, M, τ, he, _, hM, hT, hq, hR, hO, hB, hk => by
    have h6 := hq.1
    unfold f_X11_goDay_23
    rw [hq.2.1, if_neg (nI_nlt (by omega) (by omega))]
    have e : l.drop i = [] := List.drop_eq_nil_of_le (by omega)
    rw [e] at hk
    exact hk M i hR e (by omega) Fr.rf
  | m + 1, i, n + 1, M, τ, he, hn, hM, hT, hq, hR, hO, hB, hk => by
    have h6 := hq.1
    obtain ⟨g, g1, g2, g3⟩ := drop_cons (l := l) (k := i) (by omega)
    have hg := hl g g2
    unfold f_X11_goDay_23
    rw [hq.2.1, if_pos (nI_lt (by omega) (by omega)), gd_t (nI_inb (show i < 6 by omega) (by decide)), nI_clamp (by omega), hq.2.2 i g g1, ri_refuses hC hM hO.toM hR rfl hB hg, bd_e]
    rw [g3] at hk
    by_cases hb : bar C τ g = 0
    · rw [if_pos hb, wp_vl, gd_t (nI_inc (show i < 6 by omega) (by decide)), hq.2.2 i g g1, wp_bd]
      refine wp_mono (ri_goOff hC hM hT (Or.inr rfl) hR hg) (fun _ M1 h => ?_)
      obtain ⟨h1, h2⟩ := h
      have e : (off C τ g).2.2.2.2 = τ.2.2.2.2 := by rw [off_eq hC hg]
      rw [nI_1]
      rw [offs_t hb] at hk
      refine offs_ref hC hl m (i + 1) n M1 (off C τ g) (by omega) (by omega) (CfR.fr (Or.inr rfl) (fr191 h2) hM) (StR.fr (Or.inr rfl) (fr191 h2) hT) (hq.fr (fr191 h2)) (by unfold IsR; rw [e]; exact h1) (ok_off hC hO hg hb) (by rw [e]; exact hB) (fun M' i' a b c d => hk M' i' a b c ((fr191 h2).tr d))
    · rw [if_neg hb]
      rw [offs_f hb, ← g3] at hk
      exact hk M i hR rfl (by omega) Fr.rf
theorem areThrough_loop {C : Cf} {M : Mem} {τ : Sm} {l : List Nat} (hC : COk C) (hl : ∀ g, g ∈ l → g < C.2.1) (hq : OrR M l) (hR : IsR C (M 191) τ) (hO : Ok C τ) : ∀ (m k n : Nat), k + m = l.length → m < n → f_X11_areThrough_2 n (nI k) M = some (b2i (thr (l.drop k) τ = true), M)
  | 0, k, n + 1, he, _ => by
    have h6 := hq.1
    unfold f_X11_areThrough_2
    rw [hq.2.1, if_neg (nI_nlt (by omega) (by omega)), List.drop_eq_nil_of_le (by omega)]
    rfl
  | m + 1, k, n + 1, he, hn => by
    have h6 := hq.1
    have c2 := hC.2.1
    obtain ⟨g, g1, g2, g3⟩ := drop_cons (l := l) (k := k) (by omega)
    have hg := hl g g2
    have ih := areThrough_loop hC hl hq hR hO m (k + 1) n (by omega) (by omega)
    have hat := at_lt hC hO.toM g
    unfold f_X11_areThrough_2
    rw [hq.2.1, if_pos (nI_lt (by omega) (by omega)), gd_t (nI_inb (show k < 6 by omega) (by decide)), nI_clamp (show k < 2 ^ 31 by omega), hq.2.2 k g g1, gd_t (nI_inb (show g < 25 by omega) (by decide)), nI_clamp (by omega), hR.1 g hg, g3]
    show (if pI (τ.1 g) = 9 then f_X11_areThrough_2 n (nI k + 1) M else some (0, M)) = _
    by_cases z : τ.1 g = 10
    · rw [if_pos ((pI_9 (by omega)).mpr z), nI_1, ih]
      congr 3
      unfold thr
      rw [List.all_cons, beq_iff_eq.mpr z, Bool.true_and]
    · rw [if_neg (fun w => z ((pI_9 (by omega)).mp w)), b2i_f]
      unfold thr
      rw [List.all_cons, beq_eq_false_iff_ne.mpr z, Bool.false_and]
      decide
theorem areThrough_spec {C : Cf} {M : Mem} {τ : Sm} {l : List Nat} (hC : COk C) (hl : ∀ g, g ∈ l → g < C.2.1) (hq : OrR M l) (hR : IsR C (M 191) τ) (hO : Ok C τ) : f_X11_areThrough M = some (b2i (thr l τ = true), M) := by
  have h6 := hq.1
  exact areThrough_loop hC hl hq hR hO l.length 0 FU (by omega) (by show l.length < 2000; omega)
def GdP (C : Cf) (σ : Sm) (l : List Nat) (M0 : Mem) (r : Int32) (M' : Mem) : Prop := Fr (mnS 191) M0 M' ∧ ((∃ n, odv C σ l = some n ∧ r = nI n ∧ IsR C (M' 191) (od C σ l n)) ∨ (odv C σ l = none ∧ r = 1000000 ∧ IsR C (M' 191) (od C σ l 400)))
theorem goDay_loop {C : Cf} {σ : Sm} {l : List Nat} {M0 : Mem} (hC : COk C) (hO : Ok C σ) (hl : ∀ g, g ∈ l → g < C.2.1) (hB : σ.2.2.2.2 < 2 ^ 29) : ∀ (m k n i : Nat) (M : Mem), k + m = 400 → m < n → CfR M C → StR M C → OrR M l → IsR C (M 191) (od C σ l k) → (odS C k (σ, l)).2 = l.drop i → i ≤ l.length → (∀ j, j ≤ k → dnb C σ l j = false) → Fr (mnS 191) M0 M → wp (f_X11_goDay_16 n (nI i) (nI k) M) (GdP C σ l M0)
  | 0, k, n + 1, i, M, he, _, hM, hT, hq, hR, hd, hi, hn, hF => by
    have : k = 400 := by omega
    subst this
    unfold f_X11_goDay_16
    rw [if_neg (show ¬ nI 400 < 400 by decide), wp_s]
    exact ⟨hF, Or.inr ⟨dv_none.mpr hn, rfl, hR⟩⟩
  | m + 1, k, n + 1, i, M, he, hlt, hM, hT, hq, hR, hd, hi, hn, hF => by
    have h6 := hq.1
    obtain ⟨o1, o2, o3, o4⟩ := dS_inv hC k hO hl
    unfold f_X11_goDay_16
    rw [if_pos (show nI k < 400 from nI_lt (b := 400) (by omega) (by decide))]
    refine offs_ref hC hl (l.length - i) i FU M (od C σ l k) (by omega) (by show _ < 2000; omega) hM hT hq hR o1 (by unfold od; rw [o2]; omega) (fun M1 i' z1 z2 z3 z4 => ?_)
    have e1 : odS C (k + 1) (σ, l) = (minute C (offs C (l.drop i) (od C σ l k)).1, l.drop i') := by
      rw [dS_s, dS_1, hd, z2]; rfl
    have hOo : Ok C (offs C (l.drop i) (od C σ l k)).1 := (offs_inv hC (l.drop i) o1 (fun g hg => hl g (List.mem_of_mem_drop hg))).1
    unfold f_X11_goDay_68
    rw [wp_bd]
    refine wp_mono (gm_spec (Or.inr rfl) hC (CfR.fr (Or.inr rfl) z4 hM) (StR.fr (Or.inr rfl) z4 hT) z1 hOo) (fun _ M2 h => ?_)
    obtain ⟨r1, _, _, _, r2⟩ := h
    have f2 := z4.tr r2
    have hM2 := CfR.fr (Or.inr rfl) f2 hM
    have hT2 := StR.fr (Or.inr rfl) f2 hT
    have hq2 := hq.fr f2
    have eo : od C σ l (k + 1) = minute C (offs C (l.drop i) (od C σ l k)).1 := by unfold od; rw [e1]; rfl
    have hR2 : IsR C (M2 191) (od C σ l (k + 1)) := by rw [eo]; exact r1
    have ed : (odS C (k + 1) (σ, l)).2 = l.drop i' := by rw [e1]
    have on : dnb C σ l (k + 1) = false → wp (f_X11_goDay_95 (f_X11_goDay_16 n) (nI i') (nI k) M2) (GdP C σ l M0) := by
      intro w
      unfold f_X11_goDay_95
      rw [wp_vl, nI_1]
      refine goDay_loop hC hO hl hB m (k + 1) n i' M2 (by omega) (by omega) hM2 hT2 hq2 hR2 ed z3 (fun j hj => ?_) (hF.tr f2)
      by_cases q : j = k + 1
      · subst q; exact w
      · exact hn j (by omega)
    rw [hq2.2.1]
    by_cases w : i' = l.length
    · rw [if_pos (by rw [w]), areThrough_spec hC hl hq2 hR2 (dS_inv hC (k + 1) hO hl).1, bd_e]
      have e0 : (odS C (k + 1) (σ, l)).2 = [] := by rw [ed]; exact List.drop_eq_nil_of_le (by omega)
      by_cases y : thr l (od C σ l (k + 1)) = true
      · rw [b2i_t y, if_neg (by decide), wp_s, nI_1]
        refine ⟨hF.tr f2, Or.inl ⟨k + 1, dv_some.mpr ⟨by omega, dnb_t.mpr ⟨e0, thr_t.mp y⟩, fun j hj => hn j (by omega)⟩, rfl, hR2⟩⟩
      · rw [b2i_f y, if_pos rfl]
        refine on ?_
        rw [Bool.eq_false_iff]
        intro v
        exact y (thr_t.mpr (dnb_t.mp v).2)
    · rw [if_neg (fun y => w ((nI_eq (by omega) (by omega)).mp y))]
      refine on ?_
      rw [Bool.eq_false_iff]
      intro v
      have := (dnb_t.mp v).1
      rw [ed] at this
      have := List.drop_eq_nil_iff.mp this
      omega
theorem goDay_spec {C : Cf} {σ : Sm} {l : List Nat} {M : Mem} (hC : COk C) (hO : Ok C σ) (hl : ∀ g, g ∈ l → g < C.2.1) (hne : l ≠ []) (hB : σ.2.2.2.2 < 2 ^ 29) (hM : CfR M C) (hT : StR M C) (hq : OrR M l) (hR : IsR C (M 175) σ) : wp (f_X11_goDay M) (GdP C σ l M) := by
  unfold f_X11_goDay f_X11_goDay_0
  rw [wp_bd]
  refine wp_mono (lay_spec (a0 := 175) (a1 := 191) (k0 := 0) (by decide) rfl (by decide) (by decide)) (fun _ M1 h => ?_)
  obtain ⟨h1, _, h3⟩ := h
  have hF : Fr (mnS 191) M M1 := fun i k hn => by rw [h3 i (fun e => hn (Or.inl e))]
  refine goDay_loop hC hO hl hB 400 0 FU 0 M1 (by omega) (by decide) (CfR.fr (Or.inr rfl) hF hM) (StR.fr (Or.inr rfl) hF hT) (hq.fr hF) (IsR.eq hC.2.1 (fun k hk => by have := h1 k hk; rw [Nat.zero_add] at this; exact this) hR) rfl (Nat.zero_le _) (fun j hj => ?_) hF
  have : j = 0 := by omega
  subst this
  rw [Bool.eq_false_iff]
  intro v
  exact hne (dnb_t.mp v).1
/-- the sum of what those of the order waited -/
theorem sumB_one {p : Nat → Bool} {w : Nat → Nat} {g : Nat} (hg : g < 6) (hp : p g = false) : sumB (fun h => if h = g then true else p h) w = sumB p w + w g := by
  rw [sumB_eq, sumB_eq]
  match g, hg, hp with
  | 0, _, hp => rw [hp]; simp; omega
  | 1, _, hp => rw [hp]; simp; omega
  | 2, _, hp => rw [hp]; simp; omega
  | 3, _, hp => rw [hp]; simp; omega
  | 4, _, hp => rw [hp]; simp; omega
  | 5, _, hp => rw [hp]; simp
theorem waitedR_loop {C : Cf} {M : Mem} {σ τ : Sm} {l : List Nat} (hC : COk C) (hl : ∀ g, g ∈ l → g < C.2.1) (hl0 : ∀ g, g ∈ l → σ.1 g = 0) (hnd : l.Nodup) (hO : Ok C σ) (hq : OrR M l) (hR : IsR C (M 191) τ) (hR0 : IsR C (M 175) σ) : ∀ (m k n : Nat), k + m = l.length → m < n → f_X11_waitedByOrder_4 n (nI (sumB (lb (l.take k)) τ.2.2.1)) (nI k) M = some (nI (sumB (lb l) τ.2.2.1), M)
  | 0, k, n + 1, he, _ => by
    have h6 := hq.1
    unfold f_X11_waitedByOrder_4
    rw [hq.2.1, if_neg (nI_nlt (by omega) (by omega)), List.take_of_length_le (by omega)]
  | m + 1, k, n + 1, he, hn => by
    have h6 := hq.1
    have c2 := hC.2.1
    obtain ⟨g, g1, g2, g3, g4⟩ := get_some (l := l) (k := k) (by omega)
    have hg := hl g g2
    have ih := waitedR_loop hC hl hl0 hnd hO hq hR hR0 m (k + 1) n (by omega) (by omega)
    have e0 : M 175 (12 + g) = nI 0 := by rw [hR0.2.2.1 g hg, hO.2.2.2.1 g (hl0 g g2)]
    unfold f_X11_waitedByOrder_4
    rw [hq.2.1, if_pos (nI_lt (by omega) (by omega)), gd_t (nI_inb (show k < 6 by omega) (by decide)), nI_clamp (show k < 2 ^ 31 by omega), hq.2.2 k g g1, la12, gd_t (nI_inb (show 12 + g < 25 by omega) (by decide)), nI_clamp (show 12 + g < 2 ^ 31 by omega), hR.2.2.1 g hg]
    simp only [vl, gd_t (nI_inc (show k < 6 by omega) (show 6 ≤ 1000 by decide)), gd_t (nI_inc (show 12 + g < 25 by omega) (show 25 ≤ 1000 by decide)), e0]
    rw [show nI (τ.2.2.1 g) - nI 0 = nI (τ.2.2.1 g) from pk_sub (b := 0) (Nat.zero_le _), nI_add, nI_1, ← ih]
    have e : sumB (lb (l.take k)) τ.2.2.1 + τ.2.2.1 g = sumB (lb (l.take (k + 1))) τ.2.2.1 := by
      rw [← sumB_one (by omega) (show lb (l.take k) g = false from decide_eq_false (nodup_at hnd (by omega) g4))]
      refine sumB_ext (fun j _ => ?_)
      have : (if j = g then true else lb (l.take k) j) = lb (l.take (k + 1)) j := by
        unfold lb
        rw [g3]
        by_cases z : j = g
        · rw [if_pos z, decide_eq_true (by rw [z]; simp)]
        · rw [if_neg z, decide_eq_decide, mem_app1]
          exact ⟨Or.inl, fun w => w.elim id (fun w => absurd w z)⟩
      rw [this]
    rw [e]
theorem waitedR_spec {C : Cf} {M : Mem} {σ τ : Sm} {l : List Nat} (hC : COk C) (hl : ∀ g, g ∈ l → g < C.2.1) (hl0 : ∀ g, g ∈ l → σ.1 g = 0) (hnd : l.Nodup) (hO : Ok C σ) (hq : OrR M l) (hR : IsR C (M 191) τ) (hR0 : IsR C (M 175) σ) : f_X11_waitedByOrder M = some (nI (sumB (lb l) τ.2.2.1), M) := by
  have h6 := hq.1
  have e := waitedR_loop hC hl hl0 hnd hO hq hR hR0 l.length 0 FU (by omega) (by show l.length < 2000; omega)
  rw [List.take_zero, show sumB (lb []) τ.2.2.1 = 0 by rw [sumB_eq]; rfl] at e
  exact e
