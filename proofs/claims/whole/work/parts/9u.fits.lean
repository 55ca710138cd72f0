/-! what was heard: the reference, and which orders fit -/
def HrR (C : Cf) (M : Mem) (tg : Nat → Nat) (h : Nat) (hp hm ht : Nat → Nat) : Prop := h ≤ 12 ∧ M 174 52 = nI h ∧ (∀ i, i < h → hp i < C.1 ∧ 1 ≤ hm i ∧ hm i ≤ 300 ∧ ht i ≤ 5 ∧ M 200 (3 * i) = nI (hp i) ∧ M 200 (3 * i + 1) = nI (hm i) ∧ M 200 (3 * i + 2) = pI (ht i)) ∧ ∀ g, g < C.2.1 → tg g < 5 ∧ M 178 g = nI (tg g)
theorem HrR.eq {C : Cf} {M M' : Mem} {tg : Nat → Nat} {h : Nat} {hp hm ht : Nat → Nat} (e1 : M' 174 52 = M 174 52) (e : ∀ i k, i = 178 ∨ i = 200 → M' i k = M i k) (hh : HrR C M tg h hp hm ht) : HrR C M' tg h hp hm ht := by
  obtain ⟨a, b, c, d⟩ := hh
  refine ⟨a, e1.trans b, fun i hi => ?_, fun g hg => ⟨(d g hg).1, (e 178 g (by omega)).trans (d g hg).2⟩⟩
  obtain ⟨c1, c2, c3, c4, c5, c6, c7⟩ := c i hi
  exact ⟨c1, c2, c3, c4, (e 200 _ (by omega)).trans c5, (e 200 _ (by omega)).trans c6, (e 200 _ (by omega)).trans c7⟩
def lat (h : Nat) (hm : Nat → Nat) : Nat := foldF (fun i a => if a < hm i then hm i else a) h 0 0
theorem lat_le {h : Nat} {hm : Nat → Nat} (hb : ∀ i, i < h → hm i ≤ 300) : ∀ (m i a : Nat), i + m = h → a ≤ 300 → foldF (fun i a => if a < hm i then hm i else a) m i a ≤ 300
  | 0, _, a, _, ha => ha
  | m + 1, i, a, he, ha => by
    refine lat_le hb m (i + 1) _ (by omega) ?_
    have := hb i (by omega)
    show (if a < hm i then hm i else a) ≤ 300
    split <;> omega
theorem latC_loop {C : Cf} {M : Mem} {tg : Nat → Nat} {h : Nat} {hp hm ht : Nat → Nat} (hH : HrC C M tg h hp hm ht) : ∀ (m i n a : Nat), i + m = h → m < n → a ≤ 300 → f_X0_latest_4 n (nI a) (nI i) M = some (nI (foldF (fun i a => if a < hm i then hm i else a) m i a), M)
  | 0, i, n + 1, a, he, _, ha => by
    have := hH.1
    unfold f_X0_latest_4
    rw [hH.2.1, if_neg (nI_nlt (by omega) (by omega))]
    rfl
  | m + 1, i, n + 1, a, he, hn, ha => by
    have := hH.1
    obtain ⟨c1, c2, c3, c4, c5, c6, c7⟩ := hH.2.2.1 i (by omega)
    unfold f_X0_latest_4
    rw [hH.2.1, if_pos (nI_lt (by omega) (by omega)), gd_t (nI_inb (show i < 12 by omega) (by decide)), nI_clamp (by omega), c6]
    have e : (if nI a < nI (hm i) then nI (hm i) else nI a) = nI (if a < hm i then hm i else a) := by
      by_cases z : a < hm i
      · rw [if_pos (nI_lt z (by omega)), if_pos z]
      · rw [if_neg (nI_nlt (by omega) (by omega)), if_neg z]
    rw [e]
    show f_X0_latest_4 n (nI _) (nI i + 1) M = _
    rw [nI_1]
    exact latC_loop hH m (i + 1) n _ (by omega) (by omega) (by split <;> omega)
theorem latC {C : Cf} {M : Mem} {tg : Nat → Nat} {h : Nat} {hp hm ht : Nat → Nat} (hH : HrC C M tg h hp hm ht) : f_X0_latest M = some (nI (lat h hm), M) := by
  have := hH.1
  exact latC_loop hH h 0 FU 0 (by omega) (by show h < 2000; omega) (by omega)
theorem isHeard_loop {C : Cf} {M : Mem} {tg : Nat → Nat} {h : Nat} {hp hm ht : Nat → Nat} (hC : COk C) (hM : CfR M C) (hH : HrR C M tg h hp hm ht) {p : Nat → Bool} {k : Nat} (hk : k < h) : ∀ (m g n : Nat), g + m = C.2.1 → m < n → f_X11_isHeard_41 191 n (nI k) (bI p) (nI g) M = some (b2i ((fstF (fun g => p g && tg g + 1 == ht k) m g).isSome = true), M)
  | 0, g, n + 1, he, _ => by
    have := hC.2.1
    unfold f_X11_isHeard_41
    rw [hM.2.1, if_neg (nI_nlt (by omega) (by omega))]
    rfl
  | m + 1, g, n + 1, he, hn => by
    have c2 := hC.2.1
    have h12 := hH.1
    have ih := isHeard_loop hC hM hH (p := p) hk m (g + 1) n (by omega) (by omega)
    have hb : bit (bI p) (nI g) ↔ p g = true := by rw [bit_bI p (by omega)]; exact ⟨fun h => h.2, fun h => ⟨by omega, h⟩⟩
    obtain ⟨t1, t2⟩ := hH.2.2.2 g (by omega)
    obtain ⟨d1, d2, d3, d4, d5, d6, d7⟩ := hH.2.2.1 k hk
    unfold f_X11_isHeard_41 fstF
    rw [hM.2.1, if_pos (nI_lt (by omega) (by omega)), mhas_spec, bd_e]
    by_cases z : p g = true
    · rw [b2i_t (hb.mpr z), if_neg (by decide), gd_t (nI_inb (show g < 6 by omega) (by decide)), show (3 : Int32) * nI k + 2 = nI (3 * k + 2) by rw [show (3 : Int32) * nI k = nI (3 * k) from pk_mul 3 k]; exact nI_add _ 2, gd_t (nI_inb (show 3 * k + 2 < 36 by omega) (by decide)), nI_clamp (show g < 2 ^ 31 by omega), nI_clamp (show 3 * k + 2 < 2 ^ 31 by omega), t2, d7, z, Bool.true_and]
      by_cases y : tg g + 1 = ht k
      · rw [if_pos ((pI_nI (by omega) (by omega)).mpr y.symm).symm, if_pos (beq_iff_eq.mpr y)]
        rfl
      · rw [if_neg (fun q => y ((pI_nI (by omega) (by omega)).mp q.symm).symm), if_neg (fun q => y (beq_iff_eq.mp q))]
        show f_X11_isHeard_41 191 n (nI k) (bI p) (nI g + 1) M = _
        rw [nI_1]; exact ih
    · rw [b2i_f (fun w => z (hb.mp w)), if_pos rfl, if_neg (by rw [Bool.eq_false_iff.mpr z]; exact Bool.false_ne_true)]
      show f_X11_isHeard_41 191 n (nI k) (bI p) (nI g + 1) M = _
      rw [nI_1]; exact ih
theorem isHeard_spec {C : Cf} {M : Mem} {τ : Sm} {tg : Nat → Nat} {h : Nat} {hp hm ht : Nat → Nat} (hC : COk C) (hM : CfR M C) (hO : Ok C τ) (hR : IsR C (M 191) τ) (hH : HrR C M tg h hp hm ht) {k : Nat} (hk : k < h) : f_X11_isHeard 191 (nI k) M = some (b2i (sdB C.2.1 tg (fun g => τ.1 g == hp k + 1) (ht k) = true), M) := by
  have c1 := hC.1
  have c2 := hC.2.1
  have h12 := hH.1
  obtain ⟨d1, d2, d3, d4, d5, d6, d7⟩ := hH.2.2.1 k hk
  have e3 : (3 : Int32) * nI k = nI (3 * k) := pk_mul 3 k
  have e32 : nI (3 * k) + 2 = nI (3 * k + 2) := nI_add _ 2
  have eb : bI (fun g => decide (g < C.2.1) && τ.1 g == hp k + 1) = bI (fun g => τ.1 g == hp k + 1) := bI_ext (fun g _ => by
    by_cases z : g < C.2.1
    · rw [decide_eq_true z, Bool.true_and]
    · rw [decide_eq_false z, Bool.false_and, hO.2.1 g (by omega)]
      exact (beq_eq_false_iff_ne.mpr (by omega)).symm)
  unfold f_X11_isHeard f_X11_isHeard_0
  rw [e3, gd_t (nI_inb (show 3 * k < 36 by omega) (by decide)), nI_clamp (show 3 * k < 2 ^ 31 by omega), d5, show nI (hp k) = pI (hp k + 1) from (pI_s _).symm, ri_inRoom hC hM hO.toM hR rfl (by omega), bd_e, e32, gd_t (nI_inb (show 3 * k + 2 < 36 by omega) (by decide)), nI_clamp (show 3 * k + 2 < 2 ^ 31 by omega), d7, eb]
  unfold sdB
  by_cases z : ht k = 0
  · rw [if_pos ((pI_m1 (by omega)).mpr z), if_pos z]
    by_cases q : bI (fun g => τ.1 g == hp k + 1) = 0
    · rw [if_pos q, b2i_t (by simpa using q)]
      rfl
    · rw [if_neg q, b2i_f (by simpa using q)]
      rfl
  · rw [if_neg (fun q => z ((pI_m1 (by omega)).mp q)), if_neg z]
    exact isHeard_loop hC hM hH hk C.2.1 0 FU (by omega) (by show C.2.1 < 2000; omega)
def hvb (C : Cf) (σ : Sm) (L : Nat) (S : Nat → Sm → Bool) (l : List Nat) : Bool := (fstF (fun n => !(S (n + 1) (od C σ l (n + 1)))) L 0).isNone
theorem hvb_t {C : Cf} {σ : Sm} {L : Nat} {S : Nat → Sm → Bool} {l : List Nat} : hvb C σ L S l = true ↔ ∀ n, 1 ≤ n → n ≤ L → S n (od C σ l n) = true := by
  unfold hvb
  rw [Option.isNone_iff_eq_none, fstF_none]
  constructor
  · intro h n h1 h2
    have := h (n - 1) (Nat.zero_le _) (by omega)
    rw [show n - 1 + 1 = n by omega] at this
    simpa using this
  · intro h n _ h2
    rw [h (n + 1) (by omega) (by omega)]; rfl
theorem good_t {C : Cf} {σ : Sm} {L : Nat} {S : Nat → Sm → Bool} {l : List Nat} : good C σ L true S l ↔ hvb C σ L S l = true := by
  rw [hvb_t]
  constructor
  · rintro (⟨z, _⟩ | ⟨_, h⟩)
    · cases z
    · exact h
  · intro h; exact Or.inr ⟨rfl, h⟩
theorem offs_refH {C : Cf} {l : List Nat} {K49 : Int32 → Int32 → Int32 → Mem → Option (Int32 × Mem)} {x1 x3 : Int32} {Q : Int32 → Mem → Prop} (hC : COk C) (hl : ∀ g, g ∈ l → g < C.2.1) : ∀ (m i n : Nat) (M : Mem) (τ : Sm), i + m = l.length → m < n → CfR M C → StR M C → OrR M l → IsR C (M 191) τ → Ok C τ → τ.2.2.2.2 < 2 ^ 30 → (∀ M' i', IsR C (M' 191) (offs C (l.drop i) τ).1 → l.drop i' = (offs C (l.drop i) τ).2 → i' ≤ l.length → Fr (mnS 191) M M' → wp (f_X11_isOrderHeard_99 K49 x1 (nI i') x3 M') Q) → wp (f_X11_isOrderHeard_54 K49 n x1 (nI i) x3 M) Q
  | 0, i, n + 1, M, τ, he, _, hM, hT, hq, hR, hO, hB, hk => by
    have h6 := hq.1
    unfold f_X11_isOrderHeard_54
    rw [hq.2.1, if_neg (nI_nlt (by omega) (by omega))]
    have e : l.drop i = [] := List.drop_eq_nil_of_le (by omega)
    rw [e] at hk
    exact hk M i hR e (by omega) Fr.rf
  | m + 1, i, n + 1, M, τ, he, hn, hM, hT, hq, hR, hO, hB, hk => by
    have h6 := hq.1
    obtain ⟨g, g1, g2, g3⟩ := drop_cons (l := l) (k := i) (by omega)
    have hg := hl g g2
    unfold f_X11_isOrderHeard_54
    rw [hq.2.1, if_pos (nI_lt (by omega) (by omega)), gd_t (nI_inb (show i < 6 by omega) (by decide)), nI_clamp (by omega), hq.2.2 i g g1, ri_refuses hC hM hO.toM hR rfl hB hg, bd_e]
    rw [g3] at hk
    by_cases hb : bar C τ g = 0
    · rw [if_pos hb, wp_vl, gd_t (nI_inc (show i < 6 by omega) (by decide)), hq.2.2 i g g1, wp_bd]
      refine wp_mono (ri_goOff hC hM hT (Or.inr rfl) hR hg) (fun _ M1 h => ?_)
      obtain ⟨h1, h2⟩ := h
      have e : (off C τ g).2.2.2.2 = τ.2.2.2.2 := by rw [off_eq hC hg]
      rw [nI_1]
      rw [offs_t hb] at hk
      refine offs_refH hC hl m (i + 1) n M1 (off C τ g) (by omega) (by omega) (CfR.fr (Or.inr rfl) (fr191 h2) hM) (StR.fr (Or.inr rfl) (fr191 h2) hT) (hq.fr (fr191 h2)) (by unfold IsR; rw [e]; exact h1) (ok_off hC hO hg hb) (by rw [e]; exact hB) (fun M' i' a b c d => hk M' i' a b c ((fr191 h2).tr d))
    · rw [if_neg hb]
      rw [offs_f hb, ← g3] at hk
      exact hk M i hR rfl (by omega) Fr.rf
theorem ho110 {C : Cf} {M : Mem} {τ : Sm} {tg : Nat → Nat} {h : Nat} {hp hm ht : Nat → Nat} {K49 : Int32 → Int32 → Int32 → Mem → Option (Int32 × Mem)} {x1 x2 : Int32} {n : Nat} {Q : Int32 → Mem → Prop} (hn3 : n ≤ 1000) (hC : COk C) (hM : CfR M C) (hO : Ok C τ) (hR : IsR C (M 191) τ) (hH : HrR C M tg h hp hm ht) : ∀ (m k f : Nat), k + m = h → m < f → ((fstF (fun i => hm i == n && !(sdB C.2.1 tg (fun g => τ.1 g == hp i + 1) (ht i))) m k).isNone = true → wp (K49 x1 x2 (nI (n + 1)) M) Q) → ((fstF (fun i => hm i == n && !(sdB C.2.1 tg (fun g => τ.1 g == hp i + 1) (ht i))) m k).isNone = false → Q 0 M) → wp (f_X11_isOrderHeard_110 K49 f x1 x2 (nI n) (nI k) M) Q
  | 0, k, f + 1, he, _, h1, _ => by
    have h12 := hH.1
    unfold f_X11_isOrderHeard_110
    rw [hH.2.1, if_neg (nI_nlt (by omega) (by omega)), wp_vl, nI_1]
    exact h1 rfl
  | m + 1, k, f + 1, he, hf, h1, h0 => by
    have h12 := hH.1
    obtain ⟨d1, d2, d3, d4, d5, d6, d7⟩ := hH.2.2.1 k (by omega)
    have ih := ho110 (K49 := K49) (x1 := x1) (x2 := x2) (Q := Q) hn3 hC hM hO hR hH m (k + 1) f (by omega) (by omega)
    have e31 : (3 : Int32) * nI k + 1 = nI (3 * k + 1) := by rw [show (3 : Int32) * nI k = nI (3 * k) from pk_mul 3 k]; exact nI_add _ 1
    unfold f_X11_isOrderHeard_110
    unfold fstF at h1 h0
    rw [hH.2.1, if_pos (nI_lt (by omega) (by omega)), e31, gd_t (nI_inb (show 3 * k + 1 < 36 by omega) (by decide)), nI_clamp (show 3 * k + 1 < 2 ^ 31 by omega), d6]
    unfold f_X11_isOrderHeard_149
    by_cases q : hm k = n
    · rw [if_pos ((nI_eq (by omega) (by omega)).mpr q), isHeard_spec hC hM hO hR hH (by omega), bd_e]
      rw [beq_iff_eq.mpr q, Bool.true_and] at h1 h0
      by_cases z : sdB C.2.1 tg (fun g => τ.1 g == hp k + 1) (ht k) = true
      · rw [b2i_t z, if_neg (by decide), wp_vl, nI_1]
        rw [if_neg (by rw [z]; decide)] at h1 h0
        exact ih h1 h0
      · rw [b2i_f z, if_pos rfl, wp_s]
        rw [if_pos (by rw [Bool.eq_false_iff.mpr z]; rfl)] at h0
        exact h0 rfl
    · rw [if_neg (fun z => q ((nI_eq (by omega) (by omega)).mp z)), wp_vl, nI_1]
      rw [if_neg (by rw [beq_eq_false_iff_ne.mpr q]; exact Bool.false_ne_true)] at h1 h0
      exact ih h1 h0
theorem ho49 {C : Cf} {σ : Sm} {l : List Nat} {M0 : Mem} {tg : Nat → Nat} {h : Nat} {hp hm ht : Nat → Nat} {L : Nat} (hL : L ≤ 300) (hC : COk C) (hO : Ok C σ) (hl : ∀ g, g ∈ l → g < C.2.1) (hB : σ.2.2.2.2 < 2 ^ 29) : ∀ (m k f i : Nat) (M : Mem), k + m = L → m < f → CfR M C → StR M C → OrR M l → HrR C M tg h hp hm ht → IsR C (M 191) (od C σ l k) → (odS C k (σ, l)).2 = l.drop i → i ≤ l.length → (∀ n, 1 ≤ n → n ≤ k → Sh C.2.1 tg h hp hm ht n (od C σ l n) = true) → Fr (mnS 191) M0 M → wp (f_X11_isOrderHeard_49 f (nI L) (nI i) (nI (k + 1)) M) (fun r M' => r = b2i (hvb C σ L (Sh C.2.1 tg h hp hm ht) l = true) ∧ Fr (mnS 191) M0 M')
  | 0, k, f + 1, i, M, he, _, hM, hT, hq, hH, hR, hd, hi, hn, hF => by
    unfold f_X11_isOrderHeard_49
    rw [if_pos (nI_lt (by omega) (by omega)), wp_s]
    exact ⟨(b2i_t (hvb_t.mpr (fun n h1 h2 => hn n h1 (by omega)))).symm, hF⟩
  | m + 1, k, f + 1, i, M, he, hlt, hM, hT, hq, hH, hR, hd, hi, hn, hF => by
    have h6 := hq.1
    have h12 := hH.1
    obtain ⟨o1, o2, o3, o4⟩ := dS_inv hC k hO hl
    unfold f_X11_isOrderHeard_49
    rw [if_neg (nI_nlt (by omega) (by omega))]
    refine offs_refH hC hl (l.length - i) i FU M (od C σ l k) (by omega) (by show _ < 2000; omega) hM hT hq hR o1 (by unfold od; rw [o2]; omega) (fun M1 i' z1 z2 z3 z4 => ?_)
    have e1 : odS C (k + 1) (σ, l) = (minute C (offs C (l.drop i) (od C σ l k)).1, l.drop i') := by
      rw [dS_s, dS_1, hd, z2]; rfl
    have hOo : Ok C (offs C (l.drop i) (od C σ l k)).1 := (offs_inv hC (l.drop i) o1 (fun g hg => hl g (List.mem_of_mem_drop hg))).1
    unfold f_X11_isOrderHeard_99
    rw [wp_bd]
    refine wp_mono (gm_spec (Or.inr rfl) hC (CfR.fr (Or.inr rfl) z4 hM) (StR.fr (Or.inr rfl) z4 hT) z1 hOo) (fun _ M2 hh => ?_)
    obtain ⟨r1, _, _, _, r2⟩ := hh
    have f2 := z4.tr r2
    have hM2 := CfR.fr (Or.inr rfl) f2 hM
    have hT2 := StR.fr (Or.inr rfl) f2 hT
    have hq2 := hq.fr f2
    have hH2 : HrR C M2 tg h hp hm ht := hH.eq (f2 174 52 (by unfold mnS; omega)) (fun i k z => f2 i k (by unfold mnS; omega))
    have eo : od C σ l (k + 1) = minute C (offs C (l.drop i) (od C σ l k)).1 := by unfold od; rw [e1]; rfl
    have hR2 : IsR C (M2 191) (od C σ l (k + 1)) := by rw [eo]; exact r1
    have ed : (odS C (k + 1) (σ, l)).2 = l.drop i' := by rw [e1]
    have o5 : Ok C (od C σ l (k + 1)) := (dS_inv hC (k + 1) hO hl).1
    refine ho110 (by omega) hC hM2 o5 hR2 hH2 h 0 FU (by omega) (by show h < 2000; omega) (fun w => ?_) (fun w => ?_)
    · refine ho49 hL hC hO hl hB m (k + 1) f i' M2 (by omega) (by omega) hM2 hT2 hq2 hH2 hR2 ed z3 (fun n h1 h2 => ?_) (hF.tr f2)
      by_cases q : n = k + 1
      · subst q; exact w
      · exact hn n h1 (by omega)
    · refine ⟨(b2i_f (fun v => ?_)).symm, hF.tr f2⟩
      have := hvb_t.mp v (k + 1) (by omega) (by omega)
      unfold Sh at this
      rw [this] at w
      cases w
theorem latR_loop {C : Cf} {M : Mem} {tg : Nat → Nat} {h : Nat} {hp hm ht : Nat → Nat} {Q : Int32 → Mem → Prop} (hH : HrR C M tg h hp hm ht) : ∀ (m i n a : Nat), i + m = h → m < n → a ≤ 300 → wp (bd (f_X11_lay 175 191 0 M) fun _ M3 => f_X11_isOrderHeard_49 FU (nI (foldF (fun i a => if a < hm i then hm i else a) m i a)) 0 1 M3) Q → wp (f_X11_isOrderHeard_4 n (nI a) (nI i) M) Q
  | 0, i, n + 1, a, he, _, ha, hQ => by
    have := hH.1
    unfold f_X11_isOrderHeard_4
    rw [hH.2.1, if_neg (nI_nlt (by omega) (by omega))]
    exact hQ
  | m + 1, i, n + 1, a, he, hn, ha, hQ => by
    have := hH.1
    obtain ⟨c1, c2, c3, c4, c5, c6, c7⟩ := hH.2.2.1 i (by omega)
    have e31 : (3 : Int32) * nI i + 1 = nI (3 * i + 1) := by rw [show (3 : Int32) * nI i = nI (3 * i) from pk_mul 3 i]; exact nI_add _ 1
    unfold f_X11_isOrderHeard_4
    rw [hH.2.1, if_pos (nI_lt (by omega) (by omega)), e31, gd_t (nI_inb (show 3 * i + 1 < 36 by omega) (by decide)), nI_clamp (show 3 * i + 1 < 2 ^ 31 by omega), c6]
    have e : (if nI a < nI (hm i) then nI (hm i) else nI a) = nI (if a < hm i then hm i else a) := by
      by_cases z : a < hm i
      · rw [if_pos (nI_lt z (by omega)), if_pos z]
      · rw [if_neg (nI_nlt (by omega) (by omega)), if_neg z]
    rw [e, wp_vl, wp_vl, nI_1]
    exact latR_loop hH m (i + 1) n _ (by omega) (by omega) (by split <;> omega) hQ
theorem orderHeard_spec {C : Cf} {σ : Sm} {l : List Nat} {M : Mem} {tg : Nat → Nat} {h : Nat} {hp hm ht : Nat → Nat} (hC : COk C) (hO : Ok C σ) (hl : ∀ g, g ∈ l → g < C.2.1) (hB : σ.2.2.2.2 < 2 ^ 29) (hM : CfR M C) (hT : StR M C) (hq : OrR M l) (hR : IsR C (M 175) σ) (hH : HrR C M tg h hp hm ht) : wp (f_X11_isOrderHeard M) (fun r M' => r = b2i (hvb C σ (lat h hm) (Sh C.2.1 tg h hp hm ht) l = true) ∧ Fr (mnS 191) M M') := by
  have h12 := hH.1
  have hL : lat h hm ≤ 300 := lat_le (fun i hi => (hH.2.2.1 i hi).2.2.1) h 0 0 (by omega) (by omega)
  unfold f_X11_isOrderHeard f_X11_isOrderHeard_0
  refine latR_loop hH h 0 FU 0 (by omega) (by show h < 2000; omega) (by omega) ?_
  rw [wp_bd]
  refine wp_mono (lay_spec (a0 := 175) (a1 := 191) (k0 := 0) (by decide) rfl (by decide) (by decide)) (fun _ M1 hh => ?_)
  obtain ⟨h1, _, h3⟩ := hh
  have hF : Fr (mnS 191) M M1 := fun i k hn => by rw [h3 i (fun e => hn (Or.inl e))]
  exact ho49 hL hC hO hl hB (lat h hm) 0 FU 0 M1 (by omega) (by show lat h hm < 2000; omega) (CfR.fr (Or.inr rfl) hF hM) (StR.fr (Or.inr rfl) hF hT) (hq.fr hF) (hH.eq (hF 174 52 (by unfold mnS; omega)) (fun i k z => hF i k (by unfold mnS; omega))) (IsR.eq hC.2.1 (fun k hk => by have := h1 k hk; rw [Nat.zero_add] at this; exact this) hR) rfl (Nat.zero_le _) (fun n h1 h2 => by omega) hF
/-! all orders that fit -/
abbrev FSt : Type := Nat × Int32 × Int32 × List Nat
def ftS (C : Cf) (σ : Sm) (L : Nat) (S : Nat → Sm → Bool) (s : FSt) (l : List Nat) : FSt := if hvb C σ L S l = true then (s.1 + 1, s.2.1 ||| (1 <<< (nI (ga l 0) &&& 31)), s.2.2.1 ||| (1 <<< (nI (ga l (l.length - 1)) &&& 31)), if s.1 = 0 then l else s.2.2.2) else s
def FtS (C : Cf) (σ : Sm) (L : Nat) (S : Nat → Sm → Bool) (p : Nat → Bool) : FSt := (chain 720 (fl p 6)).foldl (ftS C σ L S) (0, 0, 0, [])
def cnB (c : Nat) (l : List Nat) : Prop := ∃ k, ends k l = true ∧ c + k ≤ 720
theorem cnB_lt {c : Nat} {l : List Nat} (h : cnB c l) : c < 720 := by
  obtain ⟨k, h1, h2⟩ := h
  cases k with
  | zero => cases h1
  | succ k => omega
theorem cnB_next {c c' : Nat} {l l' : List Nat} {q : Nat} (h : cnB c l) (hc : c' ≤ c + 1) (e : nxo l = some (q, l')) : cnB c' l' := by
  obtain ⟨k, h1, h2⟩ := h
  cases k with
  | zero => cases h1
  | succ k =>
    unfold ends at h1
    rw [e] at h1
    exact ⟨k, h1, by omega⟩
theorem ft_le (C : Cf) (σ : Sm) (L : Nat) (S : Nat → Sm → Bool) (s : FSt) (l : List Nat) : (ftS C σ L S s l).1 ≤ s.1 + 1 := by
  unfold ftS
  split
  · exact Nat.le_refl _
  · omega
def FtO (p : Nat → Bool) (s : FSt) : Prop := 0 < s.1 → InO p s.2.2.2
theorem ft_o {C : Cf} {σ : Sm} {L : Nat} {S : Nat → Sm → Bool} {p : Nat → Bool} {s : FSt} {l : List Nat} (h : FtO p s) (hl : InO p l) : FtO p (ftS C σ L S s l) := by
  unfold ftS
  split
  · intro _
    show InO p (if s.1 = 0 then l else s.2.2.2)
    split
    · exact hl
    · exact h (by omega)
  · exact h
