/-! the reference: where groups are, over the pure picture -/
def CfR (M : Mem) (C : Cf) : Prop := M 174 1 = nI C.1 ∧ M 174 3 = nI C.2.1 ∧ (∀ r, r < C.1 → M 176 r = b2i (C.2.2.1 r = true)) ∧ ∀ g, g < C.2.1 → M 180 g = b2i (C.2.2.2.1 g = true) ∧ M 177 g = nI (C.2.2.2.2.1 g)
def StR (M : Mem) (C : Cf) : Prop := ∀ g, g < C.2.1 → ∀ r, r < C.1 → M 187 (6 * g + r) = nI (C.2.2.2.2.2 g r)
theorem CfR.eq {M M' : Mem} {C : Cf} (h1 : M' 174 1 = M 174 1) (h2 : M' 174 3 = M 174 3) (h : ∀ i k, 176 ≤ i → i ≤ 180 → M' i k = M i k) (hc : CfR M C) : CfR M' C := by
  obtain ⟨a1, a2, a3, a4⟩ := hc
  refine ⟨h1.trans a1, h2.trans a2, fun r hr => (h 176 r (by decide) (by decide)).trans (a3 r hr), fun g hg => ?_⟩
  obtain ⟨b1, b2⟩ := a4 g hg
  exact ⟨(h 180 g (by decide) (by decide)).trans b1, (h 177 g (by decide) (by decide)).trans b2⟩
theorem StR.eq {M M' : Mem} {C : Cf} (h : M' 187 = M 187) (hc : StR M C) : StR M' C := fun g hg r hr => by rw [h]; exact hc g hg r hr
def IsRt (C : Cf) (f : Nat → Int32) (σ : Sm) (t : Nat) : Prop := (∀ g, g < C.2.1 → f g = pI (σ.1 g)) ∧ (∀ g, g < C.2.1 → f (6 + g) = nI (σ.2.1 g)) ∧ (∀ g, g < C.2.1 → f (12 + g) = nI (σ.2.2.1 g)) ∧ (∀ g, g < C.2.1 → f (18 + g) = pI (σ.2.2.2.1 g)) ∧ f 24 = nI t
def IsR (C : Cf) (f : Nat → Int32) (σ : Sm) : Prop := IsRt C f σ σ.2.2.2.2
theorem upS (M : Mem) (a p : Nat) (v : Int32) : up M a p v a = upd (M a) p v := by simp [up]
theorem rr_0 {f : Nat → Int32} {g v N : Nat} {e : Nat → Int32} {F : Nat → Nat} (h : ∀ k, k < N → f k = e (F k)) : ∀ k, k < N → upd f g (e v) k = e (fs F g v k) := by
  intro k hk
  by_cases q : k = g
  · subst q; rw [fs_s]; exact pk_us
  · rw [fs_n _ _ q, pk_un q]; exact h k hk
theorem rr_up {f : Nat → Int32} {o g v N : Nat} {e : Nat → Int32} {F : Nat → Nat} (h : ∀ k, k < N → f (o + k) = e (F k)) : ∀ k, k < N → upd f (o + g) (e v) (o + k) = e (fs F g v k) := by
  intro k hk
  by_cases q : k = g
  · subst q; rw [fs_s]; exact pk_us
  · rw [fs_n _ _ q, pk_un (by omega)]; exact h k hk
theorem rr_ne {f : Nat → Int32} {o p N : Nat} {x : Int32} {e : Nat → Int32} {F : Nat → Nat} (hd : ∀ k, k < N → o + k ≠ p) (h : ∀ k, k < N → f (o + k) = e (F k)) : ∀ k, k < N → upd f p x (o + k) = e (F k) := by
  intro k hk
  rw [pk_un (hd k hk)]; exact h k hk
theorem rr_n0 {f : Nat → Int32} {p N : Nat} {x : Int32} {e : Nat → Int32} {F : Nat → Nat} (hd : ∀ k, k < N → k ≠ p) (h : ∀ k, k < N → f k = e (F k)) : ∀ k, k < N → upd f p x k = e (F k) := by
  intro k hk
  rw [pk_un (hd k hk)]; exact h k hk
theorem nI_neq {g : Nat} (h : g < 2 ^ 31) : ¬ nI g = -1 := by
  intro z
  have := nbm h
  rw [show (-(nI 1) : Int32) = -1 from rfl] at this
  exact this.mp z
section NXR
variable {C : Cf} {M : Mem} {a : Nat} {σ : Sm} {t : Nat}
theorem ri_inside (hC : COk C) (hO : OkM C σ) (hR : IsRt C (M a) σ t) (hL : LN a = 25) {g : Nat} (hg : g < C.2.1) : f_X11_isInside a (nI g) M = some (b2i (ins (σ.1 g) = true), M) := by
  have c1 := hC.1
  have c2 := hC.2.1
  have hA : σ.1 g < 2 ^ 31 := by rcases hO.1 g with h | h <;> omega
  rw [misInside_spec a g M (by omega) (by omega)]
  have : (¬ M a g = -1 ∧ ¬ M a g = 9) ↔ ins (σ.1 g) = true := by
    rw [hR.1 g hg, pI_m1 hA, pI_9 hA, ins_t]
  congr 2
  unfold b2i
  simp only [this]
theorem ri_inRoom (hC : COk C) (hM : CfR M C) (hO : OkM C σ) (hR : IsRt C (M a) σ t) (hL : LN a = 25) {b : Nat} (hb : b < 2 ^ 30) : f_X11_inRoom a (pI b) M = some (bI (fun g => decide (g < C.2.1) && σ.1 g == b), M) := by
  have c1 := hC.1
  have c2 := hC.2.1
  rw [minRoom_spec a C.2.1 (pI b) M hM.2.1 (by omega) (by omega)]
  congr 2
  unfold bI
  refine foldF_to 0 c2 (fun k x hk => ?_) (fun k x h1 _ => ?_)
  · have hA : σ.1 k < 2 ^ 31 := by rcases hO.1 k with h | h <;> omega
    rw [hR.1 k hk]
    by_cases e : σ.1 k = b
    · rw [if_pos (by rw [e]), if_pos (by simp [hk, e])]
    · rw [if_neg (fun q => e ((pI_eq hA (by omega)).mp q)), if_neg (by simp [hk, e])]
  · rw [if_neg (by simp; omega)]
theorem bI_zero {p : Nat → Bool} : bI p = 0 ↔ ∀ g, g < 6 → p g = false := by
  constructor
  · intro h g hg
    rw [Bool.eq_false_iff]
    intro hp
    have := (bit_bI p (r := g) (by omega)).mpr ⟨hg, hp⟩
    rw [h] at this
    exact bit_0 (by omega) this
  · intro h
    rw [← bI_none]
    exact bI_ext h
theorem ri_ins (hC : COk C) (hM : CfR M C) (hO : OkM C σ) (hR : IsRt C (M a) σ t) (hL : LN a = 25) : f_X11_inside a M = some (bI (fun g => ins (σ.1 g)), M) := by
  have c1 := hC.1
  have c2 := hC.2.1
  rw [minside_spec a C.2.1 M hM.2.1 (by omega) (by omega)]
  congr 2
  unfold bI
  refine foldF_to 0 c2 (fun k x hk => ?_) (fun k x h1 _ => ?_)
  · have hA : σ.1 k < 2 ^ 31 := by rcases hO.1 k with h | h <;> omega
    rw [hR.1 k hk]
    have : (¬ pI (σ.1 k) = -1 ∧ ¬ pI (σ.1 k) = 9) ↔ ins (σ.1 k) = true := by rw [pI_m1 hA, pI_9 hA, ins_t]
    by_cases e : ins (σ.1 k) = true
    · rw [if_pos (this.mpr e), if_pos e]
    · rw [if_neg (fun q => e (this.mp q)), if_neg e]
  · rw [if_neg (by show ¬ ins (σ.1 k) = true; rw [hO.2.1 k h1]; decide)]
theorem ri_isRoom (hC : COk C) (hM : CfR M C) {k : Nat} (hk : k < 2 ^ 31) : f_X11_isRoom (nI k) M = some (b2i (k < C.1), M) := by
  have c1 := hC.1
  rw [isRoom_spec, hM.1]
  congr 2
  unfold b2i
  have e : (¬ nI k < 0 ∧ ¬ nI C.1 - 1 < nI k) ↔ k < C.1 := by
    by_cases h0 : C.1 = 0
    · rw [h0]
      constructor
      · rintro ⟨_, h⟩
        exact absurd (show nI 0 - 1 < nI k by rw [nI_m1, Int32.lt_iff_toInt_lt, nI_toInt hk]; have : (-1 : Int32).toInt = -1 := by decide
                                              omega) h
      · intro h; omega
    · rw [nI_sub1 (by omega), nI_ltI (by omega) hk]
      constructor
      · rintro ⟨_, h⟩; omega
      · intro h; exact ⟨nI_pos hk, by omega⟩
  simp only [e]
theorem ri_isRoomN (hC : COk C) (hM : CfR M C) {x : Int32} (hx : x < 0) : f_X11_isRoom x M = some (0, M) := by
  rw [isRoom_spec]
  congr 2
  exact b2i_f (fun h => h.1 hx)
theorem ri_next (hC : COk C) (hM : CfR M C) {g b : Nat} (hg : g < C.2.1) (hb : 0 < b ∧ b ≤ C.1) : f_X11_nextRoom (nI g) (pI b) M = some (pI (nx C g b), M) := by
  have c1 := hC.1
  have c2 := hC.2.1
  have hg6 : g < 6 := by omega
  unfold f_X11_nextRoom f_X11_nextRoom_0
  simp only [gd_t (nI_inc hg6 (show 6 ≤ 1000 by decide)), nI_clamp (show g < 2 ^ 31 by omega)]
  rw [(hM.2.2.2 g hg).1, show pI b = nI (b - 1) by rw [← pI_s, show b - 1 + 1 = b by omega]]
  unfold nx f_X11_nextRoom_18
  by_cases hB : C.2.2.2.1 g = true
  · rw [b2i_t hB, if_neg (by decide), if_pos hB]
    by_cases e1 : b = 1
    · subst e1
      rw [ri_isRoomN hC hM (by decide), if_pos rfl]
      rfl
    · rw [nI_sub1 (by omega), ri_isRoom hC hM (by omega), b2i_t (by omega), if_neg e1]
      show f_X11_nextRoom_33 (nI (b - 1 - 1)) M = _
      rw [← pI_s, show b - 1 - 1 + 1 = b - 1 by omega]
      rfl
  · rw [b2i_f hB, if_pos rfl, if_neg hB, nI_1, ri_isRoom hC hM (by omega)]
    by_cases e1 : b = C.1
    · rw [b2i_f (by omega), if_pos e1]
      rfl
    · rw [b2i_t (by omega), if_neg e1]
      show f_X11_nextRoom_33 (nI (b - 1 + 1)) M = _
      rw [← pI_s, show b - 1 + 1 + 1 = b + 1 by omega]
      rfl
theorem ri_free (hC : COk C) (hM : CfR M C) (hO : OkM C σ) (hR : IsRt C (M a) σ t) (hL : LN a = 25) {b : Nat} (hb : (0 < b ∧ b ≤ C.1) ∨ b = 10) : f_X11_isFree a (pI b) M = some (b2i (free C σ.1 b = true), M) := by
  have c1 := hC.1
  have c2 := hC.2.1
  have h1 : ∀ x : Int32, x = 0 ∨ x = 1 → gd (x = 0 ∨ x = 1) (some (x, M)) = some (x, M) := fun x hx => gd_t hx
  unfold f_X11_isFree f_X11_isFree_0 f_X11_isFree_24 f_X11_isFree_29
  rw [h1 1 (by decide)]
  by_cases e10 : b = 10
  · subst e10
    rw [if_pos (by decide)]
    rfl
  · have hb2 : 0 < b ∧ b ≤ C.1 := by
      rcases hb with h | h
      · exact h
      · exact absurd h e10
    rw [if_neg (fun q => e10 ((pI_9 (by omega)).mp q)), ri_inRoom hC hM hO hR hL (by omega), show pI b = nI (b - 1) by rw [← pI_s, show b - 1 + 1 = b by omega]]
    simp only [gd_t (nI_inc (show b - 1 < 6 by omega) (show 6 ≤ 1000 by decide)), nI_clamp (show b - 1 < 2 ^ 31 by omega)]
    rw [hM.2.2.1 (b - 1) (by omega)]
    unfold free
    have eb : (b == 10) = false := by rw [Bool.eq_false_iff]; intro h; exact e10 (beq_iff_eq.mp h)
    rw [eb]
    by_cases hc : C.2.2.1 (b - 1) = true
    · rw [b2i_t hc, if_neg (by decide), hc]
      rfl
    · rw [b2i_f hc, if_pos rfl, Bool.eq_false_iff.mpr hc]
      have ho : bI (fun g => decide (g < C.2.1) && σ.1 g == b) = 0 ↔ occ σ.1 b = false := by
        rw [bI_zero, ← Bool.not_eq_true, occ_t]
        constructor
        · rintro h ⟨g, hg, e⟩
          have h2 := h g hg
          have hg2 : g < C.2.1 := by
            apply Classical.byContradiction
            intro hn
            have := hO.2.1 g (by omega)
            omega
          simp [hg2, e] at h2
        · intro h g hg
          rw [Bool.eq_false_iff]
          intro hp
          have hp2 := Bool.and_eq_true_iff.mp hp
          exact h ⟨g, hg, beq_iff_eq.mp hp2.2⟩
      rw [bd_e]
      by_cases hz : bI (fun g => decide (g < C.2.1) && σ.1 g == b) = 0
      · rw [if_pos hz, ho.mp hz]
        rfl
      · rw [if_neg hz]
        have : occ σ.1 b = true := by
          cases h : occ σ.1 b with
          | true => rfl
          | false => exact absurd (ho.mpr h) hz
        rw [this]
        rfl
theorem ri_first (hC : COk C) (hM : CfR M C) {g : Nat} (hg : g < C.2.1) : f_X11_firstRoom (nI g) M = some (pI (frm C g), M) := by
  have c1 := hC.1
  have c2 := hC.2.1
  have h0 : 0 < C.1 := hC.2.2.2.1 (by omega)
  have hg6 : g < 6 := by omega
  unfold f_X11_firstRoom f_X11_firstRoom_0 frm
  simp only [gd_t (nI_inc hg6 (show 6 ≤ 1000 by decide)), nI_clamp (show g < 2 ^ 31 by omega)]
  rw [(hM.2.2.2 g hg).1, hM.1]
  by_cases hB : C.2.2.2.1 g = true
  · rw [b2i_t hB, if_neg (by decide), if_pos hB]
    rfl
  · rw [b2i_f hB, if_pos rfl, if_neg hB]
    rfl
theorem ri_isGroup (hC : COk C) (hM : CfR M C) (x : Int32) : (∃ g, g < C.2.1 ∧ x = nI g ∧ f_X11_isGroup x M = some (1, M)) ∨ ((∀ g, g < C.2.1 → x ≠ nI g) ∧ f_X11_isGroup x M = some (0, M)) := by
  have c2 := hC.2.1
  rw [isGroup_spec, hM.2.1]
  by_cases hx : x < 0
  · right
    refine ⟨fun g hg e => ?_, ?_⟩
    · subst e; exact nI_pos (by omega) hx
    · rw [b2i_f (fun h => h.1 hx)]
  · obtain ⟨j, hj, rfl⟩ := nI_of hx
    by_cases hlt : j < C.2.1
    · left
      refine ⟨j, hlt, rfl, ?_⟩
      rw [b2i_t ⟨hx, by rw [nI_sub1 (by omega)]; exact nI_nlt (by omega) (by omega)⟩]
    · right
      refine ⟨fun g hg e => ?_, ?_⟩
      · have := (nI_eq hj (by omega)).mp e
        omega
      · rw [b2i_f]
        rintro ⟨_, h⟩
        apply h
        by_cases h0 : C.2.1 = 0
        · rw [h0, nI_m1, Int32.lt_iff_toInt_lt, nI_toInt hj]
          have : (-1 : Int32).toInt = -1 := by decide
          omega
        · rw [nI_sub1 (by omega)]
          exact nI_lt (by omega) hj
theorem ri_refuses (hC : COk C) (hM : CfR M C) (hO : OkM C σ) (hR : IsR C (M a) σ) (hL : LN a = 25) (hB : σ.2.2.2.2 < 2 ^ 30) {g : Nat} (hg : g < C.2.1) : f_X11_refusesOff a (nI g) M = some (bar C σ g, M) := by
  have c1 := hC.1
  have c2 := hC.2.1
  have h0 : 0 < C.1 := hC.2.2.2.1 (by omega)
  have hg6 : g < 6 := by omega
  have hA : σ.1 g < 2 ^ 31 := by rcases hO.1 g with h | h <;> omega
  have hcm : C.2.2.2.2.1 g < 2 ^ 31 := by have := hC.2.2.2.2 g; omega
  unfold f_X11_refusesOff f_X11_refusesOff_0 f_X11_refusesOff_55 bar
  rcases ri_isGroup hC hM (nI g) with ⟨g', _, _, e⟩ | ⟨e, _⟩
  · rw [e, bd_e, if_neg (by decide), hL]
    simp only [gd_t (nI_inc hg6 (show 6 ≤ 1000 by decide)), gd_t (nI_inc (show g < 25 by omega) (show 25 ≤ 1000 by decide)), nI_clamp (show g < 2 ^ 31 by omega), c24]
    rw [hR.1 g hg, hR.2.2.2.2, (hM.2.2.2 g hg).2, ri_first hC hM hg, bd_e, ri_free hC hM hO hR hL (Or.inl (frm_ok h0)), bd_e, gd_t (by decide)]
    by_cases e : σ.1 g = 0
    · rw [if_pos ((pI_m1 hA).mpr e), if_pos e]
      by_cases e2 : σ.2.2.2.2 < C.2.2.2.2.1 g
      · rw [if_pos ((nI_ltI (by omega) hcm).mpr e2), if_pos e2]
      · rw [if_neg (fun q => e2 ((nI_ltI (by omega) hcm).mp q)), if_neg e2]
        by_cases e3 : free C σ.1 (frm C g) = true
        · rw [b2i_t e3, if_neg (by decide), if_pos e3]
        · rw [b2i_f e3, if_pos rfl, if_neg e3]
    · rw [if_neg (fun q => e ((pI_m1 hA).mp q)), if_neg e]
  · exact absurd rfl (e g hg)
theorem put_in {C : Cf} {σ : Sm} {g b : Nat} (h : b ≠ 10) : put C σ g b = (fs σ.1 g b, fs σ.2.1 g (C.2.2.2.2.2 g (b - 1)), σ.2.2.1, σ.2.2.2.1, σ.2.2.2.2) := if_neg h
theorem put_out {C : Cf} {σ : Sm} {g : Nat} : put C σ g 10 = (fs σ.1 g 10, fs σ.2.1 g 0, σ.2.2.1, fs σ.2.2.2.1 g (σ.2.2.2.2 + 1), σ.2.2.2.2) := if_pos rfl
theorem rt_in (hC : COk C) (hR : IsRt C (M a) σ t) {g b : Nat} (hg : g < C.2.1) (h : b ≠ 10) : IsRt C (upd (upd (M a) g (pI b)) (6 + g) (nI (C.2.2.2.2.2 g (b - 1)))) (put C σ g b) t := by
  have c2 := hC.2.1
  obtain ⟨h1, h2, h3, h4, h5⟩ := hR
  rw [put_in h]
  exact ⟨rr_n0 (fun k hk => by omega) (rr_0 h1), rr_up (rr_ne (fun k hk => by omega) h2), rr_ne (fun k hk => by omega) (rr_ne (fun k hk => by omega) h3), rr_ne (fun k hk => by omega) (rr_ne (fun k hk => by omega) h4), by rw [pk_un (by omega), pk_un (by omega)]; exact h5⟩
theorem ri_goOff (hC : COk C) (hM : CfR M C) (hT : StR M C) (ha : a = 175 ∨ a = 191) (hR : IsRt C (M a) σ t) {g : Nat} (hg : g < C.2.1) : wp (f_X11_goOff a (nI g) M) (fun _ M' => IsRt C (M' a) (off C σ g) t ∧ Fr (fun i _ => i = a) M M') := by
  have c1 := hC.1
  have c2 := hC.2.1
  have hL : LN a = 25 := by rcases ha with rfl | rfl <;> rfl
  have h0 : 0 < C.1 := hC.2.2.2.1 (by omega)
  have hf := frm_ok (g := g) h0
  unfold f_X11_goOff f_X11_goOff_0
  rw [ri_first hC hM hg, bd_e, hL]
  simp only [gd_t (nI_inc (show g < 25 by omega) (show 25 ≤ 1000 by decide)), nI_clamp (show g < 2 ^ 31 by omega), ml, vl, up_self, show pI (frm C g) = nI (frm C g - 1) by rw [← pI_s, show frm C g - 1 + 1 = frm C g by omega], lm6, la6, la12, la18, nI_add, nI_clamp (show 6 * g + (frm C g - 1) < 2 ^ 31 by omega), nI_clamp (show 6 + g < 2 ^ 31 by omega)]
  rw [gd_t (nI_inc (by omega) (by decide)), gd_t (nI_inc (by omega) (by decide)), wp_s, up_row _ _ _ (show 187 ≠ a by omega), hT g hg (frm C g - 1) (by omega), show nI (frm C g - 1) = pI (frm C g) by rw [← pI_s, show frm C g - 1 + 1 = frm C g by omega]]
  refine ⟨?_, Fr.up (S := fun i _ => i = a) (Fr.up (S := fun i _ => i = a) Fr.rf rfl) rfl⟩
  rw [upS, upS]
  exact rt_in hC hR hg (by omega)
theorem ri_nextLoop (hC : COk C) (hM : CfR M C) (hO : OkM C σ) (hR : IsRt C (M a) σ t) (hL : LN a = 25) : ∀ (m g n : Nat), g + m = C.2.1 → m < n → f_X11_nextStep_2 a n (nI g) M = some (fI (fstF (can C σ) m g), M)
  | 0, g, n + 1, h, _ => by
    have c2 := hC.2.1
    unfold f_X11_nextStep_2
    rw [hM.2.1, if_neg (nI_nlt (by omega) (by omega))]
    rfl
  | m + 1, g, n + 1, h, hn => by
    have c1 := hC.1
    have c2 := hC.2.1
    have ih := ri_nextLoop hC hM hO hR hL m (g + 1) n (by omega) (by omega)
    have hl9 := hO.2.2.2.2.1 g
    have no : can C σ g = false → f_X11_nextStep_46 (f_X11_nextStep_2 a n) a (nI g) M = some (fI (fstF (can C σ) (m + 1) g), M) := by
      intro hc
      unfold f_X11_nextStep_46 fstF
      rw [if_neg (by rw [hc]; decide)]
      simp only [vl, nI_1]
      exact ih
    unfold f_X11_nextStep_2
    rw [hM.2.1, if_pos (nI_lt (by omega) (by omega)), ri_inside hC hO hR hL (by omega), bd_e, hL]
    by_cases hi : ins (σ.1 g) = true
    · have hl := ins_le hO hi
      rw [b2i_t hi, if_neg (by decide)]
      simp only [gd_t (nI_inc (show g < 25 by omega) (show 25 ≤ 1000 by decide)), nI_clamp (show g < 2 ^ 31 by omega), la6, la12, la18, nI_clamp (show 6 + g < 2 ^ 31 by omega), gd_t (nI_inc (show 6 + g < 25 by omega) (show 25 ≤ 1000 by decide))]
      rw [hR.1 g (by omega), hR.2.1 g (by omega), ri_next hC hM (by omega) hl, bd_e, ri_free hC hM hO hR hL (nx_ok hl), bd_e]
      by_cases hl0 : σ.2.1 g = 0
      · rw [hl0, if_pos nI_0]
        by_cases hf : free C σ.1 (nx C g (σ.1 g)) = true
        · rw [b2i_t hf, if_neg (by decide)]
          unfold fstF
          rw [if_pos (can_t.mpr ⟨hi, hl0, hf⟩)]
          rfl
        · rw [b2i_f hf, if_pos rfl]
          exact no (Bool.eq_false_iff.mpr (fun z => hf (can_t.mp z).2.2))
      · rw [if_neg (fun q => hl0 ((nI_eq (by omega) (by decide)).mp (q.trans nI_0.symm)))]
        exact no (Bool.eq_false_iff.mpr (fun z => hl0 (can_t.mp z).2.1))
    · rw [b2i_f hi, if_pos rfl]
      exact no (Bool.eq_false_iff.mpr (fun z => hi (can_t.mp z).1))
theorem ri_nextStep (hC : COk C) (hM : CfR M C) (hO : OkM C σ) (hR : IsRt C (M a) σ t) (hL : LN a = 25) : f_X11_nextStep a M = some (fI (first C σ), M) := by
  have c2 := hC.2.1
  exact ri_nextLoop hC hM hO hR hL C.2.1 0 FU (by omega) (by show C.2.1 < 2000; omega)
end NXR
/-- what a minute of the reference may change -/
def mnS (a : Nat) : Nat → Nat → Prop := fun i k => i = a ∨ (i = 174 ∧ (k = 30 ∨ k = 31 ∨ k = 32))
theorem CfR.fr {M M' : Mem} {C : Cf} {a : Nat} (ha : a = 175 ∨ a = 191) (h : Fr (mnS a) M M') (hc : CfR M C) : CfR M' C := CfR.eq (h 174 1 (by unfold mnS; omega)) (h 174 3 (by unfold mnS; omega)) (fun i k _ _ => h i k (by unfold mnS; omega)) hc
theorem StR.fr {M M' : Mem} {C : Cf} {a : Nat} (ha : a = 175 ∨ a = 191) (h : Fr (mnS a) M M') (hc : StR M C) : StR M' C := StR.eq (funext fun k => h 187 k (by unfold mnS; omega)) hc
theorem gm172 {C : Cf} {M0 : Mem} {a t : Nat} {τ : Sm} {x2 x4 : Int32} (ha : a = 175 ∨ a = 191) (hC : COk C) (hO : OkM C τ) (M : Mem) (hM : CfR M C) (hR : IsRt C (M a) τ t) (h2 : M 174 30 = x2) (h3 : M 174 31 = 0) (h4 : M 174 32 = x4) (hF : Fr (mnS a) M0 M) : wp (f_X11_goMinute_172 a FU 0 M) (fun _ M' => IsRt C (M' a) (fin τ) t ∧ M' 174 30 = x2 ∧ M' 174 31 = bI (wtb τ) ∧ M' 174 32 = x4 ∧ Fr (mnS a) M0 M') := by
  have c1 := hC.1
  have c2 := hC.2.1
  have hL : LN a = 25 := by rcases ha with rfl | rfl <;> rfl
  refine wp_for (α := Unit) (fun n _ x M => f_X11_goMinute_172 a n x M) C.2.1 (fun g _ M => CfR M C ∧ IsRt C (M a) (finTo g τ) t ∧ M 174 30 = x2 ∧ M 174 31 = foldF (fun h a => if wtb τ h = true then obit h a else a) g 0 0 ∧ M 174 32 = x4 ∧ Fr (mnS a) M0 M) _ (fun n g _ M hg hI k => ?_) (fun n _ M hI => ?_) C.2.1 0 FU () M (by omega) (by show C.2.1 < 2000; omega) ⟨hM, by rw [finTo_0]; exact hR, h2, h3, h4, hF⟩
  · obtain ⟨hM, hR, h2, h3, h4, hF⟩ := hI
    have hl9 := hO.2.2.2.2.1 g
    have no : wtb τ g = false → wp (f_X11_goMinute_223 (f_X11_goMinute_172 a n) a (nI g) M) (fun _ M' => IsRt C (M' a) (fin τ) t ∧ M' 174 30 = x2 ∧ M' 174 31 = bI (wtb τ) ∧ M' 174 32 = x4 ∧ Fr (mnS a) M0 M') := by
      intro hw
      have hw2 : ¬ wtb τ g = true := by rw [hw]; decide
      unfold f_X11_goMinute_223
      rw [wp_vl, nI_1]
      refine k () M ⟨hM, by rw [finTo_n hw2]; exact hR, h2, ?_, h4, hF⟩
      rw [foldF_last, Nat.zero_add, if_neg hw2]
      exact h3
    have hO2 : OkM C (finTo g τ) ∨ True := Or.inr trivial
    have hin : f_X11_isInside a (nI g) M = some (b2i (ins (τ.1 g) = true), M) := by
      have hA : τ.1 g < 2 ^ 31 := by rcases hO.1 g with h | h <;> omega
      rw [misInside_spec a g M (by omega) (by omega)]
      have : (¬ M a g = -1 ∧ ¬ M a g = 9) ↔ ins (τ.1 g) = true := by
        rw [hR.1 g hg, show (finTo g τ).1 g = τ.1 g from rfl, pI_m1 hA, pI_9 hA, ins_t]
      congr 2
      unfold b2i
      simp only [this]
    show wp (f_X11_goMinute_172 a (n + 1) (nI g) M) _
    unfold f_X11_goMinute_172
    rw [hM.2.1, if_pos (nI_lt (by omega) (by omega)), hin, bd_e, hL]
    by_cases hi : ins (τ.1 g) = true
    · rw [b2i_t hi, if_neg (by decide)]
      simp only [la6, la12, la18, nI_clamp (show 6 + g < 2 ^ 31 by omega), gd_t (nI_inc (show 6 + g < 25 by omega) (show 25 ≤ 1000 by decide)), nI_clamp (show 12 + g < 2 ^ 31 by omega), gd_t (nI_inc (show 12 + g < 25 by omega) (show 25 ≤ 1000 by decide)), ml]
      rw [hR.2.1 g hg, show (finTo g τ).2.1 g = τ.2.1 g from rfl]
      by_cases hl0 : τ.2.1 g = 0
      · have hw : wtb τ g = true := by unfold wtb; rw [hi, hl0]; rfl
        have ew : (finTo g τ).2.2.1 g = τ.2.2.1 g := by
          show (if wtb τ g = true ∧ g < g then τ.2.2.1 g + 1 else τ.2.2.1 g) = _
          rw [if_neg (fun q => by omega)]
        rw [hl0, if_neg (by decide), up_row _ _ _ (show a ≠ 174 by omega), hR.2.2.1 g hg, ew, nI_1]
        unfold f_X11_goMinute_223
        rw [wp_vl, nI_1]
        obtain ⟨a1, a2, a3, a4, a5⟩ := hR
        refine k () _ ⟨?_, ?_, ?_, ?_, ?_, (hF.up (Or.inr ⟨rfl, by omega⟩)).up (Or.inl rfl)⟩
        · exact CfR.fr ha ((Fr.rf.up (Or.inr ⟨rfl, by omega⟩)).up (Or.inl rfl)) hM
        · rw [upS, up_row _ _ _ (show a ≠ 174 by omega)]
          refine ⟨rr_n0 (fun k hk => by omega) a1, rr_ne (fun k hk => by omega) a2, ?_, rr_ne (fun k hk => by omega) a4, ?_⟩
          · rw [← finTo_s hw]; exact rr_up a3
          · rw [pk_un (by omega)]; exact a5
        · rw [up_row _ _ _ (show 174 ≠ a by omega), up_col _ _ _ (by decide)]; exact h2
        · rw [up_row _ _ _ (show 174 ≠ a by omega), up_self, foldF_last, Nat.zero_add, if_pos hw, h3]; rfl
        · rw [up_row _ _ _ (show 174 ≠ a by omega), up_col _ _ _ (by decide)]; exact h4
      · rw [if_pos (nIp (by omega) (by omega))]
        refine no ?_
        unfold wtb
        rw [Bool.and_eq_false_iff]
        right
        rw [Bool.eq_false_iff]
        intro h; exact hl0 (beq_iff_eq.mp h)
    · rw [b2i_f hi, if_pos rfl]
      exact no (by unfold wtb; rw [Bool.eq_false_iff.mpr hi]; rfl)
  · obtain ⟨hM, hR, h2, h3, h4, hF⟩ := hI
    show wp (f_X11_goMinute_172 a (n + 1) (nI C.2.1) M) _
    unfold f_X11_goMinute_172
    rw [hM.2.1, if_neg (nI_nlt (Nat.le_refl _) (by omega)), wp_s]
    obtain ⟨a1, a2, a3, a4, a5⟩ := hR
    rw [wb_all hC hO] at h3
    exact ⟨⟨a1, a2, by rw [← finTo_all hO]; exact a3, a4, a5⟩, h2, h3, h4, hF⟩
/-- who got through since ρ -/
def gotB (ρ τ : Sm) (g : Nat) : Bool := τ.1 g == 10 && !(ρ.1 g == 10)
theorem run_step {C : Cf} {q : Sm × (Nat → Bool)} {g : Nat} (hC : COk C) (hO : OkM C q.1) (e : first C q.1 = some g) : run C 36 (step C q.1 g, fun h => if h = g then true else q.2 h) = run C 36 q := by
  have hm := mu_step hC hO e
  have hl := mu_le hC hO
  have e1 : run C 36 q = run C 35 (step C q.1 g, fun h => if h = g then true else q.2 h) := by
    conv => lhs; unfold run
    rw [e]
  rw [e1]
  exact run_more hC 36 35 _ (okm_step hC hO e) (by show mu C (step C q.1 g) ≤ 36; omega) (by show mu C (step C q.1 g) ≤ 35; omega)
theorem gm72 {C : Cf} {M0 : Mem} {a t : Nat} {ρ : Sm} {R p : Sm × (Nat → Bool)} (ha : a = 175 ∨ a = 191) (hC : COk C) (hp : OkM C p.1) (hR : run C 36 p = R) (hρ : ∀ g, ρ.1 g = 10 → p.1.1 g = 10) (ht : t = p.1.2.2.2.2 + 1) (M : Mem) (hM : CfR M C) (hT : StR M C) (hS : IsRt C (M a) p.1 t) (h2 : M 174 30 = bI p.2) (h3 : M 174 31 = 0) (h4 : M 174 32 = bI (gotB ρ p.1)) (hF : Fr (mnS a) M0 M) : wp (f_X11_goMinute_72 a FU (fI (first C p.1)) M) (fun _ M' => IsRt C (M' a) (fin R.1) t ∧ M' 174 30 = bI R.2 ∧ M' 174 31 = bI (wtb R.1) ∧ M' 174 32 = bI (gotB ρ R.1) ∧ Fr (mnS a) M0 M') := by
  have c1 := hC.1
  have c2 := hC.2.1
  have hL : LN a = 25 := by rcases ha with rfl | rfl <;> rfl
  refine wp_meas (α := Int32) (fun n x M => f_X11_goMinute_72 a n x M) (fun m x M => ∃ q : Sm × (Nat → Bool), OkM C q.1 ∧ mu C q.1 ≤ m ∧ run C 36 q = R ∧ (∀ g, ρ.1 g = 10 → q.1.1 g = 10) ∧ t = q.1.2.2.2.2 + 1 ∧ x = fI (first C q.1) ∧ CfR M C ∧ StR M C ∧ IsRt C (M a) q.1 t ∧ M 174 30 = bI q.2 ∧ M 174 31 = 0 ∧ M 174 32 = bI (gotB ρ q.1) ∧ Fr (mnS a) M0 M) _ (fun n m x M hI k => ?_) FU 36 (fI (first C p.1)) M (by decide) ⟨p, hp, mu_le hC hp, hR, hρ, ht, rfl, hM, hT, hS, h2, h3, h4, hF⟩
  obtain ⟨q, hO, hm, hR, hρ, ht, rfl, hM, hT, hS, h2, h3, h4, hF⟩ := hI
  show wp (f_X11_goMinute_72 a (n + 1) (fI (first C q.1)) M) _
  unfold f_X11_goMinute_72
  cases e : first C q.1 with
  | none =>
    rw [if_pos (show fI none = -1 from rfl)]
    have eR : q = R := by
      rw [← hR]
      unfold run; rw [e]
    rw [← eR]
    exact gm172 ha hC hO M hM hS h2 h3 h4 hF
  | some g =>
    obtain ⟨f1, f2, f3, f4⟩ := first_some e
    have hms := mu_step hC hO e
    have hg6 : g < 6 := by omega
    have hl := ins_le hO f2
    have hnx := nx_ok (C := C) (g := g) hl
    have hin := ins_t.mp f2
    rw [if_neg (show ¬ fI (some g) = -1 from nI_neq (by omega)), hL]
    simp only [fI, nI_clamp (show g < 2 ^ 31 by omega), gd_t (nI_inc (show g < 25 by omega) (show 25 ≤ 1000 by decide)), ml]
    rw [hS.1 g f1, ri_next hC hM f1 hl, bd_e]
    have hNot : ρ.1 g ≠ 10 := fun z => hin.2 (hρ g z)
    have eb : M 174 30 ||| (1 <<< (nI g &&& 31)) = bI (fun h => if h = g then true else q.2 h) := by
      rw [h2]; exact bI_set hg6
    have ea : up (up M a g (pI (nx C g (q.1.1 g)))) 174 30 (up M a g (pI (nx C g (q.1.1 g))) 174 30 ||| (1 <<< (nI g &&& 31))) a g = pI (nx C g (q.1.1 g)) := by
      rw [up_row _ _ _ (show a ≠ 174 by omega), up_self]
    simp only [ea]
    have e30 : up M a g (pI (nx C g (q.1.1 g))) 174 30 = M 174 30 := by rw [up_row _ _ _ (show 174 ≠ a by omega)]
    simp only [e30, eb]
    by_cases e10 : nx C g (q.1.1 g) = 10
    · rw [e10, if_pos (show pI 10 = 9 from by decide)]
      simp only [c24, la6, la12, la18, nI_clamp (show 6 + g < 2 ^ 31 by omega), nI_clamp (show 18 + g < 2 ^ 31 by omega), gd_t (nI_inc (show 6 + g < 25 by omega) (show 25 ≤ 1000 by decide)), gd_t (nI_inc (show 18 + g < 25 by omega) (show 25 ≤ 1000 by decide))]
      rw [gd_t (by decide)]
      have e32 : up (up M a g (pI 10)) 174 30 (bI (fun h => if h = g then true else q.2 h)) 174 32 = M 174 32 := by
        rw [up_col _ _ _ (by decide), up_row _ _ _ (show 174 ≠ a by omega)]
      have e24 : up (up (up M a g (pI 10)) 174 30 (bI (fun h => if h = g then true else q.2 h))) 174 32 (M 174 32 ||| (1 <<< (nI g &&& 31))) a 24 - 1 = pI (q.1.2.2.2.2 + 1) := by
        rw [up_row _ _ _ (show a ≠ 174 by omega), up_row _ _ _ (show a ≠ 174 by omega), up_col _ _ _ (by omega), hS.2.2.2.2, ht]
        rfl
      simp only [e32, e24]
      unfold f_X11_goMinute_161
      rw [wp_bd]
      have est : step C q.1 g = (fs q.1.1 g 10, fs q.1.2.1 g 0, q.1.2.2.1, fs q.1.2.2.2.1 g (q.1.2.2.2.2 + 1), q.1.2.2.2.2) := by
        unfold step; rw [e10]; exact put_out
      have hF' : Fr (mnS a) M (up (up (up (up (up M a g (pI 10)) 174 30 (bI (fun h => if h = g then true else q.2 h))) 174 32 (M 174 32 ||| (1 <<< (nI g &&& 31)))) a (18 + g) (pI (q.1.2.2.2.2 + 1))) a (6 + g) 0) := ((((Fr.rf.up (Or.inl rfl)).up (Or.inr ⟨rfl, by omega⟩)).up (Or.inr ⟨rfl, by omega⟩)).up (Or.inl rfl)).up (Or.inl rfl)
      have hS' : IsRt C (up (up (up (up (up M a g (pI 10)) 174 30 (bI (fun h => if h = g then true else q.2 h))) 174 32 (M 174 32 ||| (1 <<< (nI g &&& 31)))) a (18 + g) (pI (q.1.2.2.2.2 + 1))) a (6 + g) 0 a) (step C q.1 g) t := by
        obtain ⟨a1, a2, a3, a4, a5⟩ := hS
        rw [upS, upS, up_row _ _ _ (show a ≠ 174 by omega), up_row _ _ _ (show a ≠ 174 by omega), upS, est, show (0 : Int32) = nI 0 from rfl]
        exact ⟨rr_n0 (fun k hk => by omega) (rr_n0 (fun k hk => by omega) (rr_0 a1)), rr_up (rr_ne (fun k hk => by omega) (rr_ne (fun k hk => by omega) a2)), rr_ne (fun k hk => by omega) (rr_ne (fun k hk => by omega) (rr_ne (fun k hk => by omega) a3)), rr_ne (fun k hk => by omega) (rr_up (rr_ne (fun k hk => by omega) a4)), by rw [pk_un (by omega), pk_un (by omega), pk_un (by omega)]; exact a5⟩
      rw [ri_nextStep hC (CfR.fr ha hF' hM) (okm_step hC hO e) hS' hL]
      rw [wp_s]
      refine k (mu C (step C q.1 g)) _ _ (by omega) ⟨(step C q.1 g, fun h => if h = g then true else q.2 h), okm_step hC hO e, Nat.le_refl _, (run_step hC hO e).trans hR, ?_, ?_, rfl, CfR.fr ha hF' hM, StR.fr ha hF' hT, hS', ?_, ?_, ?_, hF.tr hF'⟩
      · intro h hh
        show (step C q.1 g).1 h = 10
        rw [est]
        show fs q.1.1 g 10 h = 10
        by_cases z : h = g
        · subst z; exact fs_s _ _ _
        · rw [fs_n _ _ z]; exact hρ h hh
      · rw [ht]; show _ = (step C q.1 g).2.2.2.2 + 1; rw [est]
      · rw [up_row _ _ _ (show 174 ≠ a by omega), up_row _ _ _ (show 174 ≠ a by omega), up_col _ _ _ (by decide), up_self]
      · rw [up_row _ _ _ (show 174 ≠ a by omega), up_row _ _ _ (show 174 ≠ a by omega), up_col _ _ _ (by decide), up_col _ _ _ (by decide), up_row _ _ _ (show 174 ≠ a by omega)]; exact h3
      · rw [up_row _ _ _ (show 174 ≠ a by omega), up_row _ _ _ (show 174 ≠ a by omega), up_self, h4]
        have := bI_set (S := gotB ρ q.1) hg6
        unfold obit at this
        rw [this]
        apply bI_ext
        intro h hh
        show (if h = g then true else gotB ρ q.1 h) = gotB ρ (step C q.1 g) h
        rw [est]
        unfold gotB
        show _ = (fs q.1.1 g 10 h == 10 && !(ρ.1 h == 10))
        by_cases z : h = g
        · subst z; rw [fs_s, if_pos rfl]; simp [hNot]
        · rw [fs_n _ _ z, if_neg z]
    · have hb : 0 < nx C g (q.1.1 g) ∧ nx C g (q.1.1 g) ≤ C.1 := by
        rcases hnx with h | h
        · exact h
        · exact absurd h e10
      rw [if_neg (fun z => e10 ((pI_9 (by omega)).mp z))]
      simp only [show pI (nx C g (q.1.1 g)) = nI (nx C g (q.1.1 g) - 1) by rw [← pI_s, show nx C g (q.1.1 g) - 1 + 1 = nx C g (q.1.1 g) by omega], lm6, la6, la12, la18, nI_add, nI_clamp (show 6 * g + (nx C g (q.1.1 g) - 1) < 2 ^ 31 by omega), nI_clamp (show 6 + g < 2 ^ 31 by omega), gd_t (nI_inc (show 6 + g < 25 by omega) (show 25 ≤ 1000 by decide)), vl]
      rw [gd_t (nI_inc (by omega) (by decide)), up_row _ _ _ (show 187 ≠ 174 by decide), up_row _ _ _ (show 187 ≠ a by omega), hT g f1 _ (by omega), show nI (nx C g (q.1.1 g) - 1) = pI (nx C g (q.1.1 g)) by rw [← pI_s, show nx C g (q.1.1 g) - 1 + 1 = nx C g (q.1.1 g) by omega]]
      unfold f_X11_goMinute_161
      rw [wp_bd]
      have hF' : Fr (mnS a) M (up (up (up M a g (pI (nx C g (q.1.1 g)))) 174 30 (bI (fun h => if h = g then true else q.2 h))) a (6 + g) (nI (C.2.2.2.2.2 g (nx C g (q.1.1 g) - 1)))) := ((Fr.rf.up (Or.inl rfl)).up (Or.inr ⟨rfl, by omega⟩)).up (Or.inl rfl)
      have hS' : IsRt C (up (up (up M a g (pI (nx C g (q.1.1 g)))) 174 30 (bI (fun h => if h = g then true else q.2 h))) a (6 + g) (nI (C.2.2.2.2.2 g (nx C g (q.1.1 g) - 1))) a) (step C q.1 g) t := by
        rw [upS, up_row _ _ _ (show a ≠ 174 by omega), upS]
        exact rt_in hC hS f1 e10
      rw [ri_nextStep hC (CfR.fr ha hF' hM) (okm_step hC hO e) hS' hL, wp_s]
      have est : (step C q.1 g).1 = fs q.1.1 g (nx C g (q.1.1 g)) := put_at C q.1 g _
      refine k (mu C (step C q.1 g)) _ _ (by omega) ⟨(step C q.1 g, fun h => if h = g then true else q.2 h), okm_step hC hO e, Nat.le_refl _, (run_step hC hO e).trans hR, ?_, ?_, rfl, CfR.fr ha hF' hM, StR.fr ha hF' hT, hS', ?_, ?_, ?_, hF.tr hF'⟩
      · intro h hh
        show (step C q.1 g).1 h = 10
        rw [est]
        by_cases z : h = g
        · subst z; exact absurd hh hNot
        · rw [fs_n _ _ z]; exact hρ h hh
      · rw [ht]; show _ = (step C q.1 g).2.2.2.2 + 1; unfold step; rw [put_in e10]
      · rw [up_row _ _ _ (show 174 ≠ a by omega), up_self]
      · rw [up_row _ _ _ (show 174 ≠ a by omega), up_col _ _ _ (by decide), up_row _ _ _ (show 174 ≠ a by omega)]; exact h3
      · rw [up_row _ _ _ (show 174 ≠ a by omega), up_col _ _ _ (by decide), up_row _ _ _ (show 174 ≠ a by omega), h4]
        apply bI_ext
        intro h hh
        unfold gotB
        show _ = ((step C q.1 g).1 h == 10 && !(ρ.1 h == 10))
        rw [est]
        by_cases z : h = g
        · subst z
          rw [fs_s]
          have z1 : (q.1.1 h == 10) = false := by rw [Bool.eq_false_iff]; intro z; exact hin.2 (beq_iff_eq.mp z)
          have z2 : (nx C h (q.1.1 h) == 10) = false := by rw [Bool.eq_false_iff]; intro z; exact e10 (beq_iff_eq.mp z)
          rw [z1, z2]
        · rw [fs_n _ _ z]
theorem gm_spec {C : Cf} {M : Mem} {a : Nat} {σ : Sm} (ha : a = 175 ∨ a = 191) (hC : COk C) (hM : CfR M C) (hT : StR M C) (hR : IsR C (M a) σ) (hO : Ok C σ) : wp (f_X11_goMinute a M) (fun _ M' => IsR C (M' a) (minute C σ) ∧ M' 174 30 = bI (mid C σ).2 ∧ M' 174 31 = bI (wtb (mid C σ).1) ∧ M' 174 32 = bI (gotB σ (mid C σ).1) ∧ Fr (mnS a) M M') := by
  have c1 := hC.1
  have c2 := hC.2.1
  have hL : LN a = 25 := by rcases ha with rfl | rfl <;> rfl
  unfold f_X11_goMinute f_X11_goMinute_0
  rw [wp_ml, wp_ml, wp_ml]
  have hF : Fr (mnS a) M (up (up (up M 174 30 0) 174 31 0) 174 32 0) := ((Fr.rf.up (Or.inr ⟨rfl, by omega⟩)).up (Or.inr ⟨rfl, by omega⟩)).up (Or.inr ⟨rfl, by omega⟩)
  have era : up (up (up M 174 30 0) 174 31 0) 174 32 0 a = M a := by rw [up_row _ _ _ (by omega), up_row _ _ _ (by omega), up_row _ _ _ (by omega)]
  refine wp_for (α := Unit) (fun n _ x M => f_X11_goMinute_17 a n x M) C.2.1 (fun g _ M1 => CfR M1 C ∧ StR M1 C ∧ IsR C (M1 a) (decTo g σ) ∧ M1 174 30 = 0 ∧ M1 174 31 = 0 ∧ M1 174 32 = 0 ∧ Fr (mnS a) M M1) _ (fun n g _ M1 hg hI k => ?_) (fun n _ M1 hI => ?_) C.2.1 0 FU () _ (by omega) (by show C.2.1 < 2000; omega) ⟨CfR.fr ha hF hM, StR.fr ha hF hT, ?_, ?_, ?_, ?_, hF⟩
  · obtain ⟨hM, hT, hR, h2, h3, h4, hF⟩ := hI
    have hl9 := hO.2.2.2.2.1 g
    have hin : f_X11_isInside a (nI g) M1 = some (b2i (ins (σ.1 g) = true), M1) := by
      have hA : σ.1 g < 2 ^ 31 := by rcases hO.1 g with h | h <;> omega
      rw [misInside_spec a g M1 (by omega) (by omega)]
      have : (¬ M1 a g = -1 ∧ ¬ M1 a g = 9) ↔ ins (σ.1 g) = true := by
        rw [hR.1 g hg, show (decTo g σ).1 g = σ.1 g from rfl, pI_m1 hA, pI_9 hA, ins_t]
      congr 2
      unfold b2i
      simp only [this]
    have ew : (decTo g σ).2.1 g = σ.2.1 g := by
      show (if g < g then σ.2.1 g - 1 else σ.2.1 g) = _
      rw [if_neg (by omega)]
    show wp (f_X11_goMinute_17 a (n + 1) (nI g) M1) _
    unfold f_X11_goMinute_17
    rw [hM.2.1, if_pos (nI_lt (by omega) (by omega)), hin, bd_e, hL]
    by_cases hi : ins (σ.1 g) = true
    · rw [b2i_t hi, if_neg (by decide)]
      simp only [la6, la12, la18, nI_clamp (show 6 + g < 2 ^ 31 by omega), gd_t (nI_inc (show 6 + g < 25 by omega) (show 25 ≤ 1000 by decide)), ml, vl]
      rw [hR.2.1 g hg, ew]
      have ev : (if (0 : Int32) < nI (σ.2.1 g) - 1 then nI (σ.2.1 g) - 1 else 0) = nI (σ.2.1 g - 1) := by
        by_cases h0 : σ.2.1 g = 0
        · rw [h0, if_neg (by decide)]; rfl
        · rw [nI_sub1 (by omega)]
          by_cases h1 : σ.2.1 g = 1
          · rw [h1, if_neg (by decide)]; rfl
          · rw [if_pos (nIp (by omega) (by omega))]
      rw [ev]
      unfold f_X11_goMinute_52
      rw [wp_vl, nI_1]
      obtain ⟨a1, a2, a3, a4, a5⟩ := hR
      refine k () _ ⟨CfR.fr ha (Fr.rf.up (Or.inl rfl)) hM, StR.fr ha (Fr.rf.up (Or.inl rfl)) hT, ?_, ?_, ?_, ?_, hF.up (Or.inl rfl)⟩
      · rw [upS]
        refine ⟨rr_n0 (fun k hk => by omega) a1, ?_, rr_ne (fun k hk => by omega) a3, rr_ne (fun k hk => by omega) a4, ?_⟩
        · rw [← decTo_s]; exact rr_up a2
        · rw [pk_un (by omega)]; exact a5
      · rw [up_row _ _ _ (show 174 ≠ a by omega)]; exact h2
      · rw [up_row _ _ _ (show 174 ≠ a by omega)]; exact h3
      · rw [up_row _ _ _ (show 174 ≠ a by omega)]; exact h4
    · rw [b2i_f hi, if_pos rfl]
      unfold f_X11_goMinute_52
      rw [wp_vl, nI_1]
      have hl0 : σ.2.1 g = 0 := hO.2.2.1 g (Bool.eq_false_iff.mpr hi)
      exact k () M1 ⟨hM, hT, by rw [decTo_n hl0]; exact hR, h2, h3, h4, hF⟩
  · obtain ⟨hM, hT, hR, h2, h3, h4, hF⟩ := hI
    show wp (f_X11_goMinute_17 a (n + 1) (nI C.2.1) M1) _
    unfold f_X11_goMinute_17
    rw [hM.2.1, if_neg (nI_nlt (Nat.le_refl _) (by omega)), hL]
    simp only [c24]
    rw [gd_t (by decide), gd_t (by decide), wp_ml, hR.2.2.2.2, nI_1]
    rw [decTo_all hO.toM] at hR
    have hF' : Fr (mnS a) M1 (up M1 a 24 (nI ((decTo C.2.1 σ).2.2.2.2 + 1))) := Fr.rf.up (Or.inl rfl)
    have hS' : IsRt C (up M1 a 24 (nI ((decTo C.2.1 σ).2.2.2.2 + 1)) a) (dec σ) (σ.2.2.2.2 + 1) := by
      obtain ⟨a1, a2, a3, a4, a5⟩ := hR
      rw [upS]
      exact ⟨rr_n0 (fun k hk => by omega) a1, rr_ne (fun k hk => by omega) a2, rr_ne (fun k hk => by omega) a3, rr_ne (fun k hk => by omega) a4, pk_us⟩
    have hOd := okm_dec hO.toM
    rw [wp_bd, ri_nextStep hC (CfR.fr ha hF' hM) hOd hS' hL, wp_s]
    have hend := gm72 (ρ := σ) (p := (dec σ, fun _ => false)) (M0 := M) ha hC hOd rfl (fun g hg => hg) rfl _ (CfR.fr ha hF' hM) (StR.fr ha hF' hT) hS' (by rw [up_row _ _ _ (show 174 ≠ a by omega), h2]; exact bI_none.symm) (by rw [up_row _ _ _ (show 174 ≠ a by omega)]; exact h3) (by
      rw [up_row _ _ _ (show 174 ≠ a by omega), h4, ← bI_none]
      apply bI_ext
      intro g _
      unfold gotB
      show false = (σ.1 g == 10 && !(σ.1 g == 10))
      cases (σ.1 g == 10) <;> rfl) (hF.tr hF')
    refine wp_mono hend (fun _ M' h => ⟨?_, h.2⟩)
    have h1 := h.1
    show IsRt C (M' a) (minute C σ) (minute C σ).2.2.2.2
    rw [minute_now]
    exact h1
  · have e0 : decTo 0 σ = σ := sm_ext rfl (funext fun h => by show (if h < 0 then σ.2.1 h - 1 else σ.2.1 h) = _; rw [if_neg (by omega)]) rfl rfl rfl
    rw [e0, era]; exact hR
  · rw [up_col _ _ _ (by decide), up_col _ _ _ (by decide), up_self]
  · rw [up_col _ _ _ (by decide), up_self]
  · rw [up_self]
