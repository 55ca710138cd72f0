/-! the class: where groups are, over the pure picture -/
def stS (s : Nat) : Nat → Nat → Prop := fun i _ => s ≤ i ∧ i ≤ s + 4
def CfC (M : Mem) (C : Cf) : Prop := M 3 0 = nI C.1 ∧ M 3 2 = nI C.2.1 ∧ (∀ r, r < C.1 → (bit (M 3 1) (nI r) ↔ C.2.2.1 r = true)) ∧ ∀ g, g < C.2.1 → M 7 g = b2i (C.2.2.2.1 g = true) ∧ M 4 g = nI (C.2.2.2.2.1 g) ∧ ∀ r, r < C.1 → M (17 + g) r = nI (C.2.2.2.2.2 g r)
theorem CfC.eq {M M' : Mem} {C : Cf} (hc2 : C.2.1 ≤ 6) (h : ∀ i k, i < 23 → M' i k = M i k) (hc : CfC M C) : CfC M' C := by
  obtain ⟨h1, h2, h3, h4⟩ := hc
  refine ⟨(h 3 0 (by decide)).trans h1, (h 3 2 (by decide)).trans h2, fun r hr => ?_, fun g hg => ?_⟩
  · rw [h 3 1 (by decide)]; exact h3 r hr
  · obtain ⟨a, b, c⟩ := h4 g hg
    exact ⟨(h 7 g (by decide)).trans a, (h 4 g (by decide)).trans b, fun r hr => (h (17 + g) r (by omega)).trans (c r hr)⟩
theorem CfC.fr {M M' : Mem} {C : Cf} {s : Nat} (hs : 26 ≤ s) (hc2 : C.2.1 ≤ 6) (h : Fr (stS s) M M') (hc : CfC M C) : CfC M' C := CfC.eq hc2 (fun i k hi => h i k (fun q => by unfold stS at q; omega)) hc
def IsC (C : Cf) (M : Mem) (s : Nat) (σ : Sm) : Prop := (∀ g, g < 6 → M (s + 1) g = pI (σ.1 g)) ∧ (∀ g, g < 6 → M (s + 2) g = nI (σ.2.1 g)) ∧ (∀ g, g < 6 → M (s + 3) g = nI (σ.2.2.1 g)) ∧ (∀ g, g < 6 → M (s + 4) g = pI (σ.2.2.2.1 g)) ∧ M s 0 = nI σ.2.2.2.2 ∧ ∀ r, r < 32 → (bit (M s 1) (nI r) ↔ r < C.1 ∧ C.2.2.1 r = false ∧ occ σ.1 (r + 1) = true)
theorem IsC.eq {C : Cf} {M M' : Mem} {s : Nat} {σ : Sm} (h : ∀ i k, s ≤ i → i ≤ s + 4 → (i = s → k < 2) → M' i k = M i k) (hc : IsC C M s σ) : IsC C M' s σ := by
  obtain ⟨h1, h2, h3, h4, h5, h6⟩ := hc
  refine ⟨fun g hg => ?_, fun g hg => ?_, fun g hg => ?_, fun g hg => ?_, ?_, fun r hr => ?_⟩
  · rw [h (s + 1) g (by omega) (by omega) (fun e => by omega)]; exact h1 g hg
  · rw [h (s + 2) g (by omega) (by omega) (fun e => by omega)]; exact h2 g hg
  · rw [h (s + 3) g (by omega) (by omega) (fun e => by omega)]; exact h3 g hg
  · rw [h (s + 4) g (by omega) (by omega) (fun e => by omega)]; exact h4 g hg
  · rw [h s 0 (by omega) (by omega) (fun _ => by omega)]; exact h5
  · rw [h s 1 (by omega) (by omega) (fun _ => by omega)]; exact h6 r hr
theorem rw_up {M : Mem} {i g v : Nat} {e : Nat → Int32} {f : Nat → Nat} (h : ∀ k, k < 6 → M i k = e (f k)) : ∀ k, k < 6 → up M i g (e v) i k = e (fs f g v k) := by
  intro k hk
  by_cases q : k = g
  · subst q; rw [up_self, fs_s]
  · rw [up_col _ _ _ q, fs_n _ _ q]; exact h k hk
theorem rw_ne {M : Mem} {i j g : Nat} {v : Int32} {e : Nat → Int32} {f : Nat → Nat} (hj : j ≠ i) (h : ∀ k, k < 6 → M j k = e (f k)) : ∀ k, k < 6 → up M i g v j k = e (f k) := by
  intro k hk
  rw [up_row _ _ _ hj]; exact h k hk
theorem nI_sub1 {a : Nat} (h : 0 < a) : nI a - 1 = nI (a - 1) := pk_sub (b := 1) h
theorem onWay_spec {C : Cf} {M : Mem} {g k : Nat} (hC : COk C) (hM : CfC M C) (hg : g < C.2.1) (hk : k < C.1) : f_X1_onWay (nI g) (nI k) M = some (nI (if C.2.2.2.1 g = true then C.1 - 1 - k else k), M) := by
  have hg6 : g < 6 := by have := hC.2.1; omega
  unfold f_X1_onWay f_X1_onWay_0
  simp only [gd_t (nI_inc hg6 (show 6 ≤ 1000 by decide)), nI_clamp (show g < 2 ^ 31 by omega)]
  rw [(hM.2.2.2 g hg).1, hM.1]
  by_cases hb : C.2.2.2.1 g = true
  · rw [b2i_t hb, if_pos rfl, if_pos hb, nI_sub1 (by omega), pk_sub (by omega)]
    rfl
  · rw [b2i_f hb, if_neg (by decide), if_neg hb]
    rfl
theorem frm_ok {C : Cf} {g : Nat} (hn : 0 < C.1) : 0 < frm C g ∧ frm C g ≤ C.1 := by
  unfold frm; split <;> omega
theorem onWay0 {C : Cf} {M : Mem} {g : Nat} (hC : COk C) (hM : CfC M C) (hg : g < C.2.1) : f_X1_onWay (nI g) 0 M = some (nI (frm C g - 1), M) := by
  have h0 : 0 < C.1 := hC.2.2.2.1 (by omega)
  have := onWay_spec (k := 0) hC hM hg h0
  rw [nI_0] at this
  rw [this]
  unfold frm
  split <;> simp
def bar (C : Cf) (σ : Sm) (g : Nat) : Int32 := if σ.1 g = 0 then (if σ.2.2.2.2 < C.2.2.2.2.1 g then -3 else if free C σ.1 (frm C g) = true then 0 else -4) else -2
theorem tk_free {C : Cf} {M : Mem} {s : Nat} {σ : Sm} (hC : COk C) (hS : IsC C M s σ) {a : Nat} (ha : 0 < a ∧ a ≤ C.1) : bit (M s 1) (nI (a - 1)) ↔ ¬ free C σ.1 a = true := by
  have c1 := hC.1
  rw [hS.2.2.2.2.2 (a - 1) (by omega), show a - 1 + 1 = a by omega]
  unfold free
  have e10 : (a == 10) = false := by rw [Bool.eq_false_iff]; intro h; have := beq_iff_eq.mp h; omega
  rw [e10]
  constructor
  · rintro ⟨_, h2, h3⟩
    rw [h2, h3]; decide
  · intro h
    refine ⟨by omega, ?_, ?_⟩
    · cases hq : C.2.2.1 (a - 1) with
      | false => rfl
      | true => rw [hq] at h; simp at h
    · cases hq : occ σ.1 a with
      | true => rfl
      | false => rw [hq] at h; simp at h
theorem barTo_spec {C : Cf} {M : Mem} {s g : Nat} {σ : Sm} (hC : COk C) (hM : CfC M C) (hS : IsC C M s σ) (hO : OkM C σ) (hg : g < C.2.1) (hB : σ.2.2.2.2 < 2 ^ 30) : f_X1_barTo s (nI g) M = some (bar C σ g, M) := by
  have hg6 : g < 6 := by have := hC.2.1; omega
  have h0 : 0 < C.1 := hC.2.2.2.1 (by omega)
  have c1 := hC.1
  have hA : σ.1 g < 2 ^ 31 := by rcases hO.1 g with h | h <;> omega
  unfold f_X1_barTo f_X1_barTo_0 bar
  simp only [gd_t (nI_inc hg6 (show 6 ≤ 1000 by decide)), nI_clamp (show g < 2 ^ 31 by omega)]
  rw [hS.1 g hg6, hS.2.2.2.2.1, (hM.2.2.2 g hg).2.1]
  by_cases e : σ.1 g = 0
  · rw [if_pos ((pI_m1 hA).mpr e), if_pos e]
    have hcm : C.2.2.2.2.1 g < 2 ^ 31 := by have := hC.2.2.2.2 g; omega
    by_cases e2 : σ.2.2.2.2 < C.2.2.2.2.1 g
    · rw [if_pos ((nI_ltI (by omega) hcm).mpr e2), if_pos e2]
    · rw [if_neg (fun q => e2 ((nI_ltI (by omega) hcm).mp q)), if_neg e2, onWay0 hC hM hg]
      have hf := tk_free hC hS (frm_ok (g := g) h0)
      show (if bit (M s 1) (nI (frm C g - 1)) then _ else _) = _
      by_cases e3 : free C σ.1 (frm C g) = true
      · rw [if_neg (fun q => hf.mp q e3), if_pos e3]; rfl
      · rw [if_pos (hf.mpr e3), if_neg e3]; rfl
  · rw [if_neg (fun q => e ((pI_m1 hA).mp q)), if_neg e]
/-- the bits of the rooms that are taken by others than g -/
def TK (C : Cf) (x : Int32) (A : Nat → Nat) (g : Nat) : Prop := ∀ r, r < 32 → (bit x (nI r) ↔ r < C.1 ∧ C.2.2.1 r = false ∧ ∃ h, h < 6 ∧ h ≠ g ∧ A h = r + 1)
theorem occ_fs {A : Nat → Nat} {g a b : Nat} (hg : g < 6) : occ (fs A g a) b = true ↔ (∃ h, h < 6 ∧ h ≠ g ∧ A h = b) ∨ a = b := by
  rw [occ_t]
  constructor
  · rintro ⟨h, h6, e⟩
    by_cases q : h = g
    · subst q; rw [fs_s] at e; exact Or.inr e
    · rw [fs_n _ _ q] at e; exact Or.inl ⟨h, h6, q, e⟩
  · rintro (⟨h, h6, q, e⟩ | e)
    · exact ⟨h, h6, by rw [fs_n _ _ q]; exact e⟩
    · exact ⟨g, hg, by rw [fs_s]; exact e⟩
theorem tk_out {C : Cf} {M : Mem} {s g : Nat} {σ : Sm} (hS : IsC C M s σ) (h0 : σ.1 g = 0) : TK C (M s 1) σ.1 g := by
  intro r hr
  rw [hS.2.2.2.2.2 r hr, occ_t]
  constructor
  · rintro ⟨a, b, h, h6, e⟩
    exact ⟨a, b, h, h6, fun q => by subst q; omega, e⟩
  · rintro ⟨a, b, h, h6, _, e⟩
    exact ⟨a, b, h, h6, e⟩
theorem tk_in {C : Cf} {M : Mem} {s g : Nat} {σ : Sm} (hC : COk C) (hS : IsC C M s σ) (hO : OkM C σ) (hi : ins (σ.1 g) = true) : TK C (M s 1 &&& ((1 <<< (nI (σ.1 g - 1) &&& 31)) ^^^ (-1))) σ.1 g := by
  intro r hr
  have c1 := hC.1
  have hl := ins_le hO hi
  rw [bit_and _ _ hr, bit_not _ hr, bit_one (by omega) hr, hS.2.2.2.2.2 r hr, occ_t]
  constructor
  · rintro ⟨⟨a, b, h, h6, e⟩, q⟩
    exact ⟨a, b, h, h6, fun q2 => by subst q2; omega, e⟩
  · rintro ⟨a, b, h, h6, q, e⟩
    refine ⟨⟨a, b, h, h6, e⟩, fun q2 => ?_⟩
    have := hO.2.2.2.2.2.2.2.2.2 g h (Ne.symm q) (by omega) hi
    rw [← q2, b] at this
    cases this
theorem move_in {C : Cf} {M : Mem} {s g a : Nat} {σ : Sm} (hs : 26 ≤ s) (hC : COk C) (hM : CfC M C) (hS : (∀ g, g < 6 → M (s + 1) g = pI (σ.1 g)) ∧ (∀ g, g < 6 → M (s + 2) g = nI (σ.2.1 g)) ∧ (∀ g, g < 6 → M (s + 3) g = nI (σ.2.2.1 g)) ∧ (∀ g, g < 6 → M (s + 4) g = pI (σ.2.2.2.1 g)) ∧ M s 0 = nI σ.2.2.2.2) (hT : TK C (M s 1) σ.1 g) (hg : g < C.2.1) (ha : 0 < a ∧ a ≤ C.1) : wp (f_X1_move_37 s (nI g) (nI (a - 1)) M) (fun _ M' => IsC C M' s (put C σ g a) ∧ M' s 2 = M s 2 ∧ M' s 3 = M s 3 ∧ Fr (stS s) M M') := by
  have c1 := hC.1
  have hg6 : g < 6 := by have := hC.2.1; omega
  have e2 : put C σ g a = (fs σ.1 g a, fs σ.2.1 g (C.2.2.2.2.2 g (a - 1)), σ.2.2.1, σ.2.2.2.1, σ.2.2.2.2) := if_neg (by omega)
  unfold f_X1_move_37
  rw [hM.1, if_neg (nI_pos (by omega)), if_pos (nI_lt (by omega) (by omega))]
  simp only [gd_t (nI_inc hg6 (show 6 ≤ 1000 by decide)), gd_t (nI_inc (show a - 1 < 6 by omega) (show 6 ≤ 1000 by decide)), nI_clamp (show g < 2 ^ 31 by omega), nI_clamp (show a - 1 < 2 ^ 31 by omega), vl, ml]
  rw [wp_s, up_row _ _ _ (show 17 + g ≠ s + 1 by omega), ((hM.2.2.2 g hg).2.2 (a - 1) (by omega))]
  obtain ⟨h1, h2, h3, h4, h5⟩ := hS
  rw [show nI (a - 1) = pI a by rw [← pI_s, show a - 1 + 1 = a by omega]]
  refine ⟨?_, ?_, ?_, ?_⟩
  · rw [e2]
    refine ⟨rw_ne (by omega) (rw_ne (by omega) (rw_up h1)), rw_ne (by omega) (rw_up (rw_ne (by omega) h2)), rw_ne (by omega) (rw_ne (by omega) (rw_ne (by omega) h3)), rw_ne (by omega) (rw_ne (by omega) (rw_ne (by omega) h4)), ?_, fun r hr => ?_⟩
    · rw [up_col _ _ _ (by decide), up_row _ _ _ (by omega), up_row _ _ _ (by omega)]; exact h5
    · rw [up_self, bit_or _ _ hr, bit_and _ _ hr, bit_not _ hr, show pI a = nI (a - 1) by rw [← pI_s, show a - 1 + 1 = a by omega], bit_one (by omega) hr, up_row _ _ _ (show s ≠ s + 2 by omega), up_row _ _ _ (show s ≠ s + 1 by omega), up_row _ _ _ (show 3 ≠ s + 2 by omega), up_row _ _ _ (show 3 ≠ s + 1 by omega), hT r hr]
      show _ ↔ r < C.1 ∧ C.2.2.1 r = false ∧ occ (fs σ.1 g a) (r + 1) = true
      rw [occ_fs hg6]
      constructor
      · rintro (⟨x, y, z⟩ | ⟨x, y⟩)
        · exact ⟨x, y, Or.inl z⟩
        · have hr2 : r < C.1 := by omega
          rw [hM.2.2.1 r hr2] at y
          exact ⟨hr2, Bool.eq_false_iff.mpr y, Or.inr (by omega)⟩
      · rintro ⟨x, y, z | z⟩
        · exact Or.inl ⟨x, y, z⟩
        · refine Or.inr ⟨by omega, ?_⟩
          rw [hM.2.2.1 r x, y]
          decide
  · rw [up_col _ _ _ (by decide), up_row _ _ _ (by omega), up_row _ _ _ (by omega)]
  · rw [up_col _ _ _ (by decide), up_row _ _ _ (by omega), up_row _ _ _ (by omega)]
  · exact ((Fr.rf.up ⟨by omega, by omega⟩).up ⟨by omega, by omega⟩).up ⟨by omega, by omega⟩
theorem move_out {C : Cf} {M : Mem} {s g : Nat} {σ : Sm} {x : Int32} (hs : 26 ≤ s) (hC : COk C) (hM : CfC M C) (hS : (∀ g, g < 6 → M (s + 1) g = pI (σ.1 g)) ∧ (∀ g, g < 6 → M (s + 2) g = nI (σ.2.1 g)) ∧ (∀ g, g < 6 → M (s + 3) g = nI (σ.2.2.1 g)) ∧ (∀ g, g < 6 → M (s + 4) g = pI (σ.2.2.2.1 g)) ∧ M s 0 = nI σ.2.2.2.2) (hT : TK C (M s 1) σ.1 g) (hg : g < C.2.1) (hx : x < 0 ∨ x = nI C.1) : wp (f_X1_move_37 s (nI g) x M) (fun _ M' => IsC C M' s (put C σ g 10) ∧ M' s 2 = M s 2 ∧ M' s 3 = M s 3 ∧ Fr (stS s) M M') := by
  have c1 := hC.1
  have hg6 : g < 6 := by have := hC.2.1; omega
  have e2 : put C σ g 10 = (fs σ.1 g 10, fs σ.2.1 g 0, σ.2.2.1, fs σ.2.2.2.1 g (σ.2.2.2.2 + 1), σ.2.2.2.2) := if_pos rfl
  have e3 : f_X1_move_37 s (nI g) x M = f_X1_move_49 s (nI g) M := by
    unfold f_X1_move_37
    by_cases h0 : x < 0
    · rw [if_pos h0]
    · rw [if_neg h0]
      rcases hx with q | q
      · exact absurd q h0
      · subst q
        rw [hM.1, if_neg (nI_nlt (Nat.le_refl _) (by omega))]
  rw [e3]
  unfold f_X1_move_49
  simp only [gd_t (nI_inc hg6 (show 6 ≤ 1000 by decide)), nI_clamp (show g < 2 ^ 31 by omega), ml]
  obtain ⟨h1, h2, h3, h4, h5⟩ := hS
  rw [wp_s, up_row _ _ _ (show s ≠ s + 2 by omega), up_row _ _ _ (show s ≠ s + 1 by omega), h5, ← pI_s σ.2.2.2.2, show (9 : Int32) = pI 10 from (pI_s 9).symm, show (0 : Int32) = nI 0 from rfl]
  refine ⟨?_, ?_, ?_, ?_⟩
  · rw [e2]
    refine ⟨rw_ne (by omega) (rw_ne (by omega) (rw_up h1)), rw_ne (by omega) (rw_up (rw_ne (by omega) h2)), rw_ne (by omega) (rw_ne (by omega) (rw_ne (by omega) h3)), rw_up (rw_ne (by omega) (rw_ne (by omega) h4)), ?_, fun r hr => ?_⟩
    · rw [up_row _ _ _ (by omega), up_row _ _ _ (by omega), up_row _ _ _ (by omega)]; exact h5
    · rw [up_row _ _ _ (show s ≠ s + 4 by omega), up_row _ _ _ (show s ≠ s + 2 by omega), up_row _ _ _ (show s ≠ s + 1 by omega), hT r hr]
      show _ ↔ r < C.1 ∧ C.2.2.1 r = false ∧ occ (fs σ.1 g 10) (r + 1) = true
      rw [occ_fs hg6]
      constructor
      · rintro ⟨x, y, z⟩
        exact ⟨x, y, Or.inl z⟩
      · rintro ⟨x, y, z | z⟩
        · exact ⟨x, y, z⟩
        · omega
  · rw [up_row _ _ _ (by omega), up_row _ _ _ (by omega), up_row _ _ _ (by omega)]
  · rw [up_row _ _ _ (by omega), up_row _ _ _ (by omega), up_row _ _ _ (by omega)]
  · exact ((Fr.rf.up ⟨by omega, by omega⟩).up ⟨by omega, by omega⟩).up ⟨by omega, by omega⟩
/-- one moves: to a room, or through -/
def goesTo (C : Cf) (x : Int32) (a : Nat) : Prop := (0 < a ∧ a ≤ C.1 ∧ x = nI (a - 1)) ∨ (a = 10 ∧ (x < 0 ∨ x = nI C.1))
theorem move_spec {C : Cf} {M : Mem} {s g a : Nat} {σ : Sm} {x : Int32} (hs : 26 ≤ s) (hC : COk C) (hM : CfC M C) (hS : IsC C M s σ) (hO : OkM C σ) (hg : g < C.2.1) (h10 : σ.1 g ≠ 10) (ha : goesTo C x a) : wp (f_X1_move s (nI g) x M) (fun _ M' => IsC C M' s (put C σ g a) ∧ M' s 2 = M s 2 ∧ M' s 3 = M s 3 ∧ Fr (stS s) M M') := by
  have c1 := hC.1
  have hg6 : g < 6 := by have := hC.2.1; omega
  have go : ∀ M1 : Mem, CfC M1 C → ((∀ g, g < 6 → M1 (s + 1) g = pI (σ.1 g)) ∧ (∀ g, g < 6 → M1 (s + 2) g = nI (σ.2.1 g)) ∧ (∀ g, g < 6 → M1 (s + 3) g = nI (σ.2.2.1 g)) ∧ (∀ g, g < 6 → M1 (s + 4) g = pI (σ.2.2.2.1 g)) ∧ M1 s 0 = nI σ.2.2.2.2) → TK C (M1 s 1) σ.1 g → M1 s 2 = M s 2 → M1 s 3 = M s 3 → Fr (stS s) M M1 → wp (f_X1_move_37 s (nI g) x M1) (fun _ M' => IsC C M' s (put C σ g a) ∧ M' s 2 = M s 2 ∧ M' s 3 = M s 3 ∧ Fr (stS s) M M') := by
    intro M1 hM1 hS1 hT1 h2 h3 hF
    rcases ha with ⟨p, q, e⟩ | ⟨e, q⟩
    · subst e
      exact wp_mono (move_in hs hC hM1 hS1 hT1 hg ⟨p, q⟩) (fun r M' h => ⟨h.1, h.2.1.trans h2, h.2.2.1.trans h3, hF.tr h.2.2.2⟩)
    · subst e
      exact wp_mono (move_out hs hC hM1 hS1 hT1 hg q) (fun r M' h => ⟨h.1, h.2.1.trans h2, h.2.2.1.trans h3, hF.tr h.2.2.2⟩)
  obtain ⟨h1, h2, h3, h4, h5, h6⟩ := hS
  have hS' : IsC C M s σ := ⟨h1, h2, h3, h4, h5, h6⟩
  unfold f_X1_move f_X1_move_0
  simp only [gd_t (nI_inc hg6 (show 6 ≤ 1000 by decide)), nI_clamp (show g < 2 ^ 31 by omega), vl, ml]
  rw [h1 g hg6, hM.1]
  by_cases e : σ.1 g = 0
  · rw [e, if_pos (by decide)]
    exact go M hM ⟨h1, h2, h3, h4, h5⟩ (tk_out hS' e) rfl rfl Fr.rf
  · have hi : ins (σ.1 g) = true := ins_t.mpr ⟨e, h10⟩
    have hl := ins_le hO hi
    rw [if_neg (fun q => e ((pI_lt0 (by omega)).mp q)), if_pos ((pI_ltn (by omega) (by omega)).mpr hl.2), show pI (σ.1 g) = nI (σ.1 g - 1) by rw [← pI_s, show σ.1 g - 1 + 1 = σ.1 g by omega]]
    have hF : Fr (stS s) M (up M s 1 (M s 1 &&& ((1 <<< (nI (σ.1 g - 1) &&& 31)) ^^^ (-1)))) := Fr.rf.up ⟨by omega, by omega⟩
    refine go _ (CfC.fr hs hC.2.1 hF hM) ⟨rw_ne (by omega) h1, rw_ne (by omega) h2, rw_ne (by omega) h3, rw_ne (by omega) h4, ?_⟩ ?_ ?_ ?_ hF
    · rw [up_col _ _ _ (by decide)]; exact h5
    · rw [up_self]; exact tk_in hC hS' hO hi
    · rw [up_col _ _ _ (by decide)]
    · rw [up_col _ _ _ (by decide)]
theorem setOff_spec {C : Cf} {M : Mem} {s g : Nat} {σ : Sm} (hs : 26 ≤ s) (hC : COk C) (hM : CfC M C) (hS : IsC C M s σ) (hO : OkM C σ) (hg : g < C.2.1) (h10 : σ.1 g ≠ 10) : wp (f_X1_setOff s (nI g) M) (fun _ M' => IsC C M' s (off C σ g) ∧ M' s 2 = M s 2 ∧ M' s 3 = M s 3 ∧ Fr (stS s) M M') := by
  have h0 : 0 < C.1 := hC.2.2.2.1 (by omega)
  have hf := frm_ok (g := g) h0
  unfold f_X1_setOff f_X1_setOff_0
  rw [onWay0 hC hM hg]
  rw [wp_bd, wp_s, wp_bd]
  exact wp_mono (move_spec (a := frm C g) hs hC hM hS hO hg h10 (Or.inl ⟨hf.1, hf.2, rfl⟩)) (fun r M' h => wp_s.mpr h)
def fI (o : Option Nat) : Int32 := match o with
  | none => -1
  | some g => nI g
theorem nI_m1 : nI 0 - 1 = -1 := by decide
theorem firstLoop {C : Cf} {M : Mem} {s : Nat} {σ : Sm} (hC : COk C) (hM : CfC M C) (hS : IsC C M s σ) (hO : OkM C σ) : ∀ (m g n : Nat), g + m = C.2.1 → m < n → f_X1_firstThatCan_2 s n (nI g) M = some (fI (fstF (can C σ) m g), M)
  | 0, g, n + 1, h, _ => by
    have c2 := hC.2.1
    unfold f_X1_firstThatCan_2
    rw [hM.2.1, if_neg (nI_nlt (by omega) (by omega))]
    rfl
  | m + 1, g, n + 1, h, hn => by
    have c1 := hC.1
    have c2 := hC.2.1
    have hg6 : g < 6 := by omega
    have ih := firstLoop hC hM hS hO m (g + 1) n (by omega) (by omega)
    have hA : σ.1 g < 2 ^ 31 := by rcases hO.1 g with h | h <;> omega
    have hL := hO.2.2.2.2.1 g
    have no : can C σ g = false → f_X1_firstThatCan_95 (f_X1_firstThatCan_2 s n) s (nI g) M = some (fI (fstF (can C σ) (m + 1) g), M) := by
      intro hc
      unfold f_X1_firstThatCan_95 fstF
      rw [if_neg (by rw [hc]; decide)]
      simp only [vl, nI_1]
      exact ih
    have yes : can C σ g = true → f_X1_firstThatCan_93 s (nI g) M = some (fI (fstF (can C σ) (m + 1) g), M) := by
      intro hc
      unfold f_X1_firstThatCan_93 fstF
      rw [if_pos hc]
      rfl
    have go : ∀ x : Int32, ins (σ.1 g) = true → σ.2.1 g = 0 → goesTo C x (nx C g (σ.1 g)) → f_X1_firstThatCan_69 (f_X1_firstThatCan_2 s n) s (nI g) x M = some (fI (fstF (can C σ) (m + 1) g), M) := by
      intro x hi hl0 hx
      unfold f_X1_firstThatCan_69
      rw [hM.1]
      rcases hx with ⟨p, q, e⟩ | ⟨e, q⟩
      · subst e
        rw [if_neg (nI_pos (by omega)), if_pos (nI_lt (by omega) (by omega))]
        have hf := tk_free hC hS ⟨p, q⟩
        by_cases e3 : free C σ.1 (nx C g (σ.1 g)) = true
        · rw [if_pos ((bit_nz (by omega)).mpr (fun z => hf.mp z e3))]
          exact yes (can_t.mpr ⟨hi, hl0, e3⟩)
        · rw [if_neg (fun z => (bit_nz (by omega)).mp z (hf.mpr e3))]
          exact no (Bool.eq_false_iff.mpr (fun z => e3 (can_t.mp z).2.2))
      · have hc : can C σ g = true := can_t.mpr ⟨hi, hl0, by rw [e]; rfl⟩
        by_cases h0 : x < 0
        · rw [if_pos h0]; exact yes hc
        · rw [if_neg h0]
          rcases q with q | q
          · exact absurd q h0
          · subst q
            rw [if_neg (nI_nlt (Nat.le_refl _) (by omega))]; exact yes hc
    unfold f_X1_firstThatCan_2
    rw [hM.2.1, if_pos (nI_lt (by omega) (by omega))]
    simp only [gd_t (nI_inc hg6 (show 6 ≤ 1000 by decide)), nI_clamp (show g < 2 ^ 31 by omega)]
    rw [hS.1 g hg6, hS.2.1 g hg6, (hM.2.2.2 g (by omega)).1]
    by_cases hl0 : σ.2.1 g = 0
    · rw [hl0, if_pos nI_0]
      by_cases e : σ.1 g = 0
      · rw [if_pos ((pI_m1 hA).mpr e)]
        exact no (Bool.eq_false_iff.mpr (fun z => by have := (can_t.mp z).1; rw [e] at this; cases this))
      · rw [if_neg (fun q => e ((pI_m1 hA).mp q))]
        by_cases e10 : σ.1 g = 10
        · rw [if_pos ((pI_9 hA).mpr e10)]
          exact no (Bool.eq_false_iff.mpr (fun z => by have := (can_t.mp z).1; rw [e10] at this; cases this))
        · rw [if_neg (fun q => e10 ((pI_9 hA).mp q))]
          have hi : ins (σ.1 g) = true := ins_t.mpr ⟨e, e10⟩
          have hl := ins_le hO hi
          have ep : pI (σ.1 g) = nI (σ.1 g - 1) := by rw [← pI_s, show σ.1 g - 1 + 1 = σ.1 g by omega]
          rw [ep]
          by_cases hb : C.2.2.2.1 g = true
          · rw [b2i_t hb, if_pos rfl]
            refine go _ hi hl0 ?_
            unfold nx
            rw [if_pos hb]
            by_cases e1 : σ.1 g = 1
            · rw [if_pos e1, e1]; right; exact ⟨rfl, Or.inl (by decide)⟩
            · rw [if_neg e1]; left; exact ⟨by omega, by omega, nI_sub1 (by omega)⟩
          · rw [b2i_f hb, if_neg (by decide)]
            refine go _ hi hl0 ?_
            unfold nx
            rw [if_neg hb, nI_1]
            by_cases e1 : σ.1 g = C.1
            · rw [if_pos e1]; right; exact ⟨rfl, Or.inr (by rw [show σ.1 g - 1 + 1 = C.1 by omega])⟩
            · rw [if_neg e1]; left; exact ⟨by omega, by omega, by rw [show σ.1 g - 1 + 1 = σ.1 g + 1 - 1 by omega]⟩
    · rw [if_neg (fun q => hl0 ((nI_eq (by omega) (by decide)).mp (q.trans nI_0.symm)))]
      exact no (Bool.eq_false_iff.mpr (fun z => hl0 (can_t.mp z).2.1))
theorem first_spec {C : Cf} {M : Mem} {s : Nat} {σ : Sm} (hC : COk C) (hM : CfC M C) (hS : IsC C M s σ) (hO : OkM C σ) : f_X1_firstThatCan s M = some (fI (first C σ), M) := by
  have c2 := hC.2.1
  exact firstLoop hC hM hS hO C.2.1 0 FU (by omega) (by show C.2.1 < 2000; omega)
