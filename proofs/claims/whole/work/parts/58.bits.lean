/-! bits of groups, sums over groups -/
theorem bitsF_eq (p : Nat → Prop) [DecidablePred p] : ∀ (m g : Nat) (a : Int32), bitsF p m g a = foldF (fun g a => if p g then obit g a else a) m g a
  | 0, _, _ => rfl
  | m + 1, g, a => by
    show bitsF p m (g + 1) _ = foldF _ m (g + 1) _
    rw [bitsF_eq p m (g + 1)]
    rfl
theorem at_lt {C : Cf} {σ : Sm} (hC : COk C) (hO : OkM C σ) (g : Nat) : σ.1 g ≤ 10 := by
  have := hC.1
  rcases hO.1 g with h | h <;> omega
theorem ci_ins {C : Cf} {M : Mem} {s : Nat} {σ : Sm} (hC : COk C) (hS : IsC C M s σ) (hO : OkM C σ) : f_X7_bitsInside s M = some (bI (fun g => ins (σ.1 g)), M) := by
  rw [bitsInside_spec]
  congr 2
  unfold bI
  refine foldF_ext 6 0 0 (fun k x _ hk => ?_)
  have hA := at_lt hC hO k
  rw [hS.1 k (by omega)]
  by_cases e : σ.1 k = 0
  · rw [if_pos ((pI_m1 (by omega)).mpr e), if_neg (by show ¬ ins (σ.1 k) = true; rw [e]; decide)]
  · rw [if_neg (fun z => e ((pI_m1 (by omega)).mp z))]
    by_cases e2 : σ.1 k = 10
    · rw [if_pos ((pI_9 (by omega)).mpr e2), if_neg (by show ¬ ins (σ.1 k) = true; rw [e2]; decide)]
    · rw [if_neg (fun z => e2 ((pI_9 (by omega)).mp z)), if_pos (ins_t.mpr ⟨e, e2⟩)]
theorem ci_in {C : Cf} {M : Mem} {s : Nat} {σ : Sm} (hC : COk C) (hS : IsC C M s σ) (hO : OkM C σ) {b : Nat} (hb : b < 2 ^ 30) : f_X7_bitsIn s (pI b) M = some (bI (fun g => σ.1 g == b), M) := by
  rw [bitsIn_spec, bitsF_eq]
  congr 2
  unfold bI
  refine foldF_ext 6 0 0 (fun k x _ hk => ?_)
  have hA := at_lt hC hO k
  rw [hS.1 k (by omega)]
  by_cases e : σ.1 k = b
  · rw [if_pos (by rw [e]), if_pos (by simp [e])]
  · rw [if_neg (fun z => e ((pI_eq (by omega) (by omega)).mp z)), if_neg (by simp [e])]
theorem ci_thr {C : Cf} {M : Mem} {s : Nat} {σ : Sm} (hC : COk C) (hS : IsC C M s σ) (hO : OkM C σ) : f_X7_bitsThrough s M = some (bI (fun g => σ.1 g == 10), M) := by
  unfold f_X7_bitsThrough f_X7_bitsThrough_0
  rw [show (9 : Int32) = pI 10 by decide, ci_in hC hS hO (by decide)]
  rfl
theorem foldF_nI {f : Nat → Int32 → Int32} {f' : Nat → Nat → Nat} : ∀ (m g a : Nat), (∀ k x, g ≤ k → k < g + m → f k (nI x) = nI (f' k x)) → foldF f m g (nI a) = nI (foldF f' m g a)
  | 0, _, _, _ => rfl
  | m + 1, g, a, h => by
    show foldF f m (g + 1) (f g (nI a)) = nI (foldF f' m (g + 1) (f' g a))
    rw [h g a (Nat.le_refl _) (by omega)]
    exact foldF_nI m (g + 1) _ (fun k x h1 h2 => h k x (by omega) (by omega))
/-- the sum of w over those that p says -/
def sumB (p : Nat → Bool) (w : Nat → Nat) : Nat := foldF (fun g a => if p g = true then a + w g else a) 6 0 0
theorem sumB_eq (p : Nat → Bool) (w : Nat → Nat) : sumB p w = (if p 0 = true then w 0 else 0) + (if p 1 = true then w 1 else 0) + (if p 2 = true then w 2 else 0) + (if p 3 = true then w 3 else 0) + (if p 4 = true then w 4 else 0) + (if p 5 = true then w 5 else 0) := by
  unfold sumB
  rw [foldF_ext (f' := fun g a => a + (if p g = true then w g else 0)) 6 0 0 (fun k x _ _ => by
    show (if p k = true then x + w k else x) = x + (if p k = true then w k else 0)
    split <;> rfl)]
  show 0 + _ + _ + _ + _ + _ + _ = _
  rw [Nat.zero_add]
theorem sumB_ext {p q : Nat → Bool} {w v : Nat → Nat} (h : ∀ g, g < 6 → (if p g = true then w g else 0) = (if q g = true then v g else 0)) : sumB p w = sumB q v := by
  rw [sumB_eq, sumB_eq, h 0 (by decide), h 1 (by decide), h 2 (by decide), h 3 (by decide), h 4 (by decide), h 5 (by decide)]
/-- which groups a number tells as bits -/
def tb (b : Int32) (g : Nat) : Bool := decide (bit b (nI g))
theorem tb_t {b : Int32} {g : Nat} : tb b g = true ↔ bit b (nI g) := by simp [tb]
theorem tb_bI {p : Nat → Bool} {g : Nat} (h : g < 6) : tb (bI p) g = p g := by
  rw [Bool.eq_iff_iff, tb_t, bit_bI p (by omega)]
  exact ⟨fun h => h.2, fun q => ⟨h, q⟩⟩
theorem ci_waited {C : Cf} {M : Mem} {s : Nat} {σ : Sm} (hS : IsC C M s σ) (b : Int32) : f_X7_waitedBy s b M = some (nI (sumB (tb b) σ.2.2.1), M) := by
  rw [waitedBy_spec]
  congr 2
  unfold sumB
  refine foldF_nI 6 0 0 (fun k x _ hk => ?_)
  rw [hS.2.2.1 k (by omega)]
  by_cases h : bit b (nI k)
  · rw [if_pos h, if_pos (tb_t.mpr h), nI_add]
  · rw [if_neg h, if_neg (fun z => h (tb_t.mp z))]
/-- all of c groups -/
def allB (c : Nat) : Nat → Bool := fun g => decide (g < c)
theorem every_n {c : Nat} (h : c ≤ 6) : (1 <<< (nI c &&& 31) : Int32) - 1 = bI (allB c) := by
  have key : ∀ c, c < 7 → (1 <<< (nI c &&& 31) : Int32) - 1 = bI (allB c) := by decide
  exact key c (by omega)
theorem ci_every {C : Cf} {M : Mem} (hC : COk C) (hM : CfC M C) : f_X1_everybody M = some (bI (allB C.2.1), M) := by
  unfold f_X1_everybody f_X1_everybody_0
  rw [hM.2.1, every_n hC.2.1]
theorem ri_every {C : Cf} {M : Mem} (hC : COk C) (hM : CfR M C) : f_X11_everybody M = some (bI (allB C.2.1), M) := by
  unfold f_X11_everybody f_X11_everybody_0
  rw [hM.2.1, every_n hC.2.1]
/-- how many bits -/
def bcn (x : Int32) : Int32 := match f_J6_bitCount_0f7a4 x (fun _ _ => 0) with
  | some q => q.1
  | none => 0
theorem bc_spec (x : Int32) (M : Mem) : f_J6_bitCount_0f7a4 x M = some (bcn x, M) := rfl
theorem bI_6 (p : Nat → Bool) : bI p = bI (fun g => if g = 0 then p 0 else if g = 1 then p 1 else if g = 2 then p 2 else if g = 3 then p 3 else if g = 4 then p 4 else p 5) := bI_ext (fun g hg => by
  match g, hg with
  | 0, _ => rfl
  | 1, _ => rfl
  | 2, _ => rfl
  | 3, _ => rfl
  | 4, _ => rfl
  | 5, _ => rfl)
theorem bcn_bI (p : Nat → Bool) : bcn (bI p) = nI (sumB p (fun _ => 1)) := by
  have key : ∀ b0 b1 b2 b3 b4 b5 : Bool, bcn (bI (fun g => if g = 0 then b0 else if g = 1 then b1 else if g = 2 then b2 else if g = 3 then b3 else if g = 4 then b4 else b5)) = nI ((if b0 = true then 1 else 0) + (if b1 = true then 1 else 0) + (if b2 = true then 1 else 0) + (if b3 = true then 1 else 0) + (if b4 = true then 1 else 0) + (if b5 = true then 1 else 0)) := by decide +kernel
  rw [bI_6, key, sumB_eq]
theorem bI_and (p q : Nat → Bool) : bI p &&& bI q = bI (fun g => p g && q g) := bit_ext (fun r hr => by
  rw [bit_and _ _ hr, bit_bI _ hr, bit_bI _ hr, bit_bI _ hr, Bool.and_eq_true]
  exact ⟨fun h => ⟨h.1.1, h.1.2, h.2.2⟩, fun h => ⟨⟨h.1, h.2.1⟩, h.1, h.2.2⟩⟩)
theorem bI_or (p q : Nat → Bool) : bI p ||| bI q = bI (fun g => p g || q g) := bit_ext (fun r hr => by
  rw [bit_or _ _ hr, bit_bI _ hr, bit_bI _ hr, bit_bI _ hr, Bool.or_eq_true]
  constructor
  · rintro (h | h)
    · exact ⟨h.1, Or.inl h.2⟩
    · exact ⟨h.1, Or.inr h.2⟩
  · rintro ⟨h1, h2 | h2⟩
    · exact Or.inl ⟨h1, h2⟩
    · exact Or.inr ⟨h1, h2⟩)
theorem bI_but (p q : Nat → Bool) : bI p &&& (bI q ^^^ (-1)) = bI (fun g => p g && !(q g)) := bit_ext (fun r hr => by
  rw [bit_and _ _ hr, bit_not _ hr, bit_bI _ hr, bit_bI _ hr, bit_bI _ hr, Bool.and_eq_true]
  constructor
  · rintro ⟨h1, h2⟩
    refine ⟨h1.1, h1.2, ?_⟩
    cases hq : q r with
    | false => rfl
    | true => exact absurd ⟨h1.1, hq⟩ h2
  · rintro ⟨h1, h2, h3⟩
    refine ⟨⟨h1, h2⟩, fun z => ?_⟩
    rw [z.2] at h3
    cases h3)
/-! what a minute does to sums -/
theorem mid_wt (C : Cf) (σ : Sm) : (mid C σ).1.2.2.1 = σ.2.2.1 := by
  have key : ∀ (k : Nat) (p : Sm × (Nat → Bool)), (run C k p).1.2.2.1 = p.1.2.2.1 := by
    intro k
    induction k with
    | zero => intro p; rfl
    | succ k ih =>
      intro p
      unfold run
      cases e : first C p.1 with
      | none => rfl
      | some g =>
        show (run C k _).1.2.2.1 = _
        rw [ih]
        unfold step put
        split <;> rfl
  unfold mid
  rw [key]
  rfl
theorem minute_wt (C : Cf) (σ : Sm) (g : Nat) : (minute C σ).2.2.1 g = σ.2.2.1 g + (if wtb (mid C σ).1 g = true then 1 else 0) := by
  show (if wtb (mid C σ).1 g = true then (mid C σ).1.2.2.1 g + 1 else (mid C σ).1.2.2.1 g) = _
  rw [mid_wt]
  split <;> rfl
theorem minute_at (C : Cf) (σ : Sm) : (minute C σ).1 = (mid C σ).1.1 := rfl
/-- who is through stays so -/
theorem run_thr {C : Cf} : ∀ (k : Nat) (p : Sm × (Nat → Bool)) (g : Nat), p.1.1 g = 10 → (run C k p).1.1 g = 10
  | 0, _, _, h => h
  | k + 1, p, g, h => by
    unfold run
    cases e : first C p.1 with
    | none => exact h
    | some j =>
      refine run_thr k _ g ?_
      obtain ⟨f1, f2, f3, f4⟩ := first_some e
      show (put C p.1 j _).1 g = 10
      rw [put_at]
      by_cases z : g = j
      · subst z; exact absurd h (ins_t.mp f2).2
      · rw [fs_n _ _ z]; exact h
theorem minute_thr {C : Cf} {σ : Sm} {g : Nat} (h : σ.1 g = 10) : (minute C σ).1 g = 10 := by
  rw [minute_at]
  exact run_thr 36 (dec σ, fun _ => false) g h
theorem mn_thr {C : Cf} : ∀ (k : Nat) {σ : Sm} {g : Nat}, σ.1 g = 10 → (mn C k σ).1 g = 10
  | 0, _, _, h => h
  | k + 1, σ, g, h => mn_thr k (σ := minute C σ) (minute_thr h)
