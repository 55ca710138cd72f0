/-! how groups go through the rooms, purely. at: 0 outside, room + 1, 10 through; through: minute + 1, 0 none. Cf: rooms, groups, corridor, behind, comes, stays; Sm: at, left, waited, through, now -/
abbrev Cf : Type := Nat × Nat × (Nat → Bool) × (Nat → Bool) × (Nat → Nat) × (Nat → Nat → Nat)
abbrev Sm : Type := (Nat → Nat) × (Nat → Nat) × (Nat → Nat) × (Nat → Nat) × Nat
def fs (f : Nat → Nat) (g v : Nat) : Nat → Nat := fun k => if k = g then v else f k
theorem fs_s (f : Nat → Nat) (g v : Nat) : fs f g v g = v := by simp [fs]
theorem fs_n (f : Nat → Nat) {g k : Nat} (v : Nat) (h : k ≠ g) : fs f g v k = f k := by simp [fs, h]
def ins (a : Nat) : Bool := !(a == 0) && !(a == 10)
theorem ins_t {a : Nat} : ins a = true ↔ a ≠ 0 ∧ a ≠ 10 := by simp [ins]
theorem ins_f {a : Nat} : ins a = false ↔ a = 0 ∨ a = 10 := by
  rw [← Bool.not_eq_true, ins_t]; omega
def occ (A : Nat → Nat) (a : Nat) : Bool := A 0 == a || A 1 == a || A 2 == a || A 3 == a || A 4 == a || A 5 == a
theorem lt6 {p : Nat → Prop} (h : ∃ g, g < 6 ∧ p g) : p 0 ∨ p 1 ∨ p 2 ∨ p 3 ∨ p 4 ∨ p 5 := by
  obtain ⟨g, hg, hp⟩ := h
  match g, hg, hp with
  | 0, _, h => exact Or.inl h
  | 1, _, h => exact Or.inr (Or.inl h)
  | 2, _, h => exact Or.inr (Or.inr (Or.inl h))
  | 3, _, h => exact Or.inr (Or.inr (Or.inr (Or.inl h)))
  | 4, _, h => exact Or.inr (Or.inr (Or.inr (Or.inr (Or.inl h))))
  | 5, _, h => exact Or.inr (Or.inr (Or.inr (Or.inr (Or.inr h))))
  | k + 6, hk, _ => omega
theorem occ_t {A : Nat → Nat} {a : Nat} : occ A a = true ↔ ∃ g, g < 6 ∧ A g = a := by
  unfold occ
  simp only [Bool.or_eq_true, beq_iff_eq, or_assoc]
  constructor
  · rintro (h | h | h | h | h | h)
    · exact ⟨0, by decide, h⟩
    · exact ⟨1, by decide, h⟩
    · exact ⟨2, by decide, h⟩
    · exact ⟨3, by decide, h⟩
    · exact ⟨4, by decide, h⟩
    · exact ⟨5, by decide, h⟩
  · exact lt6
def nx (C : Cf) (g a : Nat) : Nat := if C.2.2.2.1 g = true then (if a = 1 then 10 else a - 1) else (if a = C.1 then 10 else a + 1)
def free (C : Cf) (A : Nat → Nat) (a : Nat) : Bool := a == 10 || C.2.2.1 (a - 1) || !occ A a
def can (C : Cf) (σ : Sm) (g : Nat) : Bool := ins (σ.1 g) && σ.2.1 g == 0 && free C σ.1 (nx C g (σ.1 g))
theorem can_t {C : Cf} {σ : Sm} {g : Nat} : can C σ g = true ↔ ins (σ.1 g) = true ∧ σ.2.1 g = 0 ∧ free C σ.1 (nx C g (σ.1 g)) = true := by
  simp [can, and_assoc]
def fstF (p : Nat → Bool) : Nat → Nat → Option Nat
  | 0, _ => none
  | k + 1, g => if p g = true then some g else fstF p k (g + 1)
theorem fstF_some {p : Nat → Bool} {h : Nat} : ∀ {k g : Nat}, fstF p k g = some h → g ≤ h ∧ h < g + k ∧ p h = true
  | 0, _, e => by cases e
  | k + 1, g, e => by
    unfold fstF at e
    by_cases hp : p g = true
    · rw [if_pos hp] at e
      cases e
      exact ⟨Nat.le_refl _, by omega, hp⟩
    · rw [if_neg hp] at e
      obtain ⟨h1, h2, h3⟩ := fstF_some e
      exact ⟨by omega, by omega, h3⟩
theorem fstF_none {p : Nat → Bool} : ∀ {k g : Nat}, fstF p k g = none ↔ ∀ h, g ≤ h → h < g + k → p h = false
  | 0, g => by
    constructor
    · intro _ h h1 h2; omega
    · intro _; rfl
  | k + 1, g => by
    unfold fstF
    by_cases hp : p g = true
    · rw [if_pos hp]
      constructor
      · intro e; cases e
      · intro e
        rw [e g (Nat.le_refl _) (by omega)] at hp
        cases hp
    · rw [if_neg hp, fstF_none]
      constructor
      · intro e h h1 h2
        by_cases e2 : h = g
        · subst e2; exact Bool.eq_false_iff.mpr hp
        · exact e h (by omega) (by omega)
      · intro e h h1 h2
        exact e h (by omega) (by omega)
theorem fstF_ext {p q : Nat → Bool} : ∀ {k g : Nat}, (∀ h, g ≤ h → h < g + k → p h = q h) → fstF p k g = fstF q k g
  | 0, _, _ => rfl
  | k + 1, g, e => by
    unfold fstF
    rw [e g (Nat.le_refl _) (by omega), fstF_ext (fun h h1 h2 => e h (by omega) (by omega))]
def first (C : Cf) (σ : Sm) : Option Nat := fstF (can C σ) C.2.1 0
def put (C : Cf) (σ : Sm) (g a : Nat) : Sm := if a = 10 then (fs σ.1 g 10, fs σ.2.1 g 0, σ.2.2.1, fs σ.2.2.2.1 g (σ.2.2.2.2 + 1), σ.2.2.2.2) else (fs σ.1 g a, fs σ.2.1 g (C.2.2.2.2.2 g (a - 1)), σ.2.2.1, σ.2.2.2.1, σ.2.2.2.2)
def step (C : Cf) (σ : Sm) (g : Nat) : Sm := put C σ g (nx C g (σ.1 g))
def frm (C : Cf) (g : Nat) : Nat := if C.2.2.2.1 g = true then C.1 else 1
def off (C : Cf) (σ : Sm) (g : Nat) : Sm := put C σ g (frm C g)
def run (C : Cf) : Nat → Sm × (Nat → Bool) → Sm × (Nat → Bool)
  | 0, p => p
  | k + 1, p => match first C p.1 with
    | none => p
    | some g => run C k (step C p.1 g, fun h => if h = g then true else p.2 h)
def dec (σ : Sm) : Sm := (σ.1, fun g => σ.2.1 g - 1, σ.2.2.1, σ.2.2.2.1, σ.2.2.2.2)
def wtb (σ : Sm) (g : Nat) : Bool := ins (σ.1 g) && σ.2.1 g == 0
def mid (C : Cf) (σ : Sm) : Sm × (Nat → Bool) := run C 36 (dec σ, fun _ => false)
def fin (τ : Sm) : Sm := (τ.1, τ.2.1, fun g => if wtb τ g = true then τ.2.2.1 g + 1 else τ.2.2.1 g, τ.2.2.2.1, τ.2.2.2.2 + 1)
def minute (C : Cf) (σ : Sm) : Sm := fin (mid C σ).1
def mn (C : Cf) : Nat → Sm → Sm
  | 0, σ => σ
  | k + 1, σ => mn C k (minute C σ)
theorem mn_add (C : Cf) : ∀ (a b : Nat) (σ : Sm), mn C (a + b) σ = mn C b (mn C a σ)
  | 0, b, σ => by rw [Nat.zero_add]; rfl
  | a + 1, b, σ => by
    rw [show a + 1 + b = (a + b) + 1 by omega]
    exact mn_add C a b (minute C σ)
theorem mn_1 (C : Cf) (σ : Sm) : mn C 1 σ = minute C σ := rfl
theorem mn_s (C : Cf) (k : Nat) (σ : Sm) : mn C (k + 1) σ = minute C (mn C k σ) := by rw [mn_add]; rfl
/-! what holds always -/
def COk (C : Cf) : Prop := C.1 ≤ 6 ∧ C.2.1 ≤ 6 ∧ (∀ g r, C.2.2.2.2.2 g r ≤ 30) ∧ (0 < C.2.1 → 0 < C.1) ∧ ∀ g, C.2.2.2.2.1 g ≤ 99
/-- but for its first part: where all are -/
def Ok (C : Cf) (σ : Sm) : Prop :=
  (∀ g, σ.1 g ≤ C.1 ∨ σ.1 g = 10) ∧ (∀ g, C.2.1 ≤ g → σ.1 g = 0) ∧ (∀ g, ins (σ.1 g) = false → σ.2.1 g = 0) ∧ (∀ g, σ.1 g = 0 → σ.2.2.1 g = 0) ∧ (∀ g, σ.2.1 g ≤ 99) ∧ (∀ g, σ.1 g ≠ 10 → σ.2.2.2.1 g = 0) ∧ (∀ g, σ.2.2.2.1 g ≤ σ.2.2.2.2) ∧ (∀ g, σ.1 g = 10 → 0 < σ.2.2.2.1 g) ∧ (∀ g, σ.2.2.1 g ≤ σ.2.2.2.2) ∧ ∀ g h, g ≠ h → σ.1 g = σ.1 h → ins (σ.1 g) = true → C.2.2.1 (σ.1 g - 1) = true
/-- while a minute goes by: one through may have got through just now -/
def OkM (C : Cf) (σ : Sm) : Prop :=
  (∀ g, σ.1 g ≤ C.1 ∨ σ.1 g = 10) ∧ (∀ g, C.2.1 ≤ g → σ.1 g = 0) ∧ (∀ g, ins (σ.1 g) = false → σ.2.1 g = 0) ∧ (∀ g, σ.1 g = 0 → σ.2.2.1 g = 0) ∧ (∀ g, σ.2.1 g ≤ 99) ∧ (∀ g, σ.1 g ≠ 10 → σ.2.2.2.1 g = 0) ∧ (∀ g, σ.2.2.2.1 g ≤ σ.2.2.2.2 + 1) ∧ (∀ g, σ.1 g = 10 → 0 < σ.2.2.2.1 g) ∧ (∀ g, σ.2.2.1 g ≤ σ.2.2.2.2) ∧ ∀ g h, g ≠ h → σ.1 g = σ.1 h → ins (σ.1 g) = true → C.2.2.1 (σ.1 g - 1) = true
theorem Ok.toM {C : Cf} {σ : Sm} (h : Ok C σ) : OkM C σ := ⟨h.1, h.2.1, h.2.2.1, h.2.2.2.1, h.2.2.2.2.1, h.2.2.2.2.2.1, fun g => Nat.le_succ_of_le (h.2.2.2.2.2.2.1 g), h.2.2.2.2.2.2.2.1, h.2.2.2.2.2.2.2.2.1, h.2.2.2.2.2.2.2.2.2⟩
theorem okm_dec {C : Cf} {σ : Sm} (h : OkM C σ) : OkM C (dec σ) := by
  obtain ⟨h1, h2, h3, h4, h5, h6⟩ := h
  exact ⟨h1, h2, fun g hg => by show σ.2.1 g - 1 = 0; rw [h3 g hg], h4, fun g => by show σ.2.1 g - 1 ≤ 99; have := h5 g; omega, h6⟩
theorem free_t {C : Cf} {A : Nat → Nat} {a : Nat} : free C A a = true ↔ a = 10 ∨ C.2.2.1 (a - 1) = true ∨ ∀ g, g < 6 → A g ≠ a := by
  unfold free
  simp only [Bool.or_eq_true, beq_iff_eq, or_assoc, Bool.not_eq_true']
  have : occ A a = false ↔ ∀ g, g < 6 → A g ≠ a := by
    rw [← Bool.not_eq_true, occ_t]
    constructor
    · intro h g hg e; exact h ⟨g, hg, e⟩
    · rintro h ⟨g, hg, e⟩; exact h g hg e
  rw [this]
/-- one is put into a room that is free, or through -/
theorem okm_put {C : Cf} {σ : Sm} {g a : Nat} (hC : COk C) (h : OkM C σ) (hg : g < C.2.1) (ha : (0 < a ∧ a ≤ C.1) ∨ a = 10) (hf : free C σ.1 a = true) (hw : a ≠ 10 → σ.1 g ≠ 10) : OkM C (put C σ g a) := by
  obtain ⟨h1, h2, h3, h4, h5, h6, h7, h8, h9, h10⟩ := h
  obtain ⟨c1, c2, c3, c4⟩ := hC
  by_cases e : a = 10
  · subst e
    have e2 : put C σ g 10 = (fs σ.1 g 10, fs σ.2.1 g 0, σ.2.2.1, fs σ.2.2.2.1 g (σ.2.2.2.2 + 1), σ.2.2.2.2) := if_pos rfl
    rw [e2]
    refine ⟨fun k => ?_, fun k hk => ?_, fun k hk => ?_, fun k hk => ?_, fun k => ?_, fun k hk => ?_, fun k => ?_, fun k hk => ?_, h9, fun k j hkj hk hi => ?_⟩
    · by_cases q : k = g
      · subst q; right; exact fs_s _ _ _
      · show fs σ.1 g 10 k ≤ C.1 ∨ fs σ.1 g 10 k = 10; rw [fs_n _ _ q]; exact h1 k
    · show fs σ.1 g 10 k = 0; rw [fs_n _ _ (by omega)]; exact h2 k hk
    · by_cases q : k = g
      · subst q; exact fs_s _ _ _
      · have hk2 : ins (fs σ.1 g 10 k) = false := hk
        rw [fs_n _ _ q] at hk2
        show fs σ.2.1 g 0 k = 0
        rw [fs_n _ _ q]; exact h3 k hk2
    · by_cases q : k = g
      · subst q
        have hk2 : fs σ.1 k 10 k = 0 := hk
        rw [fs_s] at hk2; cases hk2
      · have hk2 : fs σ.1 g 10 k = 0 := hk
        rw [fs_n _ _ q] at hk2; exact h4 k hk2
    · by_cases q : k = g
      · subst q; show fs σ.2.1 k 0 k ≤ 99; rw [fs_s]; omega
      · show fs σ.2.1 g 0 k ≤ 99; rw [fs_n _ _ q]; exact h5 k
    · by_cases q : k = g
      · subst q
        exact absurd (fs_s _ _ _) hk
      · have hk2 : fs σ.1 g 10 k ≠ 10 := hk
        rw [fs_n _ _ q] at hk2
        show fs σ.2.2.2.1 g _ k = 0
        rw [fs_n _ _ q]; exact h6 k hk2
    · by_cases q : k = g
      · subst q; show fs σ.2.2.2.1 k _ k ≤ _; rw [fs_s]; exact Nat.le_refl _
      · show fs σ.2.2.2.1 g _ k ≤ _; rw [fs_n _ _ q]; exact h7 k
    · by_cases q : k = g
      · subst q; show 0 < fs σ.2.2.2.1 k _ k; rw [fs_s]; omega
      · have hk2 : fs σ.1 g 10 k = 10 := hk
        rw [fs_n _ _ q] at hk2
        show 0 < fs σ.2.2.2.1 g _ k
        rw [fs_n _ _ q]; exact h8 k hk2
    · have hk2 : fs σ.1 g 10 k = fs σ.1 g 10 j := hk
      have hi2 : ins (fs σ.1 g 10 k) = true := hi
      have q : k ≠ g := by
        intro q; subst q; rw [fs_s] at hi2; exact absurd hi2 (by decide)
      have q2 : j ≠ g := by
        intro q2; subst q2; rw [hk2, fs_s] at hi2; exact absurd hi2 (by decide)
      rw [fs_n _ _ q] at hk2 hi2
      rw [fs_n _ _ q2] at hk2
      show C.2.2.1 (fs σ.1 g 10 k - 1) = true
      rw [fs_n _ _ q]
      exact h10 k j hkj hk2 hi2
  · have e2 : put C σ g a = (fs σ.1 g a, fs σ.2.1 g (C.2.2.2.2.2 g (a - 1)), σ.2.2.1, σ.2.2.2.1, σ.2.2.2.2) := if_neg e
    have ha2 : 0 < a ∧ a ≤ C.1 := by
      rcases ha with h | h
      · exact h
      · exact absurd h e
    have hia : ins a = true := ins_t.mpr ⟨by omega, e⟩
    rw [e2]
    refine ⟨fun k => ?_, fun k hk => ?_, fun k hk => ?_, fun k hk => ?_, fun k => ?_, fun k hk => ?_, h7, fun k hk => ?_, h9, fun k j hkj hk hi => ?_⟩
    · by_cases q : k = g
      · subst q; left; show fs σ.1 k a k ≤ C.1; rw [fs_s]; exact ha2.2
      · show fs σ.1 g a k ≤ C.1 ∨ fs σ.1 g a k = 10; rw [fs_n _ _ q]; exact h1 k
    · show fs σ.1 g a k = 0; rw [fs_n _ _ (by omega)]; exact h2 k hk
    · by_cases q : k = g
      · subst q
        have hk2 : ins (fs σ.1 k a k) = false := hk
        rw [fs_s, hia] at hk2; cases hk2
      · have hk2 : ins (fs σ.1 g a k) = false := hk
        rw [fs_n _ _ q] at hk2
        show fs σ.2.1 g _ k = 0
        rw [fs_n _ _ q]; exact h3 k hk2
    · by_cases q : k = g
      · subst q
        have hk2 : fs σ.1 k a k = 0 := hk
        rw [fs_s] at hk2; omega
      · have hk2 : fs σ.1 g a k = 0 := hk
        rw [fs_n _ _ q] at hk2; exact h4 k hk2
    · by_cases q : k = g
      · subst q; show fs σ.2.1 k _ k ≤ 99; rw [fs_s]; have := c3 k (a - 1); omega
      · show fs σ.2.1 g _ k ≤ 99; rw [fs_n _ _ q]; exact h5 k
    · by_cases q : k = g
      · subst q; exact h6 k (hw e)
      · have hk2 : fs σ.1 g a k ≠ 10 := hk
        rw [fs_n _ _ q] at hk2; exact h6 k hk2
    · by_cases q : k = g
      · subst q
        have hk2 : fs σ.1 k a k = 10 := hk
        rw [fs_s] at hk2; exact absurd hk2 e
      · have hk2 : fs σ.1 g a k = 10 := hk
        rw [fs_n _ _ q] at hk2; exact h8 k hk2
    · have hk2 : fs σ.1 g a k = fs σ.1 g a j := hk
      have hi2 : ins (fs σ.1 g a k) = true := hi
      show C.2.2.1 (fs σ.1 g a k - 1) = true
      have key : ∀ x, x ≠ g → σ.1 x = a → C.2.2.1 (a - 1) = true := by
        intro x hx ex
        rcases free_t.mp hf with f | f | f
        · exact absurd f e
        · exact f
        · have hx6 : x < 6 := by
            apply Classical.byContradiction
            intro hn
            have := h2 x (by omega)
            omega
          exact absurd ex (f x hx6)
      by_cases q : k = g
      · subst q
        rw [fs_s] at hk2 hi2 ⊢
        rw [fs_n _ _ (Ne.symm hkj)] at hk2
        exact key j (Ne.symm hkj) hk2.symm
      · rw [fs_n _ _ q] at hk2 hi2 ⊢
        by_cases q2 : j = g
        · subst q2
          rw [fs_s] at hk2
          rw [hk2]
          exact key k q hk2
        · rw [fs_n _ _ q2] at hk2
          exact h10 k j hkj hk2 hi2
theorem nx_ok {C : Cf} {g a : Nat} (h : 0 < a ∧ a ≤ C.1) : (0 < nx C g a ∧ nx C g a ≤ C.1) ∨ nx C g a = 10 := by
  unfold nx
  split
  · split
    · right; rfl
    · left; omega
  · split
    · right; rfl
    · left; omega
theorem ins_le {C : Cf} {σ : Sm} (h : OkM C σ) {g : Nat} (hi : ins (σ.1 g) = true) : 0 < σ.1 g ∧ σ.1 g ≤ C.1 := by
  have := ins_t.mp hi
  rcases h.1 g with q | q
  · omega
  · omega
theorem first_some {C : Cf} {σ : Sm} {g : Nat} (h : first C σ = some g) : g < C.2.1 ∧ ins (σ.1 g) = true ∧ σ.2.1 g = 0 ∧ free C σ.1 (nx C g (σ.1 g)) = true := by
  obtain ⟨_, h2, h3⟩ := fstF_some h
  exact ⟨by omega, can_t.mp h3⟩
theorem okm_step {C : Cf} {σ : Sm} {g : Nat} (hC : COk C) (h : OkM C σ) (hf : first C σ = some g) : OkM C (step C σ g) := by
  obtain ⟨h1, h2, h3, h4⟩ := first_some hf
  exact okm_put hC h h1 (nx_ok (ins_le h h2)) h4 (fun _ => (ins_t.mp h2).2)
theorem okm_run {C : Cf} (hC : COk C) : ∀ (k : Nat) {p : Sm × (Nat → Bool)}, OkM C p.1 → OkM C (run C k p).1
  | 0, _, h => h
  | k + 1, p, h => by
    unfold run
    cases e : first C p.1 with
    | none => exact h
    | some g => exact okm_run hC k (okm_step hC h e)
theorem okm_fin {C : Cf} {σ : Sm} (h : OkM C σ) : Ok C (fin σ) := by
  obtain ⟨h1, h2, h3, h4, h5, h6, h7, h8, h9, h10⟩ := h
  refine ⟨h1, h2, h3, fun g hg => ?_, h5, h6, h7, h8, fun g => ?_, h10⟩
  · show (if wtb σ g = true then _ else _) = 0
    have hg2 : σ.1 g = 0 := hg
    rw [if_neg (by unfold wtb; rw [hg2]; simp [ins])]
    exact h4 g hg2
  · show (if wtb σ g = true then σ.2.2.1 g + 1 else σ.2.2.1 g) ≤ σ.2.2.2.2 + 1
    have := h9 g
    split <;> omega
theorem ok_minute {C : Cf} {σ : Sm} (hC : COk C) (h : Ok C σ) : Ok C (minute C σ) := okm_fin (okm_run hC 36 (p := (dec σ, fun _ => false)) (okm_dec h.toM))
theorem ok_mn {C : Cf} (hC : COk C) : ∀ (k : Nat) {σ : Sm}, Ok C σ → Ok C (mn C k σ)
  | 0, _, h => h
  | k + 1, _, h => ok_mn hC k (ok_minute hC h)
theorem run_now (C : Cf) : ∀ (k : Nat) (p : Sm × (Nat → Bool)), (run C k p).1.2.2.2.2 = p.1.2.2.2.2
  | 0, _ => rfl
  | k + 1, p => by
    unfold run
    cases e : first C p.1 with
    | none => rfl
    | some g =>
      show (run C k _).1.2.2.2.2 = _
      rw [run_now C k]
      unfold step put
      split <;> rfl
theorem minute_now (C : Cf) (σ : Sm) : (minute C σ).2.2.2.2 = σ.2.2.2.2 + 1 := by
  show (mid C σ).1.2.2.2.2 + 1 = _
  unfold mid
  rw [run_now]
  rfl
theorem mn_now (C : Cf) : ∀ (k : Nat) (σ : Sm), (mn C k σ).2.2.2.2 = σ.2.2.2.2 + k
  | 0, _ => rfl
  | k + 1, σ => by
    show (mn C k (minute C σ)).2.2.2.2 = _
    rw [mn_now C k, minute_now]
    omega
/-! it comes to an end: 36 steps are enough -/
def wy (C : Cf) (g a : Nat) : Nat := if ins a = true then (if C.2.2.2.1 g = true then a else C.1 + 1 - a) else 0
def mu (C : Cf) (σ : Sm) : Nat := wy C 0 (σ.1 0) + wy C 1 (σ.1 1) + wy C 2 (σ.1 2) + wy C 3 (σ.1 3) + wy C 4 (σ.1 4) + wy C 5 (σ.1 5)
theorem wy_le {C : Cf} {σ : Sm} (hC : COk C) (h : OkM C σ) (g : Nat) : wy C g (σ.1 g) ≤ 6 := by
  unfold wy
  have := hC.1
  split
  · rename_i hi
    have := ins_le h hi
    split <;> omega
  · omega
theorem mu_le {C : Cf} {σ : Sm} (hC : COk C) (h : OkM C σ) : mu C σ ≤ 36 := by
  have h0 := wy_le hC h 0
  have h1 := wy_le hC h 1
  have h2 := wy_le hC h 2
  have h3 := wy_le hC h 3
  have h4 := wy_le hC h 4
  have h5 := wy_le hC h 5
  unfold mu
  omega
theorem put_at (C : Cf) (σ : Sm) (g a : Nat) : (put C σ g a).1 = fs σ.1 g a := by
  unfold put
  split
  · rename_i h; subst h; rfl
  · rfl
theorem wy_nx {C : Cf} {g a : Nat} (hC : COk C) (h : 0 < a ∧ a ≤ C.1) (hi : ins a = true) : wy C g (nx C g a) < wy C g a := by
  have c1 := hC.1
  unfold wy
  rw [if_pos hi]
  unfold nx
  by_cases hb : C.2.2.2.1 g = true
  · rw [if_pos hb, if_pos hb]
    by_cases h1 : a = 1
    · simp only [if_pos h1, show ins 10 = false from rfl, Bool.false_eq_true, if_false]; split <;> omega
    · rw [if_neg h1]
      split <;> omega
  · rw [if_neg hb, if_neg hb]
    by_cases h1 : a = C.1
    · simp only [if_pos h1, show ins 10 = false from rfl, Bool.false_eq_true, if_false]; split <;> omega
    · rw [if_neg h1]
      split <;> omega
theorem mu_step {C : Cf} {σ : Sm} {g : Nat} (hC : COk C) (h : OkM C σ) (hf : first C σ = some g) : mu C (step C σ g) < mu C σ := by
  obtain ⟨h1, h2, h3, h4⟩ := first_some hf
  have hlt := wy_nx (g := g) hC (ins_le h h2) h2
  have hg6 : g < 6 := by have := hC.2.1; omega
  have e : (step C σ g).1 = fs σ.1 g (nx C g (σ.1 g)) := put_at C σ g _
  have key : ∀ k, k ≠ g → wy C k (fs σ.1 g (nx C g (σ.1 g)) k) = wy C k (σ.1 k) := fun k hk => by rw [fs_n _ _ hk]
  have keyg : wy C g (fs σ.1 g (nx C g (σ.1 g)) g) < wy C g (σ.1 g) := by rw [fs_s]; exact hlt
  unfold mu
  rw [e]
  match g, hg6, key, keyg with
  | 0, _, key, keyg => rw [key 1 (by decide), key 2 (by decide), key 3 (by decide), key 4 (by decide), key 5 (by decide)]; omega
  | 1, _, key, keyg => rw [key 0 (by decide), key 2 (by decide), key 3 (by decide), key 4 (by decide), key 5 (by decide)]; omega
  | 2, _, key, keyg => rw [key 0 (by decide), key 1 (by decide), key 3 (by decide), key 4 (by decide), key 5 (by decide)]; omega
  | 3, _, key, keyg => rw [key 0 (by decide), key 1 (by decide), key 2 (by decide), key 4 (by decide), key 5 (by decide)]; omega
  | 4, _, key, keyg => rw [key 0 (by decide), key 1 (by decide), key 2 (by decide), key 3 (by decide), key 5 (by decide)]; omega
  | 5, _, key, keyg => rw [key 0 (by decide), key 1 (by decide), key 2 (by decide), key 3 (by decide), key 4 (by decide)]; omega
theorem run_more {C : Cf} (hC : COk C) : ∀ (k j : Nat) (p : Sm × (Nat → Bool)), OkM C p.1 → mu C p.1 ≤ k → mu C p.1 ≤ j → run C k p = run C j p := by
  intro k
  induction k with
  | zero =>
    intro j p h hk hj
    have e : first C p.1 = none := by
      cases e : first C p.1 with
      | none => rfl
      | some g => have := mu_step hC h e; omega
    cases j with
    | zero => rfl
    | succ j => unfold run; rw [e]
  | succ k ih =>
    intro j p h hk hj
    cases e : first C p.1 with
    | none =>
      cases j with
      | zero => unfold run; rw [e]
      | succ j => unfold run; rw [e]
    | some g =>
      have hm := mu_step hC h e
      cases j with
      | zero => omega
      | succ j =>
        unfold run
        rw [e]
        exact ih j _ (okm_step hC h e) (by show mu C (step C p.1 g) ≤ k; omega) (by show mu C (step C p.1 g) ≤ j; omega)
/-! quiet minutes -/
def quiet (q : Nat) (σ : Sm) : Sm := (σ.1, fun g => if 0 < σ.2.1 g then σ.2.1 g - q else σ.2.1 g, fun g => if wtb σ g = true then σ.2.2.1 g + q else σ.2.2.1 g, σ.2.2.2.1, σ.2.2.2.2 + q)
theorem sm_ext {σ τ : Sm} (h1 : σ.1 = τ.1) (h2 : σ.2.1 = τ.2.1) (h3 : σ.2.2.1 = τ.2.2.1) (h4 : σ.2.2.2.1 = τ.2.2.2.1) (h5 : σ.2.2.2.2 = τ.2.2.2.2) : σ = τ := by
  obtain ⟨a, b, c, d, e⟩ := σ
  obtain ⟨a', b', c', d', e'⟩ := τ
  simp only at h1 h2 h3 h4 h5
  subst h1 h2 h3 h4 h5
  rfl
theorem quiet_0 (σ : Sm) : quiet 0 σ = σ := by
  refine sm_ext rfl (funext fun g => ?_) (funext fun g => ?_) rfl rfl
  · show (if 0 < σ.2.1 g then σ.2.1 g - 0 else σ.2.1 g) = _
    split <;> rfl
  · show (if wtb σ g = true then σ.2.2.1 g + 0 else σ.2.2.1 g) = _
    split <;> rfl
theorem first_quiet {C : Cf} {σ : Sm} {q : Nat} (hq : ∀ g, 0 < σ.2.1 g → q < σ.2.1 g) : first C (quiet q σ) = first C σ := by
  unfold first
  apply fstF_ext
  intro h _ _
  unfold can
  have : ((quiet q σ).2.1 h == 0) = (σ.2.1 h == 0) := by
    show ((if 0 < σ.2.1 h then σ.2.1 h - q else σ.2.1 h) == 0) = _
    by_cases h0 : 0 < σ.2.1 h
    · rw [if_pos h0]
      have := hq h h0
      rw [Bool.eq_iff_iff, beq_iff_eq, beq_iff_eq]
      omega
    · rw [if_neg h0]
  rw [this]
  rfl
/-- a minute in which nobody can step on and none comes to its last one -/
theorem minute_quiet {C : Cf} {σ : Sm} (hn : first C σ = none) (h2 : ∀ g, 0 < σ.2.1 g → 1 < σ.2.1 g) : minute C σ = quiet 1 σ := by
  have e0 : ∀ g, (σ.2.1 g - 1 == 0) = (σ.2.1 g == 0) := by
    intro g
    rw [Bool.eq_iff_iff, beq_iff_eq, beq_iff_eq]
    by_cases h0 : 0 < σ.2.1 g
    · have := h2 g h0; omega
    · omega
  have e1 : first C (dec σ) = none := by
    rw [← hn]
    unfold first
    apply fstF_ext
    intro h _ _
    unfold can
    show (ins (σ.1 h) && (σ.2.1 h - 1 == 0) && _) = _
    rw [e0 h]
    rfl
  have e2 : (mid C σ).1 = dec σ := by
    unfold mid run
    rw [e1]
  unfold minute
  rw [e2]
  refine sm_ext rfl (funext fun g => ?_) (funext fun g => ?_) rfl rfl
  · show σ.2.1 g - 1 = if 0 < σ.2.1 g then σ.2.1 g - 1 else σ.2.1 g
    split <;> omega
  · show (if wtb (dec σ) g = true then σ.2.2.1 g + 1 else σ.2.2.1 g) = if wtb σ g = true then σ.2.2.1 g + 1 else σ.2.2.1 g
    have : wtb (dec σ) g = wtb σ g := by
      unfold wtb
      show (ins (σ.1 g) && (σ.2.1 g - 1 == 0)) = _
      rw [e0 g]
    rw [this]
theorem quiet_add {σ : Sm} {a b : Nat} (h : ∀ g, 0 < σ.2.1 g → a < σ.2.1 g) : quiet b (quiet a σ) = quiet (a + b) σ := by
  have ew : ∀ g, wtb (quiet a σ) g = wtb σ g := by
    intro g
    unfold wtb
    have : ((quiet a σ).2.1 g == 0) = (σ.2.1 g == 0) := by
      show ((if 0 < σ.2.1 g then σ.2.1 g - a else σ.2.1 g) == 0) = _
      rw [Bool.eq_iff_iff, beq_iff_eq, beq_iff_eq]
      by_cases h0 : 0 < σ.2.1 g
      · rw [if_pos h0]; have := h g h0; omega
      · rw [if_neg h0]
    rw [this]
    rfl
  refine sm_ext rfl (funext fun g => ?_) (funext fun g => ?_) rfl (by show σ.2.2.2.2 + a + b = σ.2.2.2.2 + (a + b); omega)
  · show (if 0 < (if 0 < σ.2.1 g then σ.2.1 g - a else σ.2.1 g) then (if 0 < σ.2.1 g then σ.2.1 g - a else σ.2.1 g) - b else (if 0 < σ.2.1 g then σ.2.1 g - a else σ.2.1 g)) = if 0 < σ.2.1 g then σ.2.1 g - (a + b) else σ.2.1 g
    by_cases h0 : 0 < σ.2.1 g
    · have := h g h0
      simp only [if_pos h0]
      rw [if_pos (by omega)]
      omega
    · simp only [if_neg h0]
  · show (if wtb (quiet a σ) g = true then (if wtb σ g = true then σ.2.2.1 g + a else σ.2.2.1 g) + b else (if wtb σ g = true then σ.2.2.1 g + a else σ.2.2.1 g)) = if wtb σ g = true then σ.2.2.1 g + (a + b) else σ.2.2.1 g
    rw [ew g]
    by_cases h0 : wtb σ g = true
    · simp only [if_pos h0]; omega
    · simp only [if_neg h0]
theorem mn_quiet {C : Cf} {σ : Sm} (hn : first C σ = none) : ∀ (q : Nat), (∀ g, 0 < σ.2.1 g → q < σ.2.1 g) → mn C q σ = quiet q σ
  | 0, _ => (quiet_0 σ).symm
  | q + 1, h => by
    rw [mn_s, mn_quiet hn q (fun g hg => by have := h g hg; omega)]
    have hq : ∀ g, 0 < σ.2.1 g → q < σ.2.1 g := fun g hg => by have := h g hg; omega
    rw [minute_quiet (by rw [first_quiet hq]; exact hn) (fun g hg => by
      have hg2 : 0 < (if 0 < σ.2.1 g then σ.2.1 g - q else σ.2.1 g) := hg
      show 1 < (if 0 < σ.2.1 g then σ.2.1 g - q else σ.2.1 g)
      by_cases h0 : 0 < σ.2.1 g
      · rw [if_pos h0] at hg2 ⊢; have := h g h0; omega
      · rw [if_neg h0] at hg2; exact absurd hg2 h0)]
    exact quiet_add hq
