/-! the rule, purely: lk tells the sign at a place (300 behind the end), ev the value of a letter; a reading comes to a fault's place, or to a value and the place behind -/
abbrev PR : Type := Sum Nat (Int32 × Nat)
def lkp (t : Nat → Nat) (L p : Nat) : Nat := if p < L then t p else 300
def isDg (c : Nat) : Bool := decide (48 ≤ c) && decide (c ≤ 57)
def isLt (c : Nat) : Bool := c == 115 || c == 122 || c == 114 || c == 105 || c == 99 || c == 111
def digs (lk : Nat → Nat) : Nat → Nat → Nat → Nat × Nat
  | 0, v, p => (v, p)
  | k + 1, v, p => if isDg (lk p) = true then digs lk k (v * 10 + (lk p - 48)) (p + 1) else (v, p)
def prim (lk : Nat → Nat) (ev : Nat → Int32) (p : Nat) : PR := if isDg (lk p) = true then .inr (nI (digs lk 3 0 p).1, (digs lk 3 0 p).2) else if isLt (lk p) = true then .inr (ev (lk p), p + 1) else .inl p
def sgn (lk : Nat → Nat) (B : Nat → PR) : Nat → Nat → PR
  | 0, p => B p
  | k + 1, p => if lk p = 45 then (match sgn lk B k (p + 1) with
    | .inl f => .inl f
    | .inr w => .inr (-w.1, w.2)) else B p
def dv (x o : Int32) : Int32 := if o = 0 then 0 else x / o
def prodL (lk : Nat → Nat) (S : Nat → PR) : Nat → Int32 → Nat → PR
  | 0, v, p => .inr (v, p)
  | k + 1, v, p => if lk p = 42 then (match S (p + 1) with
    | .inl f => .inl f
    | .inr w => prodL lk S k (v * w.1) w.2) else if lk p = 47 then (match S (p + 1) with
    | .inl f => .inl f
    | .inr w => prodL lk S k (dv v w.1) w.2) else .inr (v, p)
def prodP (lk : Nat → Nat) (S : Nat → PR) (p : Nat) : PR := match S p with
  | .inl f => .inl f
  | .inr w => prodL lk S 40 w.1 w.2
def sumL (lk : Nat → Nat) (P : Nat → PR) : Nat → Int32 → Nat → PR
  | 0, v, p => .inr (v, p)
  | k + 1, v, p => if lk p = 43 then (match P (p + 1) with
    | .inl f => .inl f
    | .inr w => sumL lk P k (v + w.1) w.2) else if lk p = 45 then (match P (p + 1) with
    | .inl f => .inl f
    | .inr w => sumL lk P k (v - w.1) w.2) else .inr (v, p)
def sumP (lk : Nat → Nat) (P : Nat → PR) (p : Nat) : PR := match P p with
  | .inl f => .inl f
  | .inr w => sumL lk P 40 w.1 w.2
def cmpV (c : Nat) (a b : Int32) : Int32 := if c = 60 then b2i (a < b) else if c = 62 then b2i (b < a) else b2i (a = b)
def isCm (c : Nat) : Bool := c == 60 || c == 62 || c == 61
def expr (lk : Nat → Nat) (Q : Nat → PR) (p : Nat) : PR := match Q p with
  | .inl f => .inl f
  | .inr w => if isCm (lk w.2) = true then (match Q (w.2 + 1) with
    | .inl f => .inl f
    | .inr z => .inr (cmpV (lk w.2) w.1 z.1, z.2)) else .inr w
/-- what a thing without signs ahead comes to, B: of one in brackets further -/
def exB (lk : Nat → Nat) (B : Nat → PR) : Nat → PR := expr lk (sumP lk (prodP lk (sgn lk B 40)))
def base (lk : Nat → Nat) (ev : Nat → Int32) : Nat → Nat → PR
  | 0, p => prim lk ev p
  | n + 1, p => if lk p = 40 then (match exB lk (base lk ev n) (p + 1) with
    | .inl f => .inl f
    | .inr w => if lk w.2 = 41 then .inr (w.1, w.2 + 1) else .inl w.2) else prim lk ev p
def evR (t : Nat → Nat) (L : Nat) (ev : Nat → Int32) : PR := exB (lkp t L) (base (lkp t L) ev 4) 0
/-! places go up -/
def Ups (L : Nat) (F : Nat → PR) : Prop := ∀ p v q, F p = .inr (v, q) → p < q ∧ (p ≤ L → q ≤ L)
theorem lkp_hi {t : Nat → Nat} {L p : Nat} (h : L ≤ p) : lkp t L p = 300 := if_neg (by omega)
theorem lkp_lo {t : Nat → Nat} {L p : Nat} (h : lkp t L p ≠ 300) : p < L := by
  apply Classical.byContradiction
  intro q
  exact h (lkp_hi (by omega))
theorem digs_up {t : Nat → Nat} {L : Nat} : ∀ (k v p : Nat), p ≤ (digs (lkp t L) k v p).2 ∧ (p ≤ L → (digs (lkp t L) k v p).2 ≤ L)
  | 0, _, _ => ⟨Nat.le_refl _, fun h => h⟩
  | k + 1, v, p => by
    unfold digs
    by_cases h : isDg (lkp t L p) = true
    · rw [if_pos h]
      have hl : p < L := lkp_lo (t := t) (fun e => by rw [e] at h; exact absurd h (by decide))
      have := digs_up (t := t) (L := L) k (v * 10 + (lkp t L p - 48)) (p + 1)
      exact ⟨by omega, fun _ => this.2 (by omega)⟩
    · rw [if_neg h]
      exact ⟨Nat.le_refl _, fun h => h⟩
theorem prim_up {t : Nat → Nat} {L : Nat} {ev : Nat → Int32} : Ups L (prim (lkp t L) ev) := by
  intro p v q h
  unfold prim at h
  by_cases hd : isDg (lkp t L p) = true
  · rw [if_pos hd] at h
    have hl : p < L := lkp_lo (t := t) (fun e => by rw [e] at hd; exact absurd hd (by decide))
    have e : q = (digs (lkp t L) 3 0 p).2 := by cases h; rfl
    have e2 : digs (lkp t L) 3 0 p = digs (lkp t L) 2 (0 * 10 + (lkp t L p - 48)) (p + 1) := by
      conv => lhs; unfold digs
      rw [if_pos hd]
    rw [e2] at e
    have := digs_up (t := t) (L := L) 2 (0 * 10 + (lkp t L p - 48)) (p + 1)
    subst e
    exact ⟨by omega, fun _ => this.2 (by omega)⟩
  · rw [if_neg hd] at h
    by_cases hl : isLt (lkp t L p) = true
    · rw [if_pos hl] at h
      have hl : p < L := lkp_lo (t := t) (fun e => by rw [e] at hl; exact absurd hl (by decide))
      cases h
      exact ⟨by omega, fun _ => by omega⟩
    · rw [if_neg hl] at h
      cases h
theorem sgn_up {t : Nat → Nat} {L : Nat} {B : Nat → PR} (hB : Ups L B) : ∀ k, Ups L (sgn (lkp t L) B k)
  | 0 => hB
  | k + 1 => by
    intro p v q h
    unfold sgn at h
    by_cases h45 : lkp t L p = 45
    · rw [if_pos h45] at h
      have hl : p < L := lkp_lo (t := t) (fun e => by omega)
      cases e : sgn (lkp t L) B k (p + 1) with
      | inl f => rw [e] at h; cases h
      | inr w =>
        rw [e] at h
        have := sgn_up hB k (p + 1) w.1 w.2 e
        cases h
        exact ⟨by omega, fun _ => this.2 (by omega)⟩
    · rw [if_neg h45] at h
      exact hB p v q h
theorem sgn_more {t : Nat → Nat} {L : Nat} {B : Nat → PR} : ∀ (k j p : Nat), L ≤ p + k → L ≤ p + j → sgn (lkp t L) B k p = sgn (lkp t L) B j p
  | 0, 0, _, _, _ => rfl
  | 0, j + 1, p, h, _ => by
    show B p = sgn (lkp t L) B (j + 1) p
    unfold sgn
    rw [if_neg (by rw [lkp_hi (by omega)]; decide)]
  | k + 1, 0, p, _, h => by
    show sgn (lkp t L) B (k + 1) p = B p
    unfold sgn
    rw [if_neg (by rw [lkp_hi (by omega)]; decide)]
  | k + 1, j + 1, p, h, h2 => by
    unfold sgn
    rw [sgn_more k j (p + 1) (by omega) (by omega)]
theorem prodL_up {t : Nat → Nat} {L : Nat} {S : Nat → PR} (hS : Ups L S) : ∀ (k : Nat) (v : Int32) (p : Nat) (v' : Int32) (q : Nat), prodL (lkp t L) S k v p = .inr (v', q) → p ≤ q ∧ (p ≤ L → q ≤ L)
  | 0, v, p, v', q, h => by cases h; exact ⟨Nat.le_refl _, fun h => h⟩
  | k + 1, v, p, v', q, h => by
    unfold prodL at h
    by_cases h1 : lkp t L p = 42
    · rw [if_pos h1] at h
      have hl : p < L := lkp_lo (t := t) (fun e => by omega)
      cases e : S (p + 1) with
      | inl f => rw [e] at h; cases h
      | inr w =>
        rw [e] at h
        have a := hS (p + 1) w.1 w.2 e
        have b := prodL_up hS k _ _ _ _ h
        exact ⟨by omega, fun _ => b.2 (a.2 (by omega))⟩
    · rw [if_neg h1] at h
      by_cases h2 : lkp t L p = 47
      · rw [if_pos h2] at h
        have hl : p < L := lkp_lo (t := t) (fun e => by omega)
        cases e : S (p + 1) with
        | inl f => rw [e] at h; cases h
        | inr w =>
          rw [e] at h
          have a := hS (p + 1) w.1 w.2 e
          have b := prodL_up hS k _ _ _ _ h
          exact ⟨by omega, fun _ => b.2 (a.2 (by omega))⟩
      · rw [if_neg h2] at h
        cases h
        exact ⟨Nat.le_refl _, fun h => h⟩
theorem prodP_up {t : Nat → Nat} {L : Nat} {S : Nat → PR} (hS : Ups L S) : Ups L (prodP (lkp t L) S) := by
  intro p v q h
  unfold prodP at h
  cases e : S p with
  | inl f => rw [e] at h; cases h
  | inr w =>
    rw [e] at h
    have a := hS p w.1 w.2 e
    have b := prodL_up hS 40 _ _ _ _ h
    exact ⟨by omega, fun z => b.2 (a.2 z)⟩
theorem sumL_up {t : Nat → Nat} {L : Nat} {S : Nat → PR} (hS : Ups L S) : ∀ (k : Nat) (v : Int32) (p : Nat) (v' : Int32) (q : Nat), sumL (lkp t L) S k v p = .inr (v', q) → p ≤ q ∧ (p ≤ L → q ≤ L)
  | 0, v, p, v', q, h => by cases h; exact ⟨Nat.le_refl _, fun h => h⟩
  | k + 1, v, p, v', q, h => by
    unfold sumL at h
    by_cases h1 : lkp t L p = 43
    · rw [if_pos h1] at h
      have hl : p < L := lkp_lo (t := t) (fun e => by omega)
      cases e : S (p + 1) with
      | inl f => rw [e] at h; cases h
      | inr w =>
        rw [e] at h
        have a := hS (p + 1) w.1 w.2 e
        have b := sumL_up hS k _ _ _ _ h
        exact ⟨by omega, fun _ => b.2 (a.2 (by omega))⟩
    · rw [if_neg h1] at h
      by_cases h2 : lkp t L p = 45
      · rw [if_pos h2] at h
        have hl : p < L := lkp_lo (t := t) (fun e => by omega)
        cases e : S (p + 1) with
        | inl f => rw [e] at h; cases h
        | inr w =>
          rw [e] at h
          have a := hS (p + 1) w.1 w.2 e
          have b := sumL_up hS k _ _ _ _ h
          exact ⟨by omega, fun _ => b.2 (a.2 (by omega))⟩
      · rw [if_neg h2] at h
        cases h
        exact ⟨Nat.le_refl _, fun h => h⟩
theorem sumP_up {t : Nat → Nat} {L : Nat} {S : Nat → PR} (hS : Ups L S) : Ups L (sumP (lkp t L) S) := by
  intro p v q h
  unfold sumP at h
  cases e : S p with
  | inl f => rw [e] at h; cases h
  | inr w =>
    rw [e] at h
    have a := hS p w.1 w.2 e
    have b := sumL_up hS 40 _ _ _ _ h
    exact ⟨by omega, fun z => b.2 (a.2 z)⟩
theorem expr_up {t : Nat → Nat} {L : Nat} {S : Nat → PR} (hS : Ups L S) : Ups L (expr (lkp t L) S) := by
  intro p v q h
  unfold expr at h
  cases e : S p with
  | inl f => rw [e] at h; cases h
  | inr w =>
    have a := hS p w.1 w.2 e
    rw [e] at h
    by_cases hc : isCm (lkp t L w.2) = true
    · simp only [hc, if_true] at h
      have hl : w.2 < L := lkp_lo (t := t) (fun e => by rw [e] at hc; exact absurd hc (by decide))
      cases e2 : S (w.2 + 1) with
      | inl f => rw [e2] at h; cases h
      | inr z =>
        rw [e2] at h
        have b := hS (w.2 + 1) z.1 z.2 e2
        cases h
        exact ⟨by omega, fun z => b.2 (by omega)⟩
    · simp only [hc] at h
      cases h
      exact a
theorem base_up {t : Nat → Nat} {L : Nat} {ev : Nat → Int32} : ∀ n, Ups L (base (lkp t L) ev n)
  | 0 => prim_up
  | n + 1 => by
    intro p v q h
    unfold base at h
    by_cases h40 : lkp t L p = 40
    · rw [if_pos h40] at h
      have hl : p < L := lkp_lo (t := t) (fun e => by omega)
      cases e : exB (lkp t L) (base (lkp t L) ev n) (p + 1) with
      | inl f => rw [e] at h; cases h
      | inr w =>
        rw [e] at h
        have a := expr_up (sumP_up (prodP_up (sgn_up (base_up n) 40))) (p + 1) w.1 w.2 e
        by_cases hc : lkp t L w.2 = 41
        · simp only [hc, if_true] at h
          have hl2 : w.2 < L := lkp_lo (t := t) (fun e => by omega)
          cases h
          exact ⟨by omega, fun _ => by omega⟩
        · simp only [hc] at h
          cases h
    · rw [if_neg h40] at h
      exact prim_up p v q h
theorem sg_up {t : Nat → Nat} {L : Nat} {ev : Nat → Int32} (n : Nat) : Ups L (sgn (lkp t L) (base (lkp t L) ev n) 40) := sgn_up (base_up n) 40
theorem pr_up {t : Nat → Nat} {L : Nat} {ev : Nat → Int32} (n : Nat) : Ups L (prodP (lkp t L) (sgn (lkp t L) (base (lkp t L) ev n) 40)) := prodP_up (sg_up n)
/-! places don't hang on values -/
def shp (r : PR) : Sum Nat Nat := match r with
  | .inl f => .inl f
  | .inr w => .inr w.2
theorem shp_c {r r' : PR} (h : shp r = shp r') : (∃ f, r = .inl f ∧ r' = .inl f) ∨ ∃ v v' q, r = .inr (v, q) ∧ r' = .inr (v', q) := by
  cases r with
  | inl f =>
    cases r' with
    | inl f' => cases h; exact Or.inl ⟨f, rfl, rfl⟩
    | inr w' => cases h
  | inr w =>
    cases r' with
    | inl f' => cases h
    | inr w' =>
      obtain ⟨v, q⟩ := w
      obtain ⟨v', q'⟩ := w'
      have e : q = q' := by cases h; rfl
      subst e
      exact Or.inr ⟨v, v', q, rfl, rfl⟩
def Shp (F F' : Nat → PR) : Prop := ∀ p, shp (F p) = shp (F' p)
theorem sgn_shp {lk : Nat → Nat} {B B' : Nat → PR} (h : Shp B B') : ∀ k, Shp (sgn lk B k) (sgn lk B' k)
  | 0 => h
  | k + 1 => by
    intro p
    unfold sgn
    by_cases h45 : lk p = 45
    · rw [if_pos h45, if_pos h45]
      rcases shp_c (sgn_shp h k (p + 1)) with ⟨f, e, e'⟩ | ⟨v, v', q, e, e'⟩ <;> rw [e, e'] <;> rfl
    · rw [if_neg h45, if_neg h45]
      exact h p
theorem prodL_shp {lk : Nat → Nat} {S S' : Nat → PR} (h : Shp S S') : ∀ (k : Nat) (v v' : Int32) (p : Nat), shp (prodL lk S k v p) = shp (prodL lk S' k v' p)
  | 0, _, _, _ => rfl
  | k + 1, v, v', p => by
    unfold prodL
    by_cases h1 : lk p = 42
    · rw [if_pos h1, if_pos h1]
      rcases shp_c (h (p + 1)) with ⟨f, e, e'⟩ | ⟨w, w', q, e, e'⟩
      · rw [e, e']
      · rw [e, e']; exact prodL_shp h k _ _ q
    · rw [if_neg h1, if_neg h1]
      by_cases h2 : lk p = 47
      · rw [if_pos h2, if_pos h2]
        rcases shp_c (h (p + 1)) with ⟨f, e, e'⟩ | ⟨w, w', q, e, e'⟩
        · rw [e, e']
        · rw [e, e']; exact prodL_shp h k _ _ q
      · rw [if_neg h2, if_neg h2]; rfl
theorem prodP_shp {lk : Nat → Nat} {S S' : Nat → PR} (h : Shp S S') : Shp (prodP lk S) (prodP lk S') := by
  intro p
  unfold prodP
  rcases shp_c (h p) with ⟨f, e, e'⟩ | ⟨w, w', q, e, e'⟩
  · rw [e, e']
  · rw [e, e']; exact prodL_shp h 40 _ _ q
theorem sumL_shp {lk : Nat → Nat} {S S' : Nat → PR} (h : Shp S S') : ∀ (k : Nat) (v v' : Int32) (p : Nat), shp (sumL lk S k v p) = shp (sumL lk S' k v' p)
  | 0, _, _, _ => rfl
  | k + 1, v, v', p => by
    unfold sumL
    by_cases h1 : lk p = 43
    · rw [if_pos h1, if_pos h1]
      rcases shp_c (h (p + 1)) with ⟨f, e, e'⟩ | ⟨w, w', q, e, e'⟩
      · rw [e, e']
      · rw [e, e']; exact sumL_shp h k _ _ q
    · rw [if_neg h1, if_neg h1]
      by_cases h2 : lk p = 45
      · rw [if_pos h2, if_pos h2]
        rcases shp_c (h (p + 1)) with ⟨f, e, e'⟩ | ⟨w, w', q, e, e'⟩
        · rw [e, e']
        · rw [e, e']; exact sumL_shp h k _ _ q
      · rw [if_neg h2, if_neg h2]; rfl
theorem sumP_shp {lk : Nat → Nat} {S S' : Nat → PR} (h : Shp S S') : Shp (sumP lk S) (sumP lk S') := by
  intro p
  unfold sumP
  rcases shp_c (h p) with ⟨f, e, e'⟩ | ⟨w, w', q, e, e'⟩
  · rw [e, e']
  · rw [e, e']; exact sumL_shp h 40 _ _ q
theorem expr_shp {lk : Nat → Nat} {S S' : Nat → PR} (h : Shp S S') : Shp (expr lk S) (expr lk S') := by
  intro p
  unfold expr
  rcases shp_c (h p) with ⟨f, e, e'⟩ | ⟨w, w', q, e, e'⟩
  · rw [e, e']
  · rw [e, e']
    by_cases hc : isCm (lk q) = true
    · simp only [hc, if_true]
      rcases shp_c (h (q + 1)) with ⟨f, e, e'⟩ | ⟨w, w', q2, e, e'⟩ <;> rw [e, e'] <;> rfl
    · simp only [hc]
      rfl
theorem exB_shp {lk : Nat → Nat} {S S' : Nat → PR} (h : Shp S S') : Shp (exB lk S) (exB lk S') := expr_shp (sumP_shp (prodP_shp (sgn_shp h 40)))
theorem prim_shp {lk : Nat → Nat} {ev ev' : Nat → Int32} : Shp (prim lk ev) (prim lk ev') := by
  intro p
  unfold prim
  split
  · rfl
  · split <;> rfl
theorem base_shp {lk : Nat → Nat} {ev ev' : Nat → Int32} : ∀ n, Shp (base lk ev n) (base lk ev' n)
  | 0 => prim_shp
  | n + 1 => by
    intro p
    unfold base
    by_cases h40 : lk p = 40
    · rw [if_pos h40, if_pos h40]
      rcases shp_c (exB_shp (base_shp n) (p + 1)) with ⟨f, e, e'⟩ | ⟨w, w', q, e, e'⟩
      · rw [e, e']
      · rw [e, e']
        by_cases hc : lk q = 41
        · simp only [hc, if_true]; rfl
        · simp only [hc]; rfl
    · rw [if_neg h40, if_neg h40]
      exact prim_shp p
theorem evR_shp (t : Nat → Nat) (L : Nat) (ev ev' : Nat → Int32) : shp (evR t L ev) = shp (evR t L ev') := exB_shp (base_shp 4) 0
