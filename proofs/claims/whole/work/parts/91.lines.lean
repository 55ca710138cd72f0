/-! groups told: purely, and the class -/
abbrev Fld : Type := Nat × Nat × Nat × Bool × (Nat → Nat)
def dgs (lk : Nat → Nat) (p : Nat) : Nat → Nat → Option Nat
  | 0, _ => none
  | m + 1, r => if isDg (lk (p + r)) = true then dgs lk p m (r + 1) else some (p + r)
def ln (lk : Nat → Nat) (n p : Nat) : Sum Nat (Fld × Nat) :=
  if isDg (lk p) = false then .inl p else
  if ¬ (118 ≤ lk (digs lk 2 0 p).2 ∧ lk (digs lk 2 0 p).2 ≤ 122) then .inl (digs lk 2 0 p).2 else
  if isDg (lk ((digs lk 2 0 p).2 + 1)) = false then .inl ((digs lk 2 0 p).2 + 1) else
  if ¬ (1 ≤ (digs lk 2 0 ((digs lk 2 0 p).2 + 1)).1 ∧ (digs lk 2 0 ((digs lk 2 0 p).2 + 1)).1 ≤ 40) then .inl ((digs lk 2 0 ((digs lk 2 0 p).2 + 1)).2 - 1) else
  if ¬ (lk (digs lk 2 0 ((digs lk 2 0 p).2 + 1)).2 = 60 ∨ lk (digs lk 2 0 ((digs lk 2 0 p).2 + 1)).2 = 62) then .inl (digs lk 2 0 ((digs lk 2 0 p).2 + 1)).2 else
  match dgs lk ((digs lk 2 0 ((digs lk 2 0 p).2 + 1)).2 + 1) n 0 with
  | some f => .inl f
  | none => .inr (((digs lk 2 0 p).1, lk (digs lk 2 0 p).2 - 118, (digs lk 2 0 ((digs lk 2 0 p).2 + 1)).1, decide (lk (digs lk 2 0 ((digs lk 2 0 p).2 + 1)).2 = 60), fun r => lk ((digs lk 2 0 ((digs lk 2 0 p).2 + 1)).2 + 1 + r) - 48), (digs lk 2 0 ((digs lk 2 0 p).2 + 1)).2 + 1 + n)
theorem digs_b {lk : Nat → Nat} : ∀ (k v p B : Nat), v ≤ B → (digs lk k v p).1 ≤ B * 10 ^ k + (10 ^ k - 1)
  | 0, v, p, B, h => by unfold digs; simp; omega
  | k + 1, v, p, B, h => by
    unfold digs
    by_cases hd : isDg (lk p) = true
    · rw [if_pos hd]
      have hd2 := isDg_i.mp hd
      have := digs_b (lk := lk) k (v * 10 + (lk p - 48)) (p + 1) (B * 10 + 9) (by omega)
      have e : (B * 10 + 9) * 10 ^ k + (10 ^ k - 1) = B * 10 ^ (k + 1) + (10 ^ (k + 1) - 1) := by
        have hp : 0 < 10 ^ k := Nat.pow_pos (by decide)
        rw [Nat.pow_succ, Nat.add_mul, Nat.mul_assoc, Nat.mul_comm 10 (10 ^ k)]
        omega
      omega
    · rw [if_neg hd]
      have hp : 0 < 10 ^ (k + 1) := Nat.pow_pos (by decide)
      show v ≤ _
      have h2 : B * 1 ≤ B * 10 ^ (k + 1) := Nat.mul_le_mul_left B hp
      omega
theorem digs_99 {lk : Nat → Nat} (p : Nat) : (digs lk 2 0 p).1 ≤ 99 := digs_b 2 0 p 0 (Nat.le_refl _)
theorem Sg.rg {x : Int32} {n lo hi : Nat} (h : Sg x n) (hlo : lo < 256) (hhi : hi < 256) : (¬ x < nI lo ∧ ¬ nI hi < x) ↔ (lo ≤ n ∧ n ≤ hi) := by
  rcases h with ⟨h1, h2⟩ | ⟨h1, h2 | h2⟩
  · rw [h2, nI_ltI (by omega) (by omega), nI_ltI (by omega) (by omega)]
    omega
  · rw [h2]
    constructor
    · rintro ⟨a, _⟩; exact absurd (m1_lt (by omega)) a
    · intro z; omega
  · rw [h2]
    constructor
    · rintro ⟨a, _⟩
      refine absurd ?_ a
      rw [Int32.lt_iff_toInt_lt, nI_toInt (by omega)]
      have : (-2 : Int32).toInt = -2 := by decide
      omega
    · intro z; omega
section LinC
variable {M : Mem} {t : Nat → Nat} {L mo p : Nat}
/-- the class's text, with how much of it counts -/
def TX (M : Mem) (t : Nat → Nat) (L mo : Nat) : Prop := L ≤ 80 ∧ mo ≤ 80 ∧ M 1 1 = nI L ∧ M 1 2 = nI mo ∧ ∀ k, k < 80 → t k < 256 ∧ M 2 k = nI (t k)
theorem TX.fr {M' : Mem} (h : TX M t L mo) (e : ∀ i k, i = 1 ∨ i = 2 → M' i k = M i k) : TX M' t L mo := ⟨h.1, h.2.1, (e 1 1 (Or.inl rfl)).trans h.2.2.1, (e 1 2 (Or.inl rfl)).trans h.2.2.2.1, fun k hk => ⟨(h.2.2.2.2 k hk).1, (e 2 k (Or.inr rfl)).trans (h.2.2.2.2 k hk).2⟩⟩
theorem tx_at (h : TX M t L mo) (hp : p < 2 ^ 30) : ∃ x, f_X8_at (nI p) M = some (x, M) ∧ Sg x (lkp t (min L mo) p) ∧ (x = -1 ↔ L ≤ p) := by
  obtain ⟨l80, m80, e1, e2, ht⟩ := h
  unfold f_X8_at f_X8_at_0 f_X8_at_18 f_X8_at_39 lkp
  rw [if_neg (nI_pos (by omega)), e1, e2]
  by_cases h1 : p < L
  · rw [if_pos (nI_lt h1 (by omega)), if_pos (show nI p < 80 from nI_lt (b := 80) (by omega) (by decide))]
    by_cases h2 : p < mo
    · have tp := ht p (by omega)
      refine ⟨nI (t p), ?_, ?_, ⟨fun z => absurd z (nI_neq (by omega)), fun z => by omega⟩⟩
      · rw [if_pos (nI_lt h2 (by omega)), gd_t (nI_inb (show p < 80 by omega) (by decide)), nI_clamp (by omega), tp.2]
      · rw [if_pos (by omega)]; exact Or.inl ⟨tp.1, rfl⟩
    · refine ⟨-2, ?_, ?_, ⟨fun z => absurd z (by decide), fun z => by omega⟩⟩
      · rw [if_neg (nI_nlt (by omega) (by omega))]
      · rw [if_neg (by omega)]; exact Or.inr ⟨rfl, Or.inr rfl⟩
  · refine ⟨-1, ?_, ?_, ⟨fun _ => by omega, fun _ => rfl⟩⟩
    · rw [if_neg (nI_nlt (by omega) (by omega))]
    · rw [if_neg (by omega)]; exact Or.inr ⟨rfl, Or.inl rfl⟩
theorem tx_dig (h : TX M t L mo) (hp : p < 2 ^ 30) : f_X8_digitAt (nI p) M = some (if isDg (lkp t (min L mo) p) = true then nI (lkp t (min L mo) p - 48) else -1, M) := by
  obtain ⟨x, ex, hx, -⟩ := tx_at h hp
  unfold f_X8_digitAt f_X8_digitAt_0 f_X8_digitAt_25 f_X8_digitAt_26
  rw [ex, bd_e]
  have hd := hx.dg
  by_cases h1 : x < 48
  · rw [if_pos h1, if_neg (fun z => (hd.mpr z).1 h1)]
  · rw [if_neg h1]
    by_cases h2 : 57 < x
    · rw [if_pos h2, if_neg (fun z => (hd.mpr z).2 h2)]
    · have hD := hd.mp ⟨h1, h2⟩
      have hD2 := isDg_i.mp hD
      rw [if_neg h2, if_pos hD]
      have : x = nI (lkp t (min L mo) p) := by
        rcases hx with ⟨_, e⟩ | ⟨e, _⟩
        · exact e
        · omega
      rw [this, show nI (lkp t (min L mo) p) - 48 = nI (lkp t (min L mo) p - 48) from pk_sub (b := 48) (by omega)]
def p25 : Nat → Nat → Prop := fun i k => i = 25 ∧ k = 2
theorem rdNum (h : TX M t L mo) (h25 : M 25 2 = nI p) (hp : p ≤ 80) : wp (f_X4_readNumber M) (fun r M' => (if isDg (lkp t (min L mo) p) = true then r = nI (digs (lkp t (min L mo)) 2 0 p).1 ∧ M' 25 2 = nI (digs (lkp t (min L mo)) 2 0 p).2 else r = -1 ∧ M' 25 2 = nI p) ∧ Fr p25 M M') := by
  unfold f_X4_readNumber f_X4_readNumber_0
  rw [h25, tx_dig h (by omega), bd_e]
  by_cases hd : isDg (lkp t (min L mo) p) = true
  · have hd2 := isDg_i.mp hd
    simp only [if_pos hd]
    have hF : Fr p25 M (up M 25 2 (nI (p + 1))) := Fr.rf.up ⟨rfl, rfl⟩
    have h' : TX (up M 25 2 (nI (p + 1))) t L mo := h.fr (fun i k hi => by rw [up_row _ _ _ (by omega)])
    rw [if_neg (nI_neq (by omega)), wp_ml, h25, nI_1, up_self, tx_dig h' (by omega), bd_e]
    have e2 : digs (lkp t (min L mo)) 2 0 p = if isDg (lkp t (min L mo) (p + 1)) = true then ((lkp t (min L mo) p - 48) * 10 + (lkp t (min L mo) (p + 1) - 48), p + 1 + 1) else (lkp t (min L mo) p - 48, p + 1) := by
      conv => lhs; unfold digs
      rw [if_pos hd]
      unfold digs digs
      split <;> simp
    by_cases hd' : isDg (lkp t (min L mo) (p + 1)) = true
    · have hd3 := isDg_i.mp hd'
      rw [if_pos hd', if_neg (nI_neq (by omega)), wp_ml, up_self, nI_1, wp_s, e2, if_pos hd']
      refine ⟨⟨?_, up_self _ _ _ _⟩, hF.up ⟨rfl, rfl⟩⟩
      rw [show nI (lkp t (min L mo) p - 48) * 10 = nI ((lkp t (min L mo) p - 48) * 10) from pk_mul _ 10, nI_add]
    · rw [if_neg hd', if_pos rfl, wp_s, e2, if_neg hd']
      exact ⟨⟨rfl, up_self _ _ _ _⟩, hF⟩
  · simp only [if_neg hd]
    rw [if_pos trivial, wp_s]
    exact ⟨⟨rfl, h25⟩, Fr.rf⟩
end LinC
