/-! numbers and bits, and what a program comes to -/
theorem lit (n : Nat) : (OfNat.ofNat n : Int32) = nI (OfNat.ofNat n) := rfl
theorem la6 (g : Nat) : (6 : Int32) + nI g = nI (6 + g) := nI_add 6 g
theorem la12 (g : Nat) : (12 : Int32) + nI g = nI (12 + g) := nI_add 12 g
theorem la18 (g : Nat) : (18 : Int32) + nI g = nI (18 + g) := nI_add 18 g
theorem lm6 (g : Nat) : (6 : Int32) * nI g = nI (6 * g) := pk_mul 6 g
theorem c24 : (24 : Int32).toNatClampNeg = 24 := by decide
theorem nbm {a : Nat} (h : a < 2 ^ 31) : (nI a = -(nI 1)) = False := by
  apply eq_false
  intro e
  have h1 := congrArg Int32.toInt e
  rw [nI_toInt h, show (-(nI 1)).toInt = -1 by decide] at h1
  omega
theorem nblm {a : Nat} (h : a < 2 ^ 31) : (-(nI 1) = nI a) = False := by
  apply eq_false
  intro e
  have h1 := nbm h
  rw [e] at h1
  simp at h1
theorem nbc {a N : Nat} (h : a < N) (hN : N < 2 ^ 31) : (nI 0 ≤ nI a ∧ (nI a).toNatClampNeg < N) = True := by
  apply eq_true
  exact ⟨(nI_leI (by decide) (by omega)).mpr (Nat.zero_le _), by rw [nI_clamp (by omega)]; exact h⟩
theorem nI_inc {g N : Nat} (h : g < N) (hN : N ≤ 1000) : 0 ≤ nI g ∧ g < N := ⟨nI_pos' (by omega), h⟩
theorem nIp {a : Nat} (h : 0 < a) (ha : a < 2 ^ 31) : 0 < nI a := nI_lt (a := 0) h ha
/-- a number one less, -1 for 0 -/
def pI (a : Nat) : Int32 := nI a - 1
theorem pI_s (a : Nat) : pI (a + 1) = nI a := nI_pred a
theorem pI_0 : pI 0 = -1 := by decide
theorem pI_toInt {a : Nat} (h : a < 2 ^ 31) : (pI a).toInt = (a : Int) - 1 := by
  cases a with
  | zero => rw [pI_0]; decide
  | succ k => rw [pI_s, nI_toInt (by omega)]; omega
theorem pI_eq {a b : Nat} (ha : a < 2 ^ 31) (hb : b < 2 ^ 31) : pI a = pI b ↔ a = b := by
  rw [← Int32.toInt_inj, pI_toInt ha, pI_toInt hb]; omega
theorem pI_nI {a b : Nat} (ha : a < 2 ^ 31) (hb : b < 2 ^ 31) : pI a = nI b ↔ a = b + 1 := by
  rw [← Int32.toInt_inj, pI_toInt ha, nI_toInt hb]; omega
theorem pI_m1 {a : Nat} (ha : a < 2 ^ 31) : pI a = -1 ↔ a = 0 := by
  rw [← pI_0, pI_eq ha (by decide)]
theorem pI_9 {a : Nat} (ha : a < 2 ^ 31) : pI a = 9 ↔ a = 10 := by
  rw [show (9 : Int32) = nI 9 from rfl, pI_nI ha (by decide)]
theorem pI_lt {a b : Nat} (ha : a < 2 ^ 31) (hb : b < 2 ^ 31) : pI a < pI b ↔ a < b := by
  rw [Int32.lt_iff_toInt_lt, pI_toInt ha, pI_toInt hb]; omega
theorem pI_ltn {a b : Nat} (ha : a < 2 ^ 31) (hb : b < 2 ^ 31) : pI a < nI b ↔ a ≤ b := by
  rw [Int32.lt_iff_toInt_lt, pI_toInt ha, nI_toInt hb]; omega
theorem nI_ltp {a b : Nat} (ha : a < 2 ^ 31) (hb : b < 2 ^ 31) : nI a < pI b ↔ a + 1 < b := by
  rw [Int32.lt_iff_toInt_lt, nI_toInt ha, pI_toInt hb]; omega
theorem pI_lt0 {a : Nat} (ha : a < 2 ^ 31) : pI a < 0 ↔ a = 0 := by
  rw [show (0 : Int32) = nI 0 from rfl, pI_ltn ha (by decide)]; omega
/-! bits -/
theorem sh31 {r : Nat} (h : r < 32) : nI r &&& 31 = nI r := by
  revert r; decide
theorem sm32 {r : Nat} (h : r < 32) : ((nI r).toBitVec.smod 32).toNat = r := by
  revert r; decide
theorem bit_iff (b : Int32) {r : Nat} (h : r < 32) : bit b (nI r) ↔ b.toBitVec.getLsbD r = true := by
  unfold bit
  rw [sh31 h, ← Int32.toBitVec_inj, Int32.toBitVec_and, Int32.toBitVec_shiftRight]
  have e1 : (1 : Int32).toBitVec = 1#32 := by decide
  rw [e1, BitVec.and_one_eq_setWidth_ofBool_getLsbD, BitVec.getLsbD_sshiftRight']
  rw [sm32 h]
  have : (decide (32 ≤ 0)) = false := by decide
  rw [this]
  simp only [Nat.add_zero, Bool.not_false, Bool.true_and]
  rw [if_pos h]
  cases b.toBitVec.getLsbD r <;> decide
theorem bit_ext {x y : Int32} (h : ∀ r, r < 32 → (bit x (nI r) ↔ bit y (nI r))) : x = y := by
  apply Int32.toBitVec_inj.mp
  apply BitVec.eq_of_getLsbD_eq
  intro r hr
  have := h r hr
  rw [bit_iff x hr, bit_iff y hr] at this
  exact Bool.eq_iff_iff.mpr this
theorem bit_or (x y : Int32) {r : Nat} (h : r < 32) : bit (x ||| y) (nI r) ↔ bit x (nI r) ∨ bit y (nI r) := by
  rw [bit_iff _ h, bit_iff _ h, bit_iff _ h, Int32.toBitVec_or, BitVec.getLsbD_or, Bool.or_eq_true]
theorem bit_and (x y : Int32) {r : Nat} (h : r < 32) : bit (x &&& y) (nI r) ↔ bit x (nI r) ∧ bit y (nI r) := by
  rw [bit_iff _ h, bit_iff _ h, bit_iff _ h, Int32.toBitVec_and, BitVec.getLsbD_and, Bool.and_eq_true]
theorem bit_not (x : Int32) {r : Nat} (h : r < 32) : bit (x ^^^ (-1)) (nI r) ↔ ¬ bit x (nI r) := by
  rw [bit_iff _ h, bit_iff _ h, Int32.toBitVec_xor, BitVec.getLsbD_xor, show (-1 : Int32).toBitVec = BitVec.allOnes 32 by decide, BitVec.getLsbD_allOnes]
  simp [h]
theorem bit_one {a r : Nat} (ha : a < 32) (h : r < 32) : bit (1 <<< (nI a &&& 31)) (nI r) ↔ r = a := by
  rw [sh31 ha]
  have key : ∀ a, a < 32 → ∀ r, r < 32 → (bit (1 <<< nI a) (nI r) ↔ r = a) := by decide
  exact key a ha r h
theorem bit_0 {r : Nat} (h : r < 32) : ¬ bit 0 (nI r) := by
  revert r; decide
theorem bit_nz {b : Int32} {r : Nat} (h : r < 32) : ((b >>> (nI r &&& 31)) &&& 1) = 0 ↔ ¬ bit b (nI r) := by
  rw [bit_iff b h, sh31 h, ← Int32.toBitVec_inj, Int32.toBitVec_and, Int32.toBitVec_shiftRight]
  have e1 : (1 : Int32).toBitVec = 1#32 := by decide
  rw [e1, BitVec.and_one_eq_setWidth_ofBool_getLsbD, BitVec.getLsbD_sshiftRight']
  rw [sm32 h]
  have : (decide (32 ≤ 0)) = false := by decide
  rw [this]
  simp only [Nat.add_zero, Bool.not_false, Bool.true_and]
  rw [if_pos h]
  cases b.toBitVec.getLsbD r <;> decide
/-- the bits of those that p says, as loops lay them -/
def bI (p : Nat → Bool) : Int32 := foldF (fun g a => if p g = true then obit g a else a) 6 0 0
theorem foldF_ext {α : Type} {f f' : Nat → α → α} : ∀ (m g : Nat) (a : α), (∀ k x, g ≤ k → k < g + m → f k x = f' k x) → foldF f m g a = foldF f' m g a
  | 0, _, _, _ => rfl
  | m + 1, g, a, h => by
    show foldF f m (g + 1) (f g a) = foldF f' m (g + 1) (f' g a)
    rw [h g a (Nat.le_refl _) (by omega)]
    exact foldF_ext m (g + 1) _ (fun k x h1 h2 => h k x (by omega) (by omega))
theorem foldF_id {α : Type} {f : Nat → α → α} : ∀ (m g : Nat) (a : α), (∀ k x, g ≤ k → k < g + m → f k x = x) → foldF f m g a = a
  | 0, _, _, _ => rfl
  | m + 1, g, a, h => by
    show foldF f m (g + 1) (f g a) = a
    rw [h g a (Nat.le_refl _) (by omega)]
    exact foldF_id m (g + 1) _ (fun k x h1 h2 => h k x (by omega) (by omega))
theorem foldF_add {α : Type} {f : Nat → α → α} : ∀ (m k g : Nat) (a : α), foldF f (m + k) g a = foldF f k (g + m) (foldF f m g a)
  | 0, k, g, a => by rw [Nat.zero_add]; rfl
  | m + 1, k, g, a => by
    rw [show m + 1 + k = (m + k) + 1 by omega]
    show foldF f (m + k) (g + 1) (f g a) = foldF f k (g + (m + 1)) (foldF f m (g + 1) (f g a))
    rw [foldF_add m k (g + 1), show g + 1 + m = g + (m + 1) by omega]
/-- a loop to c, as one to 6 where those from c on change nothing -/
theorem foldF_to {α : Type} {f f' : Nat → α → α} {c : Nat} (a : α) (hc : c ≤ 6) (h : ∀ k x, k < c → f k x = f' k x) (h2 : ∀ k x, c ≤ k → k < 6 → f' k x = x) : foldF f c 0 a = foldF f' 6 0 a := by
  have e : foldF f' 6 0 a = foldF f' (6 - c) (0 + c) (foldF f' c 0 a) := by rw [← foldF_add, show c + (6 - c) = 6 by omega]
  rw [e, foldF_id (6 - c) (0 + c) _ (fun k x h3 h4 => h2 k x (by omega) (by omega))]
  exact foldF_ext c 0 a (fun k x _ h4 => h k x (by omega))
theorem bit_obits (p : Nat → Bool) {r : Nat} (hr : r < 32) : ∀ (m g : Nat) (a : Int32), g + m ≤ 32 → (bit (foldF (fun g a => if p g = true then obit g a else a) m g a) (nI r) ↔ bit a (nI r) ∨ (g ≤ r ∧ r < g + m ∧ p r = true))
  | 0, g, a, _ => by
    show bit a (nI r) ↔ _
    constructor
    · exact Or.inl
    · rintro (h | ⟨h1, h2, _⟩)
      · exact h
      · omega
  | m + 1, g, a, hm => by
    show bit (foldF _ m (g + 1) (if p g = true then obit g a else a)) (nI r) ↔ _
    rw [bit_obits p hr m (g + 1) _ (by omega)]
    by_cases hp : p g = true
    · rw [if_pos hp]
      unfold obit
      rw [bit_or _ _ hr, bit_one (by omega) hr]
      constructor
      · rintro ((h | h) | ⟨h1, h2, h3⟩)
        · exact Or.inl h
        · subst h; exact Or.inr ⟨Nat.le_refl _, by omega, hp⟩
        · exact Or.inr ⟨by omega, by omega, h3⟩
      · rintro (h | ⟨h1, h2, h3⟩)
        · exact Or.inl (Or.inl h)
        · by_cases e : r = g
          · exact Or.inl (Or.inr e)
          · exact Or.inr ⟨by omega, by omega, h3⟩
    · rw [if_neg hp]
      constructor
      · rintro (h | ⟨h1, h2, h3⟩)
        · exact Or.inl h
        · exact Or.inr ⟨by omega, by omega, h3⟩
      · rintro (h | ⟨h1, h2, h3⟩)
        · exact Or.inl h
        · by_cases e : r = g
          · subst e; exact absurd h3 hp
          · exact Or.inr ⟨by omega, by omega, h3⟩
theorem bit_bI (p : Nat → Bool) {r : Nat} (hr : r < 32) : bit (bI p) (nI r) ↔ r < 6 ∧ p r = true := by
  unfold bI
  rw [bit_obits p hr 6 0 0 (by decide)]
  constructor
  · rintro (h | ⟨_, h2, h3⟩)
    · exact absurd h (bit_0 hr)
    · exact ⟨by omega, h3⟩
  · rintro ⟨h1, h2⟩
    exact Or.inr ⟨Nat.zero_le _, by omega, h2⟩
theorem bI_ext {p q : Nat → Bool} (h : ∀ g, g < 6 → p g = q g) : bI p = bI q := bit_ext (fun r hr => by
  rw [bit_bI p hr, bit_bI q hr]
  constructor
  · rintro ⟨h1, h2⟩; exact ⟨h1, by rw [← h r h1]; exact h2⟩
  · rintro ⟨h1, h2⟩; exact ⟨h1, by rw [h r h1]; exact h2⟩)
/-! what a program comes to -/
def wp (x : Option (Int32 × Mem)) (Q : Int32 → Mem → Prop) : Prop := ∃ (r : Int32) (M' : Mem), x = some (r, M') ∧ Q r M'
theorem wp_s {r : Int32} {M : Mem} {Q : Int32 → Mem → Prop} : wp (some (r, M)) Q ↔ Q r M := by
  constructor
  · rintro ⟨r', M', h, hq⟩
    cases h
    exact hq
  · intro h; exact ⟨r, M, rfl, h⟩
theorem wp_gd {c : Prop} [Decidable c] {x : Option (Int32 × Mem)} {Q : Int32 → Mem → Prop} : wp (gd c x) Q ↔ c ∧ wp x Q := by
  constructor
  · rintro ⟨r, M', h, hq⟩
    obtain ⟨h1, h2⟩ := gd_some h
    exact ⟨h1, r, M', h2, hq⟩
  · rintro ⟨h1, h2⟩
    rw [gd_t h1]; exact h2
theorem wp_vl {v : Int32} {k : Int32 → Option (Int32 × Mem)} {Q : Int32 → Mem → Prop} : wp (vl v k) Q ↔ wp (k v) Q := Iff.rfl
theorem wp_ml {v : Mem} {k : Mem → Option (Int32 × Mem)} {Q : Int32 → Mem → Prop} : wp (ml v k) Q ↔ wp (k v) Q := Iff.rfl
theorem wp_if {c : Prop} [Decidable c] {a b : Option (Int32 × Mem)} {Q : Int32 → Mem → Prop} : wp (if c then a else b) Q ↔ (c → wp a Q) ∧ (¬ c → wp b Q) := by
  by_cases h : c <;> simp [h]
theorem wp_bd {x : Option (Int32 × Mem)} {k : Int32 → Mem → Option (Int32 × Mem)} {Q : Int32 → Mem → Prop} : wp (bd x k) Q ↔ wp x (fun r M => wp (k r M) Q) := by
  constructor
  · rintro ⟨r, M', h, hq⟩
    obtain ⟨v, M1, h1, h2⟩ := bd_some h
    exact ⟨v, M1, h1, r, M', h2, hq⟩
  · rintro ⟨v, M1, h1, r, M', h2, hq⟩
    exact ⟨r, M', by rw [h1]; exact h2, hq⟩
theorem bd_e {β : Type} {r : Int32} {M : Mem} {k : Int32 → Mem → Option β} : bd (some (r, M)) k = k r M := rfl
theorem wp_mono {x : Option (Int32 × Mem)} {Q Q' : Int32 → Mem → Prop} (h : wp x Q) (hq : ∀ r M, Q r M → Q' r M) : wp x Q' := by
  obtain ⟨r, M', h1, h2⟩ := h
  exact ⟨r, M', h1, hq r M' h2⟩
theorem wp_of {x : Option (Int32 × Mem)} {r : Int32} {M : Mem} {Q : Int32 → Mem → Prop} (h : x = some (r, M)) (hq : Q r M) : wp x Q := ⟨r, M, h, hq⟩
/-- a loop that counts up to N -/
theorem wp_for {α : Type} (L : Nat → α → Int32 → Mem → Option (Int32 × Mem)) (N : Nat) (Inv : Nat → α → Mem → Prop) (Q : Int32 → Mem → Prop)
    (hs : ∀ n g a M, g < N → Inv g a M → (∀ a' M', Inv (g + 1) a' M' → wp (L n a' (nI (g + 1)) M') Q) → wp (L (n + 1) a (nI g) M) Q)
    (he : ∀ n a M, Inv N a M → wp (L (n + 1) a (nI N) M) Q) : ∀ (k g n : Nat) (a : α) (M : Mem), g + k = N → k < n → Inv g a M → wp (L n a (nI g) M) Q
  | 0, g, n + 1, a, M, h, _, hI => by
    rw [show g = N by omega] at hI ⊢
    exact he n a M hI
  | k + 1, g, n + 1, a, M, h, hn, hI => hs n g a M (by omega) hI (fun a' M' h' => wp_for L N Inv Q hs he k (g + 1) n a' M' (by omega) (by omega) h')
/-- a loop by a measure that falls -/
theorem wp_meas {α : Type} (L : Nat → α → Mem → Option (Int32 × Mem)) (Inv : Nat → α → Mem → Prop) (Q : Int32 → Mem → Prop)
    (hs : ∀ n m a M, Inv m a M → (∀ m' a' M', m' < m → Inv m' a' M' → wp (L n a' M') Q) → wp (L (n + 1) a M) Q) : ∀ (n m : Nat) (a : α) (M : Mem), m < n → Inv m a M → wp (L n a M) Q
  | 0, m, _, _, h, _ => absurd h (Nat.not_lt_zero m)
  | n + 1, m, a, M, h, hI => hs n m a M hI (fun m' a' M' hm h' => wp_meas L Inv Q hs n m' a' M' (by omega) h')
/-! what stays -/
def Fr (S : Nat → Nat → Prop) (M M' : Mem) : Prop := ∀ i k, ¬ S i k → M' i k = M i k
theorem Fr.rf {S : Nat → Nat → Prop} {M : Mem} : Fr S M M := fun _ _ _ => rfl
theorem Fr.tr {S : Nat → Nat → Prop} {M M1 M2 : Mem} (h : Fr S M M1) (h2 : Fr S M1 M2) : Fr S M M2 := fun i k hs => (h2 i k hs).trans (h i k hs)
theorem Fr.mn {S S' : Nat → Nat → Prop} {M M1 : Mem} (h : Fr S M M1) (hs : ∀ i k, S i k → S' i k) : Fr S' M M1 := fun i k hn => h i k (fun hh => hn (hs i k hh))
theorem Fr.up {S : Nat → Nat → Prop} {M M1 : Mem} {i k : Nat} {v : Int32} (h : Fr S M M1) (hs : S i k) : Fr S M (up M1 i k v) := by
  intro j q hn
  by_cases e : j = i
  · subst e
    by_cases e2 : q = k
    · subst e2; exact absurd hs hn
    · rw [up_col _ _ _ e2]; exact h _ _ hn
  · rw [up_row _ _ _ e]; exact h _ _ hn
theorem up_at (M : Mem) (i k : Nat) (v : Int32) (j q : Nat) : up M i k v j q = if j = i ∧ q = k then v else M j q := by
  by_cases e : j = i
  · subst e
    by_cases e2 : q = k
    · subst e2; simp [up_self]
    · rw [up_col _ _ _ e2]; simp [e2]
  · rw [up_row _ _ _ e]; simp [e]
