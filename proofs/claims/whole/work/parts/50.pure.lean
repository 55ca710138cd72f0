/-! PHASE B: the programs, purely -/
theorem gd_t {α : Type} {c : Prop} [Decidable c] {x : Option α} (h : c) : gd c x = x := if_pos h
theorem up_self (M : Mem) (i k : Nat) (v : Int32) : up M i k v i k = v := by simp [up, upd]
theorem up_row (M : Mem) {i j : Nat} (k : Nat) (v : Int32) (h : j ≠ i) : up M i k v j = M j := by simp [up, h]
theorem up_col (M : Mem) (i : Nat) {k j : Nat} (v : Int32) (h : j ≠ k) : up M i k v i j = M i j := by simp [up, upd, h]
def b2i (p : Prop) [Decidable p] : Int32 := if p then 1 else 0
theorem b2i_01 (p : Prop) [Decidable p] : b2i p = 0 ∨ b2i p = 1 := by unfold b2i; split <;> simp
theorem b2i_t {p : Prop} [Decidable p] (h : p) : b2i p = 1 := if_pos h
theorem b2i_f {p : Prop} [Decidable p] (h : ¬ p) : b2i p = 0 := if_neg h
theorem in_spec (x lo hi : Int32) (M : Mem) : f_X11_in x lo hi M = some (b2i (¬ x < lo ∧ ¬ hi < x), M) := by
  unfold f_X11_in f_X11_in_0
  by_cases h1 : x < lo
  · simp [h1, f_X11_in_14, f_X11_in_15, gd, b2i]
  · by_cases h2 : hi < x
    · simp [h1, h2, f_X11_in_14, f_X11_in_15, gd, b2i]
    · simp [h1, h2, f_X11_in_15, gd, b2i]
/-- the bit k of b, as both sides ask for it -/
abbrev bit (b k : Int32) : Prop := ((b >>> (k &&& 31)) &&& 1) = 1
theorem has_spec (b k : Int32) (M : Mem) : f_X10_has b k M = some (b2i (bit b k), M) := by
  unfold f_X10_has f_X10_has_0
  by_cases h : bit b k
  · simp [h, f_X10_has_14, gd, b2i]
  · simp [h, f_X10_has_14, gd, b2i]
theorem mhas_spec (b k : Int32) (M : Mem) : f_X11_has b k M = some (b2i (bit b k), M) := by
  unfold f_X11_has f_X11_has_0
  by_cases h : bit b k
  · simp [h, f_X11_has_14, gd, b2i]
  · simp [h, f_X11_has_14, gd, b2i]
theorem hasGroup_spec (x : Int32) (M : Mem) : f_X1_hasGroup x M = some (b2i (¬ x < 0 ∧ x < M 3 2), M) := by
  unfold f_X1_hasGroup f_X1_hasGroup_0
  by_cases h1 : x < 0
  · simp [h1, f_X1_hasGroup_16, f_X1_hasGroup_17, gd, b2i]
  · by_cases h2 : x < M 3 2
    · simp [h1, h2, f_X1_hasGroup_17, gd, b2i]
    · simp [h1, h2, f_X1_hasGroup_16, f_X1_hasGroup_17, gd, b2i]
theorem hasRoom_spec (x : Int32) (M : Mem) : f_X1_hasRoom x M = some (b2i (¬ x < 0 ∧ x < M 3 0), M) := by
  unfold f_X1_hasRoom f_X1_hasRoom_0
  by_cases h1 : x < 0
  · simp [h1, f_X1_hasRoom_16, f_X1_hasRoom_17, gd, b2i]
  · by_cases h2 : x < M 3 0
    · simp [h1, h2, f_X1_hasRoom_17, gd, b2i]
    · simp [h1, h2, f_X1_hasRoom_16, f_X1_hasRoom_17, gd, b2i]
theorem isCorridor_spec (x : Int32) (M : Mem) : f_X1_isCorridor x M = some (b2i (bit (M 3 1) x), M) := by
  unfold f_X1_isCorridor f_X1_isCorridor_0
  by_cases h : bit (M 3 1) x
  · simp [h, f_X1_isCorridor_17, gd, b2i]
  · simp [h, f_X1_isCorridor_17, gd, b2i]
theorem isRoom_spec (x : Int32) (M : Mem) : f_X11_isRoom x M = some (b2i (¬ x < 0 ∧ ¬ M 174 1 - 1 < x), M) := by
  unfold f_X11_isRoom f_X11_isRoom_0
  rw [in_spec]
  simp only [bd, gd, if_pos (b2i_01 _)]
theorem isGroup_spec (x : Int32) (M : Mem) : f_X11_isGroup x M = some (b2i (¬ x < 0 ∧ ¬ M 174 3 - 1 < x), M) := by
  unfold f_X11_isGroup f_X11_isGroup_0
  rw [in_spec]
  simp only [bd, gd, if_pos (b2i_01 _)]
/-- loops: a number that counts up -/
theorem nI6 : (6 : Int32) = nI 6 := by decide
theorem nI_nn {g : Nat} (h : g < 2 ^ 31) : (0 : Int32) ≤ nI g := nI_pos' h
theorem nI_inb {g N : Nat} (h : g < N) (hN : N ≤ 1000) : 0 ≤ nI g ∧ (nI g).toNatClampNeg < N := ⟨nI_pos' (by omega), by rw [nI_clamp (by omega)]; exact h⟩
/-- the bits of those below n for which p holds, from g on, behind acc -/
def bitsF (p : Nat → Prop) [DecidablePred p] : Nat → Nat → Int32 → Int32
  | 0, _, acc => acc
  | n + 1, g, acc => bitsF p n (g + 1) (if p g then acc ||| (1 <<< (nI g &&& 31)) else acc)
theorem bitsIn_loop (s : Nat) (room : Int32) (M : Mem) : ∀ (m g n : Nat) (acc : Int32), g + m = 6 → m < n → f_X7_bitsIn_4 s n room acc (nI g) M = some (bitsF (fun g => M (s + 1) g = room) m g acc, M)
  | 0, g, n + 1, acc, h, _ => by
    unfold f_X7_bitsIn_4
    rw [nI6, if_neg (nI_nlt (by omega) (by omega))]
    rfl
  | m + 1, g, n + 1, acc, h, hn => by
    unfold f_X7_bitsIn_4
    rw [nI6, if_pos (nI_lt (by omega) (by decide)), gd_t (nI_inb (by omega) (by decide)), nI_clamp (by omega)]
    simp only [f_X7_bitsIn_26, vl]
    rw [nI_1, bitsIn_loop s room M m (g + 1) n _ (by omega) (by omega), bitsIn_loop s room M m (g + 1) n _ (by omega) (by omega)]
    show _ = some (bitsF _ m (g + 1) _, M)
    split <;> rfl
theorem bitsIn_spec (s : Nat) (room : Int32) (M : Mem) : f_X7_bitsIn s room M = some (bitsF (fun g => M (s + 1) g = room) 6 0 0, M) := bitsIn_loop s room M 6 0 FU 0 rfl (by decide)
