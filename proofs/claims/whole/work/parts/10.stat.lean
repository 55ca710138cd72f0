/-! what a written program is made of: tests, calls, names; the calls over the standing memory -/
def gd {α : Type} (c : Prop) [Decidable c] (x : Option α) : Option α := if c then x else none
theorem gd_some {α : Type} {c : Prop} [Decidable c] {x : Option α} {r : α} (h : gd c x = some r) : c ∧ x = some r := by
  unfold gd at h
  by_cases hc : c
  · rw [if_pos hc] at h; exact ⟨hc, h⟩
  · rw [if_neg hc] at h; cases h
def bd {β : Type} (x : Option (Int32 × Mem)) (k : Int32 → Mem → Option β) : Option β := match x with
  | none => none
  | some p => k p.1 p.2
theorem bd_some {β : Type} {x : Option (Int32 × Mem)} {k : Int32 → Mem → Option β} {r : β} (h : bd x k = some r) : ∃ (v : Int32) (M1 : Mem), x = some (v, M1) ∧ k v M1 = some r := by
  cases x with
  | none => cases h
  | some p => exact ⟨p.1, p.2, rfl, h⟩
def vl {β : Type} (x : Int32) (k : Int32 → Option β) : Option β := k x
theorem vl_to {β : Type} {x y : Int32} {k : Int32 → Option β} {r : β} (e : y = x) (h : vl x k = some r) : k y = some r := by subst e; exact h
def ml {β : Type} (x : Mem) (k : Mem → Option β) : Option β := k x
theorem ml_to {β : Type} {x y : Mem} {k : Mem → Option β} {r : β} (e : y = x) (h : ml x k = some r) : k y = some r := by subst e; exact h
theorem if_t {β : Type} {c : Prop} [Decidable c] {a b : Option β} {r : β} (h : c) (hF : (if c then a else b) = some r) : a = some r := by rw [if_pos h] at hF; exact hF
theorem if_f {β : Type} {c : Prop} [Decidable c] {a b : Option β} {r : β} (h : ¬ c) (hF : (if c then a else b) = some r) : b = some r := by rw [if_neg h] at hF; exact hF
def FU : Nat := 2000
/-- an instance method of class ci, a static one -/
def MI (Y : MRec) (np ci : Nat) : Prop := MOK Y np ∧ Cond.instanceMethod Y.1 ∈ wsA ∧ Cond.selects Y.1.cls Y.1 Y.1 ∈ wsA ∧ ∃ q : vw_C, vwCl[ci]? = some q ∧ q.1 = Y.1.cls
def MS (Y : MRec) (np : Nat) : Prop := MOK Y np ∧ Cond.static Y.1 ∈ wsA
def RunS (l : Launch) (D : va_G) (cy : Nat → ClassId) (ad : Nat → Nat) (Y : MRec) (d : Nat) (as : List Value) (X : Mm) (M : Mem) (r : Option Value) (M' : Mem) : Prop := Run l D cy ad none Y d 0 0 as (lay X M) r (lay X M')
section NX7
variable {l : Launch} {D : va_G} {cy : Nat → ClassId} {ad : Nat → Nat} {Y : MRec} {d : Nat} {r : Option Value} {ms' : Mm} {pc : Nat} {L : List (Nat × Value)} {st : List Value} {X : Mm} {M : Mem}
theorem g_nm {x : Int32} (kk : ∀ y : Int32, y = x → RunF l D cy ad none Y d 0 0 r ms' 0 0 pc L (.int y :: st) (lay X M)) : RunF l D cy ad none Y d 0 0 r ms' 0 0 pc L (.int x :: st) (lay X M) := kk x rfl
theorem g_nmM (kk : ∀ M1 : Mem, M1 = M → RunF l D cy ad none Y d 0 0 r ms' 0 0 pc L st (lay X M1)) : RunF l D cy ad none Y d 0 0 r ms' 0 0 pc L st (lay X M) := kk M rfl
theorem s_iinc {i j : Nat} {n' : Int} {x c : Int32} {L' : Int32 → List (Nat × Value)} (hd : decode Y.2.1 pc = .ok (.iinc i n', 3)) (hc : Int32.ofInt n' = c) (hk : L[j]? = some (i, .int x)) (hn : i < Y.2.2.1) (he : ∀ y, stL i (.int y) L = L' y) (kk : ∀ y : Int32, y = x + c → RunF l D cy ad none Y d 0 0 r ms' 0 0 (pc + 3) (L' y) st (lay X M)) : RunF l D cy ad none Y d 0 0 r ms' 0 0 pc L st (lay X M) := g_iinc hd hk rfl hn (he _) (kk _ (by rw [hc]))
theorem s_callVi {Y' : MRec} {d' np idx ob ci : Nat} {as : List Value} {R : Int32} {M1 : Mem} (hR : RunS l D cy ad Y' d' (.ref ob :: as) X M (some (.int R)) M1) (hm : MI Y' np ci) (hlk : Cond.methodLink Y.1.cls idx Y'.1 ∈ wsA) (hd : decode Y.2.1 pc = .ok (.invokevirtual idx, 3)) (hk : kinds[ob]? = some ci) (hn : as.length = np) (hst : (st.map fun v => v.category).sum ≤ 8) (hdd : d' + 1 ≤ d) {st0 : List Value} (hs0 : st0 = as.reverse ++ .ref ob :: st) (kk : RunF l D cy ad none Y d 0 0 r ms' 0 0 (pc + 3) L (.int R :: st) (lay X M1)) : RunF l D cy ad none Y d 0 0 r ms' 0 0 pc L st0 (lay X M) := by
  obtain ⟨q, h1, h2⟩ := hm.2.2.2
  exact g_callV hR hm.1 hlk hm.2.1 hm.2.2.1 hd (lay_get (kd_lt hk).1) (q := q) (by show vwCl[KD ob]? = some q; rw [(kd_lt hk).2]; exact h1) h2 hn hst hdd (Nat.mul_le_mul_left 40 hdd) (Nat.le_refl 0) (Nat.le_refl 0) hs0 kk
theorem s_callVv {Y' : MRec} {d' np idx ob ci : Nat} {as : List Value} {M1 : Mem} (hR : RunS l D cy ad Y' d' (.ref ob :: as) X M none M1) (hm : MI Y' np ci) (hlk : Cond.methodLink Y.1.cls idx Y'.1 ∈ wsA) (hd : decode Y.2.1 pc = .ok (.invokevirtual idx, 3)) (hk : kinds[ob]? = some ci) (hn : as.length = np) (hst : (st.map fun v => v.category).sum ≤ 8) (hdd : d' + 1 ≤ d) {st0 : List Value} (hs0 : st0 = as.reverse ++ .ref ob :: st) (kk : RunF l D cy ad none Y d 0 0 r ms' 0 0 (pc + 3) L st (lay X M1)) : RunF l D cy ad none Y d 0 0 r ms' 0 0 pc L st0 (lay X M) := by
  obtain ⟨q, h1, h2⟩ := hm.2.2.2
  exact g_callV hR hm.1 hlk hm.2.1 hm.2.2.1 hd (lay_get (kd_lt hk).1) (q := q) (by show vwCl[KD ob]? = some q; rw [(kd_lt hk).2]; exact h1) h2 hn hst hdd (Nat.mul_le_mul_left 40 hdd) (Nat.le_refl 0) (Nat.le_refl 0) hs0 kk
theorem s_callSi {Y' : MRec} {d' np idx : Nat} {as : List Value} {R : Int32} {M1 : Mem} (hR : RunS l D cy ad Y' d' as X M (some (.int R)) M1) (hm : MS Y' np) (hlk : Cond.methodLink Y.1.cls idx Y'.1 ∈ wsA) (hd : decode Y.2.1 pc = .ok (.invokestatic idx, 3)) (hn : as.length = np) (hst : (st.map fun v => v.category).sum ≤ 8) (hdd : d' + 1 ≤ d) {st0 : List Value} (hs0 : st0 = as.reverse ++ st) (kk : RunF l D cy ad none Y d 0 0 r ms' 0 0 (pc + 3) L (.int R :: st) (lay X M1)) : RunF l D cy ad none Y d 0 0 r ms' 0 0 pc L st0 (lay X M) :=
  g_callS hR hm.1 hlk hm.2 hd hn hst hdd (Nat.mul_le_mul_left 40 hdd) (Nat.le_refl 0) (Nat.le_refl 0) hs0 kk
theorem s_callSv {Y' : MRec} {d' np idx : Nat} {as : List Value} {M1 : Mem} (hR : RunS l D cy ad Y' d' as X M none M1) (hm : MS Y' np) (hlk : Cond.methodLink Y.1.cls idx Y'.1 ∈ wsA) (hd : decode Y.2.1 pc = .ok (.invokestatic idx, 3)) (hn : as.length = np) (hst : (st.map fun v => v.category).sum ≤ 8) (hdd : d' + 1 ≤ d) {st0 : List Value} (hs0 : st0 = as.reverse ++ st) (kk : RunF l D cy ad none Y d 0 0 r ms' 0 0 (pc + 3) L st (lay X M1)) : RunF l D cy ad none Y d 0 0 r ms' 0 0 pc L st0 (lay X M) :=
  g_callS hR hm.1 hlk hm.2 hd hn hst hdd (Nat.mul_le_mul_left 40 hdd) (Nat.le_refl 0) (Nat.le_refl 0) hs0 kk
theorem s_callNi {Y' : MRec} {d' np idx : Nat} {as : List Value} {R : Int32} {M1 : Mem} {host : String} (hR : RunS l D cy ad Y' d' as X M (some (.int R)) M1) (hm : MS Y' np) (hlk : Cond.methodLinkNest Y.1.cls idx Y'.1 host ∈ nwA) (hd : decode Y.2.1 pc = .ok (.invokestatic idx, 3)) (hn : as.length = np) (hst : (st.map fun v => v.category).sum ≤ 8) (hdd : d' + 1 ≤ d) {st0 : List Value} (hs0 : st0 = as.reverse ++ st) (kk : RunF l D cy ad none Y d 0 0 r ms' 0 0 (pc + 3) L (.int R :: st) (lay X M1)) : RunF l D cy ad none Y d 0 0 r ms' 0 0 pc L st0 (lay X M) :=
  g_callSN hR hm.1 hlk hm.2 hd hn hst hdd (Nat.mul_le_mul_left 40 hdd) (Nat.le_refl 0) (Nat.le_refl 0) hs0 kk
theorem s_max {idx : Nat} {x y : Int32} (hd : decode Y.2.1 pc = .ok (.invokestatic idx, 3)) (hlk : Cond.methodLink Y.1.cls idx Lib.Math.max.name ∈ wsA) (hw : Cond.static Lib.Math.max.name ∈ wsA ∧ Cond.initialized "java/lang/Math" ∈ wsA ∧ Cond.code Lib.Math.max.name Lib.Math.max.code 2 (some .int) ∈ wsA) (hst : (st.map fun v => v.category).sum ≤ 8) (hdd : 1 ≤ d) (kk : RunF l D cy ad none Y d 0 0 r ms' 0 0 (pc + 3) L (.int (if x < y then y else x) :: st) (lay X M)) : RunF l D cy ad none Y d 0 0 r ms' 0 0 pc L (.int y :: .int x :: st) (lay X M) := by
  intro p e s m args below meth cd A C H locs ls hW hz hS hl
  have hts : ∀ w ∈ wsA, w.before args s = true := C.2.2.2.2.2.1
  exact va_mmax C.1 C.2.1 (C.2.2.2.1.trans hl.1.symm) C.2.2.2.2.1 (hts _ hlk) (hts _ hw.1) (hts _ hw.2.1) (hts _ hw.2.2) hdd (by rw [cats_cv]; show _ ≤ 40 * d; omega) (Nat.zero_le _) (Nat.zero_le _) hd (kk p e s m args below meth cd A C H locs ls hW hz hS hl)
theorem s_min {idx : Nat} {x y : Int32} (hd : decode Y.2.1 pc = .ok (.invokestatic idx, 3)) (hlk : Cond.methodLink Y.1.cls idx Lib.Math.min.name ∈ wsA) (hw : Cond.static Lib.Math.min.name ∈ wsA ∧ Cond.initialized "java/lang/Math" ∈ wsA ∧ Cond.code Lib.Math.min.name Lib.Math.min.code 2 (some .int) ∈ wsA) (hst : (st.map fun v => v.category).sum ≤ 8) (hdd : 1 ≤ d) (kk : RunF l D cy ad none Y d 0 0 r ms' 0 0 (pc + 3) L (.int (if y < x then y else x) :: st) (lay X M)) : RunF l D cy ad none Y d 0 0 r ms' 0 0 pc L (.int y :: .int x :: st) (lay X M) := by
  intro p e s m args below meth cd A C H locs ls hW hz hS hl
  have hts : ∀ w ∈ wsA, w.before args s = true := C.2.2.2.2.2.1
  exact va_mmin C.1 C.2.1 (C.2.2.2.1.trans hl.1.symm) C.2.2.2.2.1 (hts _ hlk) (hts _ hw.1) (hts _ hw.2.1) (hts _ hw.2.2) hdd (by rw [cats_cv]; show _ ≤ 40 * d; omega) (Nat.zero_le _) (Nat.zero_le _) hd (kk p e s m args below meth cd A C H locs ls hW hz hS hl)
end NX7
