/-! the memory behind the constructors is one of the standing kind -/
def ZZ : Mm := xxC ++ moC
def M0 : Mem := fun i k => match ZZ[i]? with
  | some c => c.2.2.1 k
  | none => 0
set_option maxRecDepth 100000 in
theorem ZZ_kinds : ∀ i, i < 204 → (ZZ[i]?).map (fun c => (c.1, c.2.1)) = some (KD i, LN i) := by decide +kernel
set_option maxRecDepth 100000 in
theorem ZZ_refs : ∀ i, i < 204 → ∀ k, k < 61 → (ZZ[i]?).bind (fun c => c.2.2.2 k) = RFd i (M0 i) k := by decide +kernel
set_option maxRecDepth 100000 in
theorem ZZ_len : ZZ.length = 204 := by decide +kernel
theorem cE_eq {cy : Nat → ClassId} {ad : Nat → Nat} {c1 c2 : Cel} (h1 : c1.1 = c2.1) (h2 : c1.2.1 = c2.2.1) (h3 : c1.2.2.1 = c2.2.2.1) (h4 : c1.1 < 12 → ∀ k, k < nF c1.1 → c1.2.2.2 k = c2.2.2.2 k) (h5 : 16 ≤ c1.1 → c1.2.2.2 = c2.2.2.2) : cE cy ad c1 = cE cy ad c2 := by
  obtain ⟨a1, b1, i1, r1⟩ := c1
  obtain ⟨a2, b2, i2, r2⟩ := c2
  dsimp only at h1 h2 h3 h4 h5
  subst h1
  subst h2
  subst h3
  by_cases h : a1 < 12
  · rw [cE_obj (c := (a1, b1, i1, r1)) h, cE_obj (c := (a1, b1, i1, r2)) h]
    refine congrArg (fun z : List Value => (Sum.inr (a1, z) : va_E)) ?_
    unfold flds
    apply List.map_congr_left
    intro k hk
    have := h4 h k (List.mem_range.mp hk)
    dsimp only
    rw [this]
  · by_cases h6 : 16 ≤ a1
    · rw [h5 h6]
    · rw [cE_int (c := (a1, b1, i1, r1)) (by omega) (by show a1 < 16; omega), cE_int (c := (a1, b1, i1, r2)) (by omega) (by show a1 < 16; omega)]
theorem nF_le : ∀ c, c < 12 → nF c ≤ 61 := by decide
theorem KD_ref : ∀ i, i < 204 → 16 ≤ KD i → i = 9 ∨ i = 16 ∨ i = 47 ∨ i = 108 ∨ i = 129 := by decide +kernel
theorem rf_out (i : Nat) (hi : i = 9 ∨ i = 16 ∨ i = 47 ∨ i = 108 ∨ i = 129) (r : Nat → Int32) (k : Nat) (hk : 61 ≤ k) : RFd i r k = none := by
  have h1 : i ≠ 23 := by omega
  have h2 : i ≠ 174 := by omega
  rw [RFd_lit h1 h2]
  unfold rfS
  rw [List.getD_eq_getElem?_getD, List.getElem?_eq_none]
  · rfl
  · have : (rfL.getD i []).length ≤ 61 := by rcases hi with rfl | rfl | rfl | rfl | rfl <;> decide
    omega
set_option maxRecDepth 100000 in
theorem zz_out (i : Nat) (hi : i = 9 ∨ i = 16 ∨ i = 47 ∨ i = 108 ∨ i = 129) (k : Nat) (hk : 61 ≤ k) : (ZZ[i]?).bind (fun c => c.2.2.2 k) = none := by
  rcases hi with rfl | rfl | rfl | rfl | rfl
  · show (if k < 6 then some _ else none) = none
    rw [if_neg (by omega)]
  · show (if k < 6 then some _ else none) = none
    rw [if_neg (by omega)]
  · show (if k = 11 then _ else _ : Option Nat) = none
    rw [if_neg (by omega)]
    show (if k = 10 then _ else _ : Option Nat) = none
    rw [if_neg (by omega)]
    show (if k = 9 then _ else _ : Option Nat) = none
    rw [if_neg (by omega)]
    show (if k = 8 then _ else _ : Option Nat) = none
    rw [if_neg (by omega)]
    show (if k = 7 then _ else _ : Option Nat) = none
    rw [if_neg (by omega)]
    show (if k = 6 then _ else _ : Option Nat) = none
    rw [if_neg (by omega)]
    show (if k = 5 then _ else _ : Option Nat) = none
    rw [if_neg (by omega)]
    show (if k = 4 then _ else _ : Option Nat) = none
    rw [if_neg (by omega)]
    show (if k = 3 then _ else _ : Option Nat) = none
    rw [if_neg (by omega)]
    show (if k = 2 then _ else _ : Option Nat) = none
    rw [if_neg (by omega)]
    show (if k = 1 then _ else _ : Option Nat) = none
    rw [if_neg (by omega)]
    show (if k = 0 then _ else _ : Option Nat) = none
    rw [if_neg (by omega)]
  · show (if k = 1 then _ else _ : Option Nat) = none
    rw [if_neg (by omega)]
    show (if k = 0 then _ else _ : Option Nat) = none
    rw [if_neg (by omega)]
  · show (if k = 6 then _ else _ : Option Nat) = none
    rw [if_neg (by omega)]
    show (if k = 5 then _ else _ : Option Nat) = none
    rw [if_neg (by omega)]
    show (if k = 4 then _ else _ : Option Nat) = none
    rw [if_neg (by omega)]
    show (if k = 3 then _ else _ : Option Nat) = none
    rw [if_neg (by omega)]
    show (if k = 2 then _ else _ : Option Nat) = none
    rw [if_neg (by omega)]
    show (if k = 1 then _ else _ : Option Nat) = none
    rw [if_neg (by omega)]
    show (if k = 0 then _ else _ : Option Nat) = none
    rw [if_neg (by omega)]
theorem start_mem {cy : Nat → ClassId} {ad : Nat → Nat} : Wo cy ad (xxC ++ moC) = Wo cy ad (lay [] M0) := by
  show Wo cy ad ZZ = Wo cy ad (lay [] M0)
  unfold Wo
  apply List.ext_getElem?
  intro i
  rw [List.getElem?_mapIdx, List.getElem?_mapIdx]
  by_cases hi : i < 204
  · rw [lay_get hi]
    have hk := ZZ_kinds i hi
    have hr := ZZ_refs i hi
    have ho := zz_out i
    cases hz : ZZ[i]? with
    | none => rw [hz] at hk; cases hk
    | some c =>
      rw [hz] at hk hr ho
      have hk2 := Option.some.inj hk
      have e1 : c.1 = KD i := congrArg Prod.fst hk2
      have e2 : c.2.1 = LN i := congrArg Prod.snd hk2
      refine congrArg (fun z : va_E => some (ad i, z)) (cE_eq e1 e2 ?_ ?_ ?_)
      · funext k
        show c.2.2.1 k = M0 i k
        unfold M0
        rw [hz]
      · intro h12 k hk9
        exact hr k (Nat.lt_of_lt_of_le hk9 (nF_le _ h12))
      · intro h16
        funext k
        rw [e1] at h16
        by_cases h61 : k < 61
        · exact hr k h61
        · exact (ho (KD_ref i hi h16) k (by omega)).trans (rf_out i (KD_ref i hi h16) _ k (by omega)).symm
  · rw [List.getElem?_eq_none (by rw [ZZ_len]; omega), List.getElem?_eq_none (by rw [lay_len]; simpa using hi)]
