/-! a day told: purely, and the class -/
abbrev Act : Type := Nat × Nat × Nat
def ac (lk : Nat → Nat) (p : Nat) : Sum Nat (Act × Nat) :=
  if lk p = 109 then (if isDg (lk (p + 1)) = true then (if isDg (lk (p + 2)) = true then .inr ((109, (lk (p + 1) - 48) * 10 + (lk (p + 2) - 48), 0), p + 3) else .inr ((109, lk (p + 1) - 48, 0), p + 2)) else .inl (p + 1))
  else if lk p = 111 then (if 97 ≤ lk (p + 1) ∧ lk (p + 1) ≤ 102 then .inr ((111, lk (p + 1) - 97, 0), p + 2) else .inl (p + 1))
  else if lk p = 112 then (if 49 ≤ lk (p + 1) ∧ lk (p + 1) ≤ 57 then .inr ((112, lk (p + 1) - 48, 0), p + 2) else .inl (p + 1))
  else if lk p = 118 then (if 97 ≤ lk (p + 1) ∧ lk (p + 1) ≤ 102 then (if 49 ≤ lk (p + 2) ∧ lk (p + 2) ≤ 57 then .inr ((118, lk (p + 1) - 97, lk (p + 2) - 48), p + 3) else .inl (p + 2)) else .inl (p + 1))
  else .inl p
def AOk (a : Act) : Prop := (a.1 = 109 ∧ a.2.1 ≤ 99) ∨ (a.1 = 111 ∧ a.2.1 < 6) ∨ (a.1 = 112 ∧ 1 ≤ a.2.1 ∧ a.2.1 ≤ 9) ∨ (a.1 = 118 ∧ a.2.1 < 6 ∧ 1 ≤ a.2.2 ∧ a.2.2 ≤ 9)
theorem ac_l {lk : Nat → Nat} {p f : Nat} (h : ac lk p = .inl f) : f ≤ p + 2 := by
  unfold ac at h
  repeat' split at h
  all_goals first | cases h; omega | cases h
theorem ac_r {lk : Nat → Nat} {p : Nat} {q : Act × Nat} (h : ac lk p = .inr q) : AOk q.1 ∧ p + 2 ≤ q.2 ∧ q.2 ≤ p + 3 ∧ ∀ j, p ≤ j → j < q.2 → 48 ≤ lk j ∧ lk j ≤ 118 ∧ lk j ≠ 59 := by
  unfold ac at h
  by_cases h1 : lk p = 109
  · rw [if_pos h1] at h
    by_cases d1 : isDg (lk (p + 1)) = true
    · have e1 := isDg_i.mp d1
      rw [if_pos d1] at h
      by_cases d2 : isDg (lk (p + 2)) = true
      · have e2 := isDg_i.mp d2
        rw [if_pos d2] at h
        cases h
        refine ⟨Or.inl ⟨rfl, by show (lk (p + 1) - 48) * 10 + (lk (p + 2) - 48) ≤ 99; omega⟩, by show p + 2 ≤ p + 3; omega, Nat.le_refl _, fun j hj hj2 => ?_⟩
        have hj2 : j < p + 3 := hj2
        have : j = p ∨ j = p + 1 ∨ j = p + 2 := by omega
        rcases this with rfl | rfl | rfl <;> omega
      · rw [if_neg d2] at h
        cases h
        refine ⟨Or.inl ⟨rfl, by show lk (p + 1) - 48 ≤ 99; omega⟩, Nat.le_refl _, by show p + 2 ≤ p + 3; omega, fun j hj hj2 => ?_⟩
        have hj2 : j < p + 2 := hj2
        have : j = p ∨ j = p + 1 := by omega
        rcases this with rfl | rfl <;> omega
    · rw [if_neg d1] at h
      cases h
  · rw [if_neg h1] at h
    by_cases h2 : lk p = 111
    · rw [if_pos h2] at h
      by_cases d1 : 97 ≤ lk (p + 1) ∧ lk (p + 1) ≤ 102
      · rw [if_pos d1] at h
        cases h
        refine ⟨Or.inr (Or.inl ⟨rfl, by show lk (p + 1) - 97 < 6; omega⟩), Nat.le_refl _, by show p + 2 ≤ p + 3; omega, fun j hj hj2 => ?_⟩
        have hj2 : j < p + 2 := hj2
        have : j = p ∨ j = p + 1 := by omega
        rcases this with rfl | rfl <;> omega
      · rw [if_neg d1] at h
        cases h
    · rw [if_neg h2] at h
      by_cases h3 : lk p = 112
      · rw [if_pos h3] at h
        by_cases d1 : 49 ≤ lk (p + 1) ∧ lk (p + 1) ≤ 57
        · rw [if_pos d1] at h
          cases h
          refine ⟨Or.inr (Or.inr (Or.inl ⟨rfl, by show 1 ≤ lk (p + 1) - 48; omega, by show lk (p + 1) - 48 ≤ 9; omega⟩)), Nat.le_refl _, by show p + 2 ≤ p + 3; omega, fun j hj hj2 => ?_⟩
          have hj2 : j < p + 2 := hj2
          have : j = p ∨ j = p + 1 := by omega
          rcases this with rfl | rfl <;> omega
        · rw [if_neg d1] at h
          cases h
      · rw [if_neg h3] at h
        by_cases h4 : lk p = 118
        · rw [if_pos h4] at h
          by_cases d1 : 97 ≤ lk (p + 1) ∧ lk (p + 1) ≤ 102
          · rw [if_pos d1] at h
            by_cases d2 : 49 ≤ lk (p + 2) ∧ lk (p + 2) ≤ 57
            · rw [if_pos d2] at h
              cases h
              refine ⟨Or.inr (Or.inr (Or.inr ⟨rfl, by show lk (p + 1) - 97 < 6; omega, by show 1 ≤ lk (p + 2) - 48; omega, by show lk (p + 2) - 48 ≤ 9; omega⟩)), by show p + 2 ≤ p + 3; omega, Nat.le_refl _, fun j hj hj2 => ?_⟩
              have hj2 : j < p + 3 := hj2
              have : j = p ∨ j = p + 1 ∨ j = p + 2 := by omega
              rcases this with rfl | rfl | rfl <;> omega
            · rw [if_neg d2] at h
              cases h
          · rw [if_neg d1] at h
            cases h
        · rw [if_neg h4] at h
          cases h
theorem ac_L {t : Nat → Nat} {K p : Nat} {q : Act × Nat} (h : ac (lkp t K) p = .inr q) : q.2 ≤ K := by
  obtain ⟨-, h2, -, h4⟩ := ac_r h
  have h5 := h4 (q.2 - 1) (by omega) (by omega)
  have : q.2 - 1 < K := lkp_lo (t := t) (fun e => by omega)
  omega
def acs (lk : Nat → Nat) (L : Nat) : Nat → Nat → Sum Nat (List Act)
  | 0, p => .inl p
  | m + 1, p => match ac lk p with
    | .inl f => .inl f
    | .inr q => if L ≤ q.2 then .inr [q.1] else if lk q.2 = 59 then (match acs lk L m (q.2 + 1) with
      | .inl f => .inl f
      | .inr l => .inr (q.1 :: l)) else .inl q.2
def cnt (lk : Nat → Nat) : Nat → Nat → Nat
  | 0, _ => 0
  | m + 1, p => (if lk p = 59 then 1 else 0) + cnt lk m (p + 1)
theorem cnt_add (lk : Nat → Nat) : ∀ (a b p : Nat), cnt lk (a + b) p = cnt lk a p + cnt lk b (p + a)
  | 0, b, p => by unfold cnt; rw [Nat.zero_add]; cases b <;> simp [cnt]
  | a + 1, b, p => by
    rw [show a + 1 + b = (a + b) + 1 by omega]
    conv => lhs; unfold cnt
    conv => rhs; unfold cnt
    rw [cnt_add lk a b (p + 1), show p + 1 + a = p + (a + 1) by omega]
    cases b <;> simp [cnt] <;> omega
theorem cnt_0 {lk : Nat → Nat} : ∀ (m p : Nat), (∀ j, p ≤ j → j < p + m → lk j ≠ 59) → cnt lk m p = 0
  | 0, p, _ => by unfold cnt; rfl
  | m + 1, p, h => by
    unfold cnt
    rw [if_neg (h p (Nat.le_refl _) (by omega)), cnt_0 m (p + 1) (fun j h1 h2 => h j (by omega) (by omega))]
theorem acs_l {t : Nat → Nat} {L K : Nat} : ∀ (m p f : Nat), p ≤ K → acs (lkp t K) L m p = .inl f → f ≤ K + 2
  | 0, p, f, hp, h => by unfold acs at h; cases h; omega
  | m + 1, p, f, hp, h => by
    unfold acs at h
    cases e : ac (lkp t K) p with
    | inl g => rw [e] at h; have := ac_l e; cases h; omega
    | inr q =>
      rw [e] at h
      have hq := ac_L e
      have h : (if L ≤ q.2 then Sum.inr [q.1] else if lkp t K q.2 = 59 then (match acs (lkp t K) L m (q.2 + 1) with
        | .inl f => .inl f
        | .inr l => .inr (q.1 :: l)) else .inl q.2) = (.inl f : Sum Nat (List Act)) := h
      split at h
      · cases h
      · split at h
        · rename_i h59
          have hlt : q.2 < K := lkp_lo (t := t) (fun e => by omega)
          cases e2 : acs (lkp t K) L m (q.2 + 1) with
          | inl g =>
            rw [e2] at h
            have := acs_l m (q.2 + 1) g (by omega) e2
            cases h
            omega
          | inr l => rw [e2] at h; cases h
        · cases h; omega
theorem acs_r {t : Nat → Nat} {L K : Nat} (hK : K ≤ L) : ∀ (m p : Nat) (l : List Act), acs (lkp t K) L m p = .inr l → L = K ∧ p ≤ L ∧ p + 3 * l.length ≤ K + 1 ∧ 0 < l.length ∧ cnt (lkp t K) (L - p) p + 1 = l.length ∧ ∀ a, a ∈ l → AOk a
  | 0, p, l, h => by unfold acs at h; cases h
  | m + 1, p, l, h => by
    unfold acs at h
    cases e : ac (lkp t K) p with
    | inl g => rw [e] at h; cases h
    | inr q =>
      rw [e] at h
      have hq := ac_L e
      obtain ⟨r1, r2, r3, r4⟩ := ac_r e
      have h : (if L ≤ q.2 then Sum.inr [q.1] else if lkp t K q.2 = 59 then (match acs (lkp t K) L m (q.2 + 1) with
        | .inl f => .inl f
        | .inr l => .inr (q.1 :: l)) else .inl q.2) = (.inr l : Sum Nat (List Act)) := h
      split at h
      · cases h
        refine ⟨by omega, by omega, by show p + 3 * 1 ≤ K + 1; omega, by show 0 < 1; omega, ?_, fun a ha => ?_⟩
        · rw [cnt_0 (L - p) p (fun j h1 h2 => (r4 j h1 (by omega)).2.2)]
          rfl
        · rw [List.mem_singleton.mp ha]; exact r1
      · rename_i hL
        split at h
        · rename_i h59
          cases e2 : acs (lkp t K) L m (q.2 + 1) with
          | inl g => rw [e2] at h; cases h
          | inr l' =>
            rw [e2] at h
            obtain ⟨s1, s2, s3, s4, s5, s6⟩ := acs_r hK m (q.2 + 1) l' e2
            cases h
            refine ⟨s1, by omega, by show p + 3 * (l'.length + 1) ≤ K + 1; omega, by show 0 < l'.length + 1; omega, ?_, fun a ha => ?_⟩
            · rw [show L - p = (q.2 - p) + ((L - (q.2 + 1)) + 1) by omega, cnt_add, cnt_0 (q.2 - p) p (fun j h1 h2 => (r4 j h1 (by omega)).2.2), show p + (q.2 - p) = q.2 by omega]
              unfold cnt
              rw [if_pos h59]
              show 0 + (1 + cnt (lkp t K) (L - (q.2 + 1)) (q.2 + 1)) + 1 = l'.length + 1
              omega
            · rcases List.mem_cons.mp ha with rfl | ha
              · exact r1
              · exact s6 a ha
        · cases h
section DayC
variable {M : Mem} {t : Nat → Nat} {L mo p : Nat}
theorem tx_let (h : TX M t L mo) (hp : p < 2 ^ 30) : f_X8_letterAt (nI p) M = some (if 97 ≤ lkp t (min L mo) p ∧ lkp t (min L mo) p ≤ 102 then nI (lkp t (min L mo) p - 97) else -1, M) := by
  obtain ⟨x, ex, hx, -⟩ := tx_at h hp
  unfold f_X8_letterAt f_X8_letterAt_0 f_X8_letterAt_25 f_X8_letterAt_26
  rw [ex, bd_e]
  have hd := hx.rg (lo := 97) (hi := 102) (by decide) (by decide)
  by_cases h1 : x < 97
  · rw [if_pos h1, if_neg (fun z => (hd.mpr z).1 h1)]
  · rw [if_neg h1]
    by_cases h2 : 102 < x
    · rw [if_pos h2, if_neg (fun z => (hd.mpr z).2 h2)]
    · have hD := hd.mp ⟨h1, h2⟩
      rw [if_neg h2, if_pos hD]
      have : x = nI (lkp t (min L mo) p) := by
        rcases hx with ⟨_, e⟩ | ⟨e, _⟩
        · exact e
        · omega
      rw [this, show nI (lkp t (min L mo) p) - 97 = nI (lkp t (min L mo) p - 97) from pk_sub (b := 97) (by omega)]
theorem behind_cls (h : TX M t L mo) (hp : p < 2 ^ 29) : f_X10_behindAct (nI p) M = some (match ac (lkp t (min L mo)) p with
    | .inl f => -1 - nI f
    | .inr q => nI q.2, M) := by
  obtain ⟨x, ex, hx, -⟩ := tx_at h (p := p) (by omega)
  have n1 : ∀ {a : Nat}, ¬ nI (a - 48) = -1 ∨ ¬ a < 2 ^ 30 := fun {a} => by
    by_cases y : a < 2 ^ 30
    · exact Or.inl (nI_neq (by omega))
    · exact Or.inr y
  have eqc : ∀ c : Nat, c < 256 → (x = nI c ↔ lkp t (min L mo) p = c) := fun c hc => hx.eq hc
  unfold f_X10_behindAct f_X10_behindAct_0 f_X10_behindAct_107 f_X10_behindAct_133 f_X10_behindAct_159 f_X10_behindAct_205 ac
  rw [ex, bd_e, show nI p + 1 = nI (p + 1) from nI_1 p, show nI p + 2 = nI (p + 2) from nI_add p 2, show nI p + 3 = nI (p + 3) from nI_add p 3]
  have t1 := tx_dig h (p := p + 1) (by omega)
  have t2 := tx_dig h (p := p + 2) (by omega)
  have l1 := tx_let h (p := p + 1) (by omega)
  by_cases h1 : lkp t (min L mo) p = 109
  · rw [if_pos (show x = 109 from (eqc 109 (by decide)).mpr h1), t1, bd_e]
    simp only [if_pos h1]
    by_cases d1 : isDg (lkp t (min L mo) (p + 1)) = true
    · have e1 := isDg_i.mp d1
      simp only [if_pos d1]
      rw [if_neg (nI_neq (by omega)), t2]
      by_cases d2 : isDg (lkp t (min L mo) (p + 2)) = true
      · have e2 := isDg_i.mp d2
        simp only [if_pos d2]
        rw [bd_e, if_neg (nI_neq (by omega))]
      · simp only [if_neg d2]
        rw [bd_e, if_pos rfl]
    · simp only [if_neg d1]
      rw [if_pos trivial]
  rw [if_neg (show ¬ x = 109 from fun z => h1 ((eqc 109 (by decide)).mp z))]
  simp only [if_neg h1]
  by_cases h110 : lkp t (min L mo) p = 110
  · rw [if_pos (show x = 110 from (eqc 110 (by decide)).mpr h110)]
    simp only [h110, show ¬ (110 = 111) by decide, show ¬ (110 = 112) by decide, show ¬ (110 = 118) by decide, if_false]
  rw [if_neg (show ¬ x = 110 from fun z => h110 ((eqc 110 (by decide)).mp z))]
  by_cases h2 : lkp t (min L mo) p = 111
  · rw [if_pos (show x = 111 from (eqc 111 (by decide)).mpr h2), l1, bd_e]
    simp only [if_pos h2]
    by_cases d1 : 97 ≤ lkp t (min L mo) (p + 1) ∧ lkp t (min L mo) (p + 1) ≤ 102
    · simp only [if_pos d1]
      rw [if_neg (nI_neq (by omega))]
    · simp only [if_neg d1]
      rw [if_pos trivial]
  rw [if_neg (show ¬ x = 111 from fun z => h2 ((eqc 111 (by decide)).mp z))]
  simp only [if_neg h2]
  have dlt : ∀ y : Nat, (if isDg (lkp t (min L mo) y) = true then nI (lkp t (min L mo) y - 48) else -1) < 1 ↔ ¬ (49 ≤ lkp t (min L mo) y ∧ lkp t (min L mo) y ≤ 57) := by
    intro y
    by_cases d : isDg (lkp t (min L mo) y) = true
    · have e := isDg_i.mp d
      rw [if_pos d, show (1 : Int32) = nI 1 from rfl, nI_ltI (by omega) (by decide)]
      omega
    · rw [if_neg d]
      have e : ¬ (48 ≤ lkp t (min L mo) y ∧ lkp t (min L mo) y ≤ 57) := fun z => d (isDg_i.mpr z)
      exact ⟨fun _ => by omega, fun _ => by decide⟩
  by_cases h3 : lkp t (min L mo) p = 112
  · rw [if_pos (show x = 112 from (eqc 112 (by decide)).mpr h3), t1, bd_e]
    simp only [if_pos h3]
    by_cases d1 : 49 ≤ lkp t (min L mo) (p + 1) ∧ lkp t (min L mo) (p + 1) ≤ 57
    · rw [if_neg (fun z => (dlt _).mp z d1)]
      simp only [if_pos d1]
    · rw [if_pos ((dlt _).mpr d1)]
      simp only [if_neg d1]
  rw [if_neg (show ¬ x = 112 from fun z => h3 ((eqc 112 (by decide)).mp z))]
  simp only [if_neg h3]
  by_cases h4 : lkp t (min L mo) p = 118
  · have hx4 : x = nI 118 := (eqc 118 (by decide)).mpr h4
    rw [hx4, if_neg (by decide), if_neg (by decide), if_neg (by decide), if_neg (by decide), if_neg (by decide), if_pos (by decide), l1, bd_e]
    simp only [if_pos h4]
    by_cases d1 : 97 ≤ lkp t (min L mo) (p + 1) ∧ lkp t (min L mo) (p + 1) ≤ 102
    · simp only [if_pos d1]
      rw [if_neg (nI_neq (by omega)), t2, bd_e]
      by_cases d2 : 49 ≤ lkp t (min L mo) (p + 2) ∧ lkp t (min L mo) (p + 2) ≤ 57
      · rw [if_neg (fun z => (dlt _).mp z d2)]
        simp only [if_pos d2]
      · rw [if_pos ((dlt _).mpr d2)]
        simp only [if_neg d2]
    · simp only [if_neg d1]
      rw [if_pos trivial]
  · simp only [if_neg h4]
    rw [if_neg (show ¬ x = 118 from fun z => h4 ((eqc 118 (by decide)).mp z))]
    split
    · rfl
    · split
      · rfl
      · split
        · rfl
        · split
          · rfl
          · split <;> rfl
end DayC
