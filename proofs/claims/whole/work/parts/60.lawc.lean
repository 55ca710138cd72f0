/-! the class reads the rule -/
def Sg (x : Int32) (n : Nat) : Prop := (n < 256 ∧ x = nI n) ∨ (n = 300 ∧ (x = -1 ∨ x = -2))
theorem Sg.eq {x : Int32} {n c : Nat} (h : Sg x n) (hc : c < 256) : x = nI c ↔ n = c := by
  rcases h with ⟨h1, h2⟩ | ⟨h1, h2 | h2⟩
  · rw [h2, nI_eq (by omega) (by omega)]
  · rw [h2]
    constructor
    · intro e
      exact absurd e.symm (nI_neq (by omega))
    · intro e; omega
  · rw [h2]
    constructor
    · intro e
      have h3 := congrArg Int32.toInt e
      rw [nI_toInt (by omega), show (-2 : Int32).toInt = -2 by decide] at h3
      omega
    · intro e; omega
theorem Sg.dg {x : Int32} {n : Nat} (h : Sg x n) : (¬ x < 48 ∧ ¬ 57 < x) ↔ isDg n = true := by
  unfold isDg
  rw [Bool.and_eq_true, decide_eq_true_iff, decide_eq_true_iff]
  rcases h with ⟨h1, h2⟩ | ⟨h1, h2 | h2⟩
  · rw [h2, show (48 : Int32) = nI 48 from rfl, show (57 : Int32) = nI 57 from rfl, nI_ltI (by omega) (by decide), nI_ltI (by decide) (by omega)]
    omega
  · rw [h2, h1]; decide
  · rw [h2, h1]; decide
def lwS : Nat → Nat → Prop := fun i k => i = 23 ∧ (k = 5 ∨ k = 6)
def lw5 : Nat → Nat → Prop := fun i k => i = 23 ∧ k = 5
def LC (M : Mem) (t : Nat → Nat) (L : Nat) (ev : Nat → Int32) : Prop := L ≤ 40 ∧ M 23 3 = nI L ∧ (∀ p, p < L → t p < 256 ∧ M (dS (M 23 2)) p = nI (t p)) ∧ M 23 11 = ev 99 ∧ M 23 10 = ev 105 ∧ M 23 12 = ev 111 ∧ M 23 9 = ev 114 ∧ M 23 7 = ev 115 ∧ M 23 8 = ev 122
theorem dS_c (x : Int32) : dS x = 24 ∨ dS x = 2 := by unfold dS; split <;> simp
theorem dS_ln (x : Int32) : 40 ≤ LN (dS x) ∧ LN (dS x) ≤ 80 := by rcases dS_c x with h | h <;> rw [h] <;> decide
theorem LC.fr {M M' : Mem} {t : Nat → Nat} {L : Nat} {ev : Nat → Int32} (h : Fr lwS M M') (hc : LC M t L ev) : LC M' t L ev := by
  obtain ⟨h1, h2, h3, h4, h5, h6, h7, h8, h9⟩ := hc
  have e : ∀ k, k ≠ 5 → k ≠ 6 → M' 23 k = M 23 k := fun k a b => h 23 k (by unfold lwS; omega)
  refine ⟨h1, (e 3 (by decide) (by decide)).trans h2, fun p hp => ?_, (e 11 (by decide) (by decide)).trans h4, (e 10 (by decide) (by decide)).trans h5, (e 12 (by decide) (by decide)).trans h6, (e 9 (by decide) (by decide)).trans h7, (e 7 (by decide) (by decide)).trans h8, (e 8 (by decide) (by decide)).trans h9⟩
  rw [e 2 (by decide) (by decide)]
  refine ⟨(h3 p hp).1, ?_⟩
  rw [h _ p (by unfold lwS; rcases dS_c (M 23 2) with z | z <;> omega)]
  exact (h3 p hp).2
def LQ (M : Mem) (r : PR) (v : Int32) (M' : Mem) : Prop := Fr lwS M M' ∧ match r with
  | .inl f => f < 2 ^ 30 ∧ M' 23 6 = nI f
  | .inr w => v = w.1 ∧ M' 23 5 = nI w.2 ∧ M' 23 6 = -1
def TC (t : Nat → Nat) (L : Nat) (ev : Nat → Int32) (T : Mem → Option (Int32 × Mem)) (F : Nat → PR) : Prop := ∀ M p, LC M t L ev → M 23 5 = nI p → M 23 6 = -1 → p ≤ L → wp (T M) (LQ M (F p))
def TF (T : Mem → Option (Int32 × Mem)) : Prop := ∀ M : Mem, ¬ M 23 6 = -1 → wp (T M) (fun _ M' => Fr lw5 M M')
theorem Fr.w5 {M M' : Mem} (h : Fr lw5 M M') : Fr lwS M M' := h.mn (fun i k q => ⟨q.1, Or.inl q.2⟩)
theorem f6 {M M' : Mem} (h : Fr lw5 M M') : M' 23 6 = M 23 6 := h 23 6 (by unfold lw5; omega)
section LawC
variable {M : Mem} {t : Nat → Nat} {L : Nat} {ev : Nat → Int32} {p : Nat}
theorem look_ok (hL : LC M t L ev) (h5 : M 23 5 = nI p) (h6 : M 23 6 = -1) (hp : p < 2 ^ 30) : ∃ x, f_X3_look M = some (x, M) ∧ Sg x (lkp t L p) := by
  have l40 := hL.1
  have hs := dS_ln (M 23 2)
  unfold f_X3_look f_X3_look_0 f_X3_look_50 f_X3_look_63
  rw [h6, if_pos rfl, h5, if_neg (nI_pos (by omega)), hL.2.1]
  by_cases h : p < L
  · refine ⟨nI (t p), ?_, ?_⟩
    · rw [if_pos (nI_lt h (by omega)), if_pos (show nI p < Int32.ofNat (LN (dS (M 23 2))) from nI_lt (b := LN (dS (M 23 2))) (by omega) (by omega)), gd_t (nI_inb (by omega) (by omega)), nI_clamp (by omega), (hL.2.2.1 p h).2]
    · unfold lkp
      rw [if_pos h]
      exact Or.inl ⟨(hL.2.2.1 p h).1, rfl⟩
  · rw [if_neg (nI_nlt (by omega) (by omega))]
    unfold lkp
    rw [if_neg h]
    by_cases hc : M 23 4 = 0
    · exact ⟨-1, by rw [if_pos hc], Or.inr ⟨rfl, Or.inl rfl⟩⟩
    · exact ⟨-2, by rw [if_neg hc], Or.inr ⟨rfl, Or.inr rfl⟩⟩
theorem look_f (h6 : ¬ M 23 6 = -1) : f_X3_look M = some (-1, M) := by
  unfold f_X3_look f_X3_look_0
  rw [if_neg h6]
  rfl
theorem fail_ok (h5 : M 23 5 = nI p) (h6 : M 23 6 = -1) : f_X3_fail M = some (0, up M 23 6 (nI p)) := by
  unfold f_X3_fail f_X3_fail_0
  rw [if_pos h6, h5]
  rfl
theorem fail_f (h6 : ¬ M 23 6 = -1) : f_X3_fail M = some (0, M) := by
  unfold f_X3_fail f_X3_fail_0
  rw [if_neg h6]
  rfl
theorem rl112 {x : Int32} (h5 : M 23 5 = nI p) (h6 : M 23 6 = -1) {v : Int32} (hv : x = v) : wp (f_X3_readLetter_112 x M) (LQ M (.inr (v, p + 1))) := by
  unfold f_X3_readLetter_112
  rw [wp_ml, wp_s, h5, nI_1]
  exact ⟨Fr.rf.up ⟨rfl, Or.inl rfl⟩, hv, up_self _ _ _ _, by rw [up_col _ _ _ (by decide)]; exact h6⟩
theorem rl_ok (hL : LC M t L ev) (h5 : M 23 5 = nI p) (h6 : M 23 6 = -1) (hp : p < 2 ^ 30) {x : Int32} {c : Nat} (hx : Sg x c) : wp (f_X3_readLetter x M) (LQ M (if isLt c = true then .inr (ev c, p + 1) else .inl p)) := by
  obtain ⟨-, -, -, h11, h10, h12, h9, h7, h8⟩ := hL
  have q : ∀ k : Nat, k < 256 → (x = nI k ↔ c = k) := fun k hk => hx.eq hk
  unfold f_X3_readLetter f_X3_readLetter_0
  by_cases e : c = 99
  · rw [if_pos (show x = 99 from (q 99 (by decide)).mpr e), wp_vl, e, if_pos (by decide)]
    exact rl112 h5 h6 h11
  rw [if_neg (show ¬ x = 99 from fun z => e ((q 99 (by decide)).mp z))]
  by_cases e2 : c = 105
  · rw [if_pos (show x = 105 from (q 105 (by decide)).mpr e2), wp_vl, e2, if_pos (by decide)]
    exact rl112 h5 h6 h10
  rw [if_neg (show ¬ x = 105 from fun z => e2 ((q 105 (by decide)).mp z))]
  by_cases e3 : c = 111
  · rw [if_pos (show x = 111 from (q 111 (by decide)).mpr e3), wp_vl, e3, if_pos (by decide)]
    exact rl112 h5 h6 h12
  rw [if_neg (show ¬ x = 111 from fun z => e3 ((q 111 (by decide)).mp z))]
  by_cases e4 : c = 114
  · rw [if_pos (show x = 114 from (q 114 (by decide)).mpr e4), wp_vl, e4, if_pos (by decide)]
    exact rl112 h5 h6 h9
  rw [if_neg (show ¬ x = 114 from fun z => e4 ((q 114 (by decide)).mp z))]
  by_cases e5 : c = 115
  · rw [if_pos (show x = 115 from (q 115 (by decide)).mpr e5), wp_vl, e5, if_pos (by decide)]
    exact rl112 h5 h6 h7
  rw [if_neg (show ¬ x = 115 from fun z => e5 ((q 115 (by decide)).mp z))]
  by_cases e6 : c = 122
  · rw [if_pos (show x = 122 from (q 122 (by decide)).mpr e6), wp_vl, e6, if_pos (by decide)]
    exact rl112 h5 h6 h8
  rw [if_neg (show ¬ x = 122 from fun z => e6 ((q 122 (by decide)).mp z)), fail_ok h5 h6, bd_e, if_neg (by unfold isLt; simp [e, e2, e3, e4, e5, e6])]
  unfold f_X3_readLetter_112
  rw [wp_ml, wp_s]
  exact ⟨(Fr.rf.up ⟨rfl, Or.inr rfl⟩).up ⟨rfl, Or.inl rfl⟩, hp, by rw [up_col _ _ _ (by decide), up_self]⟩
theorem rl_f (x : Int32) : TF (f_X3_readLetter x) := by
  intro M h6
  unfold f_X3_readLetter f_X3_readLetter_0 f_X3_readLetter_112
  rw [fail_f h6]
  simp only [bd_e, wp_if, wp_vl, wp_ml, wp_s]
  have hF : Fr lw5 M (up M 23 5 (M 23 5 + 1)) := Fr.rf.up ⟨rfl, rfl⟩
  simp only [hF, implies_true, and_self]
theorem rd_ok : ∀ (k v t0 n : Nat) (M : Mem) (p : Nat), LC M t L ev → M 23 5 = nI p → M 23 6 = -1 → p ≤ L → t0 + k = 3 → k < n → v < 10 ^ t0 → wp (f_X3_readDigits_4 n (nI v) (nI t0) M) (LQ M (.inr (nI (digs (lkp t L) k v p).1, (digs (lkp t L) k v p).2)))
  | 0, v, t0, n + 1, M, p, hL, h5, h6, hp, ht, _, _ => by
    unfold f_X3_readDigits_4 f_X3_readDigits_55 digs
    rw [if_neg (show ¬ nI t0 < 3 from nI_nlt (b := 3) (by omega) (by omega)), wp_s]
    exact ⟨Fr.rf, rfl, h5, h6⟩
  | k + 1, v, t0, n + 1, M, p, hL, h5, h6, hp, ht, hn, hv => by
    have l40 := hL.1
    unfold f_X3_readDigits_4 f_X3_readDigits_55 digs
    obtain ⟨x, ex, hx⟩ := look_ok hL h5 h6 (by omega)
    rw [if_pos (show nI t0 < 3 from nI_lt (b := 3) (by omega) (by decide)), ex, bd_e]
    have hd := hx.dg
    by_cases h1 : x < 48
    · rw [if_pos h1, if_neg (fun z => (hd.mpr z).1 h1), wp_s]
      exact ⟨Fr.rf, rfl, h5, h6⟩
    · rw [if_neg h1]
      by_cases h2 : 57 < x
      · rw [if_pos h2, if_neg (fun z => (hd.mpr z).2 h2), wp_s]
        exact ⟨Fr.rf, rfl, h5, h6⟩
      · rw [if_neg h2, if_pos (hd.mp ⟨h1, h2⟩)]
        have hdg := hd.mp ⟨h1, h2⟩
        unfold isDg at hdg
        rw [Bool.and_eq_true, decide_eq_true_iff, decide_eq_true_iff] at hdg
        have hxe : x = nI (lkp t L p) := by
          rcases hx with ⟨_, e⟩ | ⟨e, _⟩
          · exact e
          · omega
        have hlt : p < L := lkp_lo (t := t) (fun e => by omega)
        have ht3 : t0 < 3 := by omega
        have hv2 : v < 1000 := Nat.lt_of_lt_of_le hv (by
          have : t0 = 0 ∨ t0 = 1 ∨ t0 = 2 := by omega
          rcases this with h | h | h <;> rw [h] <;> decide)
        have e1 : nI v * 10 + x - 48 = nI (v * 10 + (lkp t L p - 48)) := by
          rw [hxe, show nI v * 10 = nI (v * 10) from pk_mul v 10, nI_add, show nI (v * 10 + lkp t L p) - 48 = nI (v * 10 + lkp t L p - 48) from pk_sub (b := 48) (by omega)]
          congr 1
          omega
        rw [wp_vl, e1, wp_ml, h5, nI_1, wp_vl, nI_1]
        have hF : Fr lwS M (up M 23 5 (nI (p + 1))) := Fr.rf.up ⟨rfl, Or.inl rfl⟩
        refine wp_mono (rd_ok k _ (t0 + 1) n _ (p + 1) (LC.fr hF hL) (up_self _ _ _ _) (by rw [up_col _ _ _ (by decide)]; exact h6) (by omega) (by omega) (by omega) ?_) (fun r M' h => ⟨hF.tr h.1, h.2⟩)
        rw [Nat.pow_succ]
        omega
end LawC
theorem tc_thing {t : Nat → Nat} {L : Nat} {ev : Nat → Int32} {T : Int32 → Mem → Option (Int32 × Mem)} {d : Nat} {x1 : Int32} (hx1 : x1 = nI d) (hd : d ≤ 4) (hE : d < 4 → TC t L ev (f_X3_readExpression T (nI (d + 1))) (exB (lkp t L) (base (lkp t L) ev (4 - (d + 1))))) (hEf : d < 4 → TF (f_X3_readExpression T (nI (d + 1)))) : TC t L ev (b_X3_readThing T x1) (base (lkp t L) ev (4 - d)) := by
  intro M p hL h5 h6 hp
  have l40 := hL.1
  subst hx1
  unfold b_X3_readThing f_X3_readThing_0
  obtain ⟨x, ex, hx⟩ := look_ok hL h5 h6 (by omega)
  rw [ex, bd_e]
  have hdg := hx.dg
  have prim79 : isDg (lkp t L p) = false → wp (f_X3_readThing_79 T x M) (LQ M (prim (lkp t L) ev p)) := by
    intro h
    unfold f_X3_readThing_79 prim
    rw [wp_bd, if_neg (by rw [h]; decide)]
    exact wp_mono (rl_ok hL h5 h6 (by omega) hx) (fun r M' q => wp_s.mpr q)
  have p22 : isDg (lkp t L p) = false → wp (f_X3_readThing_22 T (nI d) x M) (LQ M (base (lkp t L) ev (4 - d) p)) := by
    intro h
    unfold f_X3_readThing_22
    by_cases e : lkp t L p = 40
    · rw [if_pos (show x = 40 from (hx.eq (c := 40) (by decide)).mpr e)]
      by_cases hd4 : d < 4
      · rw [if_pos (show nI d < 4 from nI_lt (b := 4) hd4 (by decide)), wp_ml, h5, nI_1, wp_bd, nI_1]
        have hF : Fr lwS M (up M 23 5 (nI (p + 1))) := Fr.rf.up ⟨rfl, Or.inl rfl⟩
        have hlt : p < L := lkp_lo (t := t) (fun e => by omega)
        have hb : base (lkp t L) ev (4 - d) p = match exB (lkp t L) (base (lkp t L) ev (4 - (d + 1))) (p + 1) with
            | .inl f => .inl f
            | .inr w => if lkp t L w.2 = 41 then .inr (w.1, w.2 + 1) else .inl w.2 := by
          rw [show 4 - d = (4 - (d + 1)) + 1 by omega]
          conv => lhs; unfold base
          rw [if_pos e]
          rfl
        rw [hb]
        refine wp_mono (hE hd4 _ (p + 1) (LC.fr hF hL) (up_self _ _ _ _) (by rw [up_col _ _ _ (by decide)]; exact h6) (by omega)) (fun r M1 q => ?_)
        cases er : exB (lkp t L) (base (lkp t L) ev (4 - (d + 1))) (p + 1) with
        | inl f =>
          rw [er] at q
          obtain ⟨q1, q2, q3⟩ := q
          have h6' : ¬ M1 23 6 = -1 := by rw [q3]; exact nI_neq (by omega)
          rw [look_f h6', bd_e, if_neg (by decide), fail_f h6', bd_e]
          exact wp_s.mpr ⟨hF.tr q1, q2, q3⟩
        | inr w =>
          rw [er] at q
          obtain ⟨q1, q2, q3, q4⟩ := q
          have hw := expr_up (sumP_up (prodP_up (sgn_up (base_up (4 - (d + 1))) 40))) (p + 1) w.1 w.2 er
          have hw2 := hw.2 (by omega)
          obtain ⟨y, ey, hy⟩ := look_ok (LC.fr (hF.tr q1) hL) q3 q4 (by omega)
          rw [ey, bd_e]
          by_cases e41 : lkp t L w.2 = 41
          · rw [if_pos (show y = 41 from (hy.eq (c := 41) (by decide)).mpr e41), wp_ml, q3, nI_1]
            simp only [e41, if_true]
            exact wp_s.mpr ⟨(hF.tr q1).up ⟨rfl, Or.inl rfl⟩, q2, up_self _ _ _ _, by rw [up_col _ _ _ (by decide)]; exact q4⟩
          · rw [if_neg (show ¬ y = 41 from fun z => e41 ((hy.eq (c := 41) (by decide)).mp z)), fail_ok q3 q4, bd_e]
            simp only [e41, if_false]
            exact wp_s.mpr ⟨(hF.tr q1).up ⟨rfl, Or.inr rfl⟩, by omega, up_self _ _ _ _⟩
      · rw [if_neg (show ¬ nI d < 4 from nI_nlt (b := 4) (by omega) (by omega)), show 4 - d = 0 by omega]
        exact prim79 h
    · rw [if_neg (show ¬ x = 40 from fun z => e ((hx.eq (c := 40) (by decide)).mp z))]
      have hb : base (lkp t L) ev (4 - d) p = prim (lkp t L) ev p := by
        cases 4 - d with
        | zero => rfl
        | succ n => unfold base; rw [if_neg e]
      rw [hb]
      exact prim79 h
  by_cases h1 : x < 48
  · rw [if_pos h1]
    exact p22 (Bool.eq_false_iff.mpr (fun z => (hdg.mpr z).1 h1))
  · rw [if_neg h1]
    by_cases h2 : 57 < x
    · rw [if_pos h2]
      exact p22 (Bool.eq_false_iff.mpr (fun z => (hdg.mpr z).2 h2))
    · rw [if_neg h2]
      have hD := hdg.mp ⟨h1, h2⟩
      have hb : base (lkp t L) ev (4 - d) p = .inr (nI (digs (lkp t L) 3 0 p).1, (digs (lkp t L) 3 0 p).2) := by
        have e40 : ¬ lkp t L p = 40 := fun z => by rw [z] at hD; exact absurd hD (by decide)
        have hp : prim (lkp t L) ev p = .inr (nI (digs (lkp t L) 3 0 p).1, (digs (lkp t L) 3 0 p).2) := by unfold prim; rw [if_pos hD]
        cases 4 - d with
        | zero => exact hp
        | succ n => unfold base; rw [if_neg e40]; exact hp
      rw [hb, wp_bd]
      unfold f_X3_readDigits f_X3_readDigits_0
      exact wp_mono (rd_ok 3 0 0 FU M p hL h5 h6 hp rfl (by decide) (by decide)) (fun r M' q => wp_s.mpr q)
theorem tf_thing (T : Int32 → Mem → Option (Int32 × Mem)) (x1 : Int32) : TF (b_X3_readThing T x1) := by
  intro M h6
  unfold b_X3_readThing f_X3_readThing_0
  rw [look_f h6, bd_e, if_pos (by decide)]
  unfold f_X3_readThing_22 f_X3_readThing_79
  rw [if_neg (by decide), wp_bd]
  exact wp_mono (rl_f (-1) M h6) (fun r M' q => wp_s.mpr q)
