/-! a day told: the class looks the whole text over; the reference reads it -/
section DayD
variable {M : Mem} {t : Nat → Nat} {L mo : Nat}
theorem nf_neg {f : Nat} (h : f ≤ 100) : (-1 - nI f : Int32) < 0 := by
  have key : ∀ f, f ≤ 100 → (-1 - nI f : Int32) < 0 := by decide
  exact key f h
theorem nf_back {f : Nat} (h : f ≤ 100) : (-1 - (-1 - nI f) : Int32) = nI f := by
  have key : ∀ f, f ≤ 100 → (-1 - (-1 - nI f) : Int32) = nI f := by decide
  exact key f h
theorem fod25 (h : TX M t L mo) : ∀ (m i fu p : Nat), i + m = 81 → m < fu → p ≤ min L mo → f_X10_faultOfDay_25 fu (nI p) (nI i) M = some (match acs (lkp t (min L mo)) L m p with
    | .inl f => nI f
    | .inr _ => -1, M)
  | 0, i, fu + 1, p, hi, _, hp => by
    unfold f_X10_faultOfDay_25 acs
    rw [if_pos (show 80 < nI i from nI_lt (a := 80) (by omega) (by omega))]
  | m + 1, i, fu + 1, p, hi, hf, hp => by
    have l80 := h.1
    unfold f_X10_faultOfDay_25 acs
    rw [if_neg (show ¬ 80 < nI i from nI_nlt (a := 80) (by omega) (by decide)), behind_cls h (by omega), bd_e]
    cases e : ac (lkp t (min L mo)) p with
    | inl f =>
      have := ac_l e
      show (if (-1 - nI f : Int32) < 0 then some (-1 - (-1 - nI f), M) else _) = some (nI f, M)
      rw [if_pos (nf_neg (by omega)), nf_back (by omega)]
    | inr q =>
      have hq := ac_L e
      obtain ⟨x, ex, hx, hx1⟩ := tx_at h (p := q.2) (by omega)
      show (if nI q.2 < 0 then _ else bd (f_X8_at (nI q.2) M) _) = some ((match (if L ≤ q.2 then Sum.inr [q.1] else if lkp t (min L mo) q.2 = 59 then (match acs (lkp t (min L mo)) L m (q.2 + 1) with
        | .inl f => .inl f
        | .inr l => .inr (q.1 :: l)) else .inl q.2 : Sum Nat (List Act)) with
        | .inl f => nI f
        | .inr _ => -1), M)
      rw [if_neg (nI_pos (by omega)), ex, bd_e]
      by_cases hE : L ≤ q.2
      · rw [if_pos (hx1.mpr hE)]
        simp only [if_pos hE]
      · rw [if_neg (fun z => hE (hx1.mp z)), ex, bd_e]
        simp only [if_neg hE]
        by_cases h59 : lkp t (min L mo) q.2 = 59
        · have hlt : q.2 < min L mo := lkp_lo (t := t) (fun e => by omega)
          rw [if_pos (show x = 59 from (hx.eq (c := 59) (by decide)).mpr h59)]
          simp only [if_pos h59, vl]
          rw [nI_1, nI_1, fod25 h m (i + 1) fu (q.2 + 1) (by omega) (by omega) (by omega)]
          cases acs (lkp t (min L mo)) L m (q.2 + 1) <;> rfl
        · rw [if_neg (show ¬ x = 59 from fun z => h59 ((hx.eq (c := 59) (by decide)).mp z))]
          simp only [if_neg h59]
theorem told18 (h : TX M t L mo) : ∀ (m p a fu : Nat), p + m = L → m < fu → f_X10_actsTold_18 fu (nI a) (nI p) M = some (nI (a + cnt (lkp t (min L mo)) m p), M)
  | 0, p, a, fu + 1, hp, _ => by
    have l80 := h.1
    unfold f_X10_actsTold_18 cnt
    rw [h.2.2.1, if_neg (nI_nlt (by omega) (by omega))]
    rfl
  | m + 1, p, a, fu + 1, hp, hf => by
    have l80 := h.1
    obtain ⟨x, ex, hx, -⟩ := tx_at h (p := p) (by omega)
    unfold f_X10_actsTold_18 f_X10_actsTold_45 cnt
    rw [h.2.2.1, if_pos (nI_lt (by omega) (by omega)), ex, bd_e]
    by_cases h59 : lkp t (min L mo) p = 59
    · rw [if_pos (show x = 59 from (hx.eq (c := 59) (by decide)).mpr h59), if_pos h59]
      simp only [vl]
      rw [nI_1, nI_1, told18 h m (p + 1) (a + 1) fu (by omega) (by omega), Nat.add_assoc]
    · rw [if_neg (show ¬ x = 59 from fun z => h59 ((hx.eq (c := 59) (by decide)).mp z)), if_neg h59]
      simp only [vl]
      rw [nI_1, told18 h m (p + 1) a fu (by omega) (by omega), Nat.zero_add]
end DayD
/-! the reference reads an act -/
def raS (k : Nat) : Nat → Nat → Prop := fun i q => (i = 174 ∧ (q = 18 ∨ q = 19)) ∨ (i = 190 ∧ k ≤ q ∧ q < k + 3)
theorem RC.ra {M M' : Mem} {t : Nat → Nat} {L k : Nat} (h : Fr (raS k) M M') (hc : RC M t L) : RC M' t L := by
  obtain ⟨h1, h2, ⟨n0, tp, a, b, e1, e2, e3⟩, h3⟩ := hc
  have e : ∀ q, q ≠ 18 → q ≠ 19 → M' 174 q = M 174 q := fun q a b => h 174 q (by unfold raS; omega)
  have e15 := e 15 (by decide) (by decide)
  refine ⟨by rw [e15]; exact h1, by rw [e15]; exact h2, ⟨n0, tp, a, b, (e 16 (by decide) (by decide)).trans e1, (e 17 (by decide) (by decide)).trans e2, e3⟩, fun p hp => ?_⟩
  rw [e15, h _ p (by unfold raS; rcases dR_c (M 174 15) with z | z <;> omega)]
  exact h3 p hp
section DayR
variable {M : Mem} {t : Nat → Nat} {L k : Nat}
abbrev RaF (k : Nat) (M : Mem) : Int32 → Mem → Prop := fun _ M' => M' 174 19 = M 174 19 ∧ Fr (raS k) M M'
theorem ra122_f (hk : k + 3 ≤ 240) (h9 : ¬ M 174 19 = -1) (x : Int32) : wp (f_X11_readAct_122 (nI k) x M) (RaF k M) := by
  unfold f_X11_readAct_122 f_X11_readAct_143
  rw [wp_if]
  refine ⟨fun _ => ?_, fun _ => by rw [wp_s]; exact ⟨rfl, Fr.rf⟩⟩
  rw [dig_n h9, bd_e, show nI k + 2 = nI (k + 2) from nI_add k 2, gd_t (nI_inb (show k + 2 < 240 by omega) (by decide)), nI_clamp (by omega), wp_ml, wp_s]
  exact ⟨by rw [up_row _ _ _ (by decide)], Fr.rf.up (Or.inr ⟨rfl, by omega, by omega⟩)⟩
theorem ra106_f (hk : k + 3 ≤ 240) (h9 : ¬ M 174 19 = -1) (x : Int32) : wp (f_X11_readAct_106 (nI k) x M) (RaF k M) := by
  unfold f_X11_readAct_106
  rw [let_n h9, bd_e, show nI k + 1 = nI (k + 1) from nI_1 k, gd_t (nI_inb (show k + 1 < 240 by omega) (by decide)), nI_clamp (by omega), wp_ml]
  have e9 : up M 190 (k + 1) 0 174 19 = M 174 19 := by rw [up_row _ _ _ (by decide)]
  exact wp_mono (ra122_f hk (by rw [e9]; exact h9) x) (fun v M' q => ⟨q.1.trans e9, (Fr.up (S := raS k) Fr.rf (Or.inr ⟨rfl, by omega, by omega⟩)).tr q.2⟩)
theorem ra94_f (hk : k + 3 ≤ 240) (h9 : ¬ M 174 19 = -1) (x : Int32) : wp (f_X11_readAct_94 (nI k) x M) (RaF k M) := by
  unfold f_X11_readAct_94
  rw [wp_if]
  refine ⟨fun _ => ra106_f hk h9 x, fun _ => ?_⟩
  rw [wp_if]
  exact ⟨fun _ => ra106_f hk h9 x, fun _ => ra122_f hk h9 x⟩
theorem ra73_f (hk : k + 3 ≤ 240) (h9 : ¬ M 174 19 = -1) (x : Int32) : wp (f_X11_readAct_73 (nI k) x M) (RaF k M) := by
  unfold f_X11_readAct_73
  rw [wp_if]
  refine ⟨fun _ => ?_, fun _ => ra94_f hk h9 x⟩
  rw [dig_n h9, bd_e, show nI k + 1 = nI (k + 1) from nI_1 k, gd_t (nI_inb (show k + 1 < 240 by omega) (by decide)), nI_clamp (by omega), wp_ml]
  have e9 : up M 190 (k + 1) 0 174 19 = M 174 19 := by rw [up_row _ _ _ (by decide)]
  exact wp_mono (ra94_f hk (by rw [e9]; exact h9) x) (fun v M' q => ⟨q.1.trans e9, (Fr.up (S := raS k) Fr.rf (Or.inr ⟨rfl, by omega, by omega⟩)).tr q.2⟩)
/-- where an act stands in the reference -/
def AcR (M : Mem) (k : Nat) (a : Act) : Prop := M 190 k = nI a.1 ∧ M 190 (k + 1) = nI a.2.1 ∧ (a.1 = 118 → M 190 (k + 2) = nI a.2.2)
theorem readAct_ref {p : Nat} (hk : k + 3 ≤ 240) (hp : p ≤ L) (hL : RC M t L) (h8 : M 174 18 = nI p) (h9 : M 174 19 = -1) : wp (f_X11_readAct (nI k) M) (fun _ M' => Fr (raS k) M M' ∧ match ac (lkp t L) p with
    | .inl f => M' 174 19 = nI f
    | .inr q => M' 174 19 = -1 ∧ M' 174 18 = nI q.2 ∧ AcR M' k q.1) := by
  have l80 := hL.le
  obtain ⟨x, ex, hx⟩ := here_ok hL h8 (by omega)
  have eqc : ∀ c : Nat, c < 256 → (x = nI c ↔ lkp t L p = c) := fun c hc => hx.eq hc
  -- behind the kind
  have go : ∀ c : Nat, x = nI c → lkp t L p = c → (c = 109 ∨ c = 111 ∨ c = 112 ∨ c = 118) → wp (f_X11_readAct_37 (nI k) (nI c) M) (fun _ M' => Fr (raS k) M M' ∧ match ac (lkp t L) p with
      | .inl f => M' 174 19 = nI f
      | .inr q => M' 174 19 = -1 ∧ M' 174 18 = nI q.2 ∧ AcR M' k q.1) := by
    intro c hxc hc hc4
    have hlt : p < L := by
      by_cases y : p < L
      · exact y
      · exfalso
        rcases hx with ⟨z1, z2⟩ | ⟨z1, z2⟩
        · unfold lkp at z1; rw [if_neg y] at z1; omega
        · unfold lkp at hc
          rw [if_neg y] at hc
          rcases z2 with z2 | z2 <;> rw [hxc, ← hc] at z2 <;> exact absurd z2 (by decide)
    unfold f_X11_readAct_37
    rw [h8, nI_1, wp_ml, gd_t (nI_inb (show k < 240 by omega) (by decide)), nI_clamp (show k < 2 ^ 31 by omega), wp_ml]
    have hF : Fr (raS k) M (up (up M 174 18 (nI (p + 1))) 190 k (nI c)) := (Fr.rf.up (Or.inl ⟨rfl, by omega⟩)).up (Or.inr ⟨rfl, by omega, by omega⟩)
    have m8 : up (up M 174 18 (nI (p + 1))) 190 k (nI c) 174 18 = nI (p + 1) := by rw [up_row _ _ _ (by decide), up_self]
    have m9 : up (up M 174 18 (nI (p + 1))) 190 k (nI c) 174 19 = -1 := by rw [up_row _ _ _ (by decide), up_col _ _ _ (by decide)]; exact h9
    have mk : up (up M 174 18 (nI (p + 1))) 190 k (nI c) 190 k = nI c := up_self _ _ _ _
    generalize hM7 : up (up M 174 18 (nI (p + 1))) 190 k (nI c) = M7 at *
    have L7 := RC.ra hF hL
    have k1 : nI k + 1 = nI (k + 1) := nI_1 k
    have g1 : ∀ x : Option (Int32 × Mem), gd (0 ≤ nI (k + 1) ∧ (nI (k + 1)).toNatClampNeg < 240) x = x := fun x => gd_t (nI_inb (show k + 1 < 240 by omega) (by decide))
    have c1 : (nI (k + 1)).toNatClampNeg = k + 1 := nI_clamp (by omega)
    -- a fault at f, then zero written, then the rest
    have bad : ∀ (f : Nat) (T : Mem → Option (Int32 × Mem)) (N : Mem), f ≤ 100 → Fr (raS k) M N → N 174 19 = nI f → (∀ N' : Mem, ¬ N' 174 19 = -1 → wp (T N') (RaF k N')) → wp (T (up N 190 (k + 1) 0)) (fun _ M' => Fr (raS k) M M' ∧ M' 174 19 = nI f) := by
      intro f T N hf hFN hN hT
      have e9 : up N 190 (k + 1) 0 174 19 = nI f := by rw [up_row _ _ _ (by decide)]; exact hN
      exact wp_mono (hT _ (by rw [e9]; exact nI_neq (by omega))) (fun v M' q => ⟨(hFN.up (Or.inr ⟨rfl, by omega, by omega⟩)).tr q.2, q.1.trans e9⟩)
    have F19 : ∀ f : Nat, Fr (raS k) M (up M7 174 19 (nI f)) := fun f => hF.up (Or.inl ⟨rfl, by omega⟩)
    unfold ac
    rw [hc]
    by_cases k109 : c = 109
    · subst k109
      rw [if_pos (show nI 109 = 109 from rfl), num_x L7 m8 m9 (by omega), k1]
      simp only [if_true]
      by_cases d1 : isDg (lkp t L (p + 1)) = true
      · have e1 := isDg_i.mp d1
        have e2 : digs (lkp t L) 2 0 (p + 1) = if isDg (lkp t L (p + 2)) = true then ((lkp t L (p + 1) - 48) * 10 + (lkp t L (p + 2) - 48), p + 3) else (lkp t L (p + 1) - 48, p + 2) := by
          conv => lhs; unfold digs
          rw [if_pos d1]
          unfold digs digs
          show (if isDg (lkp t L (p + 2)) = true then ((0 * 10 + (lkp t L (p + 1) - 48)) * 10 + (lkp t L (p + 2) - 48), p + 3) else (0 * 10 + (lkp t L (p + 1) - 48), p + 2)) = _
          rw [Nat.zero_mul, Nat.zero_add]
        simp only [if_pos d1]
        rw [bd_e, g1, c1, wp_ml]
        unfold f_X11_readAct_73 f_X11_readAct_94 f_X11_readAct_122 f_X11_readAct_143
        rw [if_neg (by decide), if_neg (by decide), if_neg (by decide), if_neg (by decide), wp_s, e2]
        have fin : ∀ v q : Nat, Fr (raS k) M (up (up M7 174 18 (nI q)) 190 (k + 1) (nI v)) ∧ (up (up M7 174 18 (nI q)) 190 (k + 1) (nI v) 174 19 = -1 ∧ up (up M7 174 18 (nI q)) 190 (k + 1) (nI v) 174 18 = nI q ∧ AcR (up (up M7 174 18 (nI q)) 190 (k + 1) (nI v)) k (109, v, 0)) := fun v q => ⟨(hF.up (Or.inl ⟨rfl, by omega⟩)).up (Or.inr ⟨rfl, by omega, by omega⟩), by rw [up_row _ _ _ (by decide), up_col _ _ _ (by decide)]; exact m9, by rw [up_row _ _ _ (by decide), up_self], by rw [up_col _ _ _ (by omega), up_row _ _ _ (by decide)]; exact mk, up_self _ _ _ _, fun z => absurd (show (109 : Nat) = 118 from z) (by decide)⟩
        by_cases d2 : isDg (lkp t L (p + 2)) = true
        · simp only [if_pos d2]; exact fin _ _
        · simp only [if_neg d2]; exact fin _ _
      · simp only [if_neg d1]
        rw [bd_e, g1, c1, wp_ml]
        exact bad (p + 1) (f_X11_readAct_73 (nI k) (nI 109)) _ (by omega) (F19 _) (up_self _ _ _ _) (fun N' h => ra73_f hk h _)
    rw [if_neg (show ¬ nI c = 109 from fun z => k109 ((eqc 109 (by decide)).mp (hxc.trans z) ▸ hc.symm))]
    simp only [if_neg k109]
    have fin : c ≠ 118 → ∀ v q : Nat, Fr (raS k) M (up (up M7 174 18 (nI q)) 190 (k + 1) (nI v)) ∧ (up (up M7 174 18 (nI q)) 190 (k + 1) (nI v) 174 19 = -1 ∧ up (up M7 174 18 (nI q)) 190 (k + 1) (nI v) 174 18 = nI q ∧ AcR (up (up M7 174 18 (nI q)) 190 (k + 1) (nI v)) k (c, v, 0)) := fun hne v q => ⟨(hF.up (Or.inl ⟨rfl, by omega⟩)).up (Or.inr ⟨rfl, by omega, by omega⟩), by rw [up_row _ _ _ (by decide), up_col _ _ _ (by decide)]; exact m9, by rw [up_row _ _ _ (by decide), up_self], by rw [up_col _ _ _ (by omega), up_row _ _ _ (by decide)]; exact mk, up_self _ _ _ _, fun z => absurd (show c = 118 from z) hne⟩
    by_cases k111 : c = 111
    · subst k111
      unfold f_X11_readAct_73 f_X11_readAct_94 f_X11_readAct_106
      rw [if_neg (by decide), if_pos (by decide), show f_X11_letter 97 6 M7 = _ from let_x (c := 97) (m := 6) L7 m8 m9 (by omega) (by decide) (by decide), k1]
      simp only [if_true]
      by_cases d1 : 97 ≤ lkp t L (p + 1) ∧ lkp t L (p + 1) ≤ 102
      · rw [if_pos (show 97 ≤ lkp t L (p + 1) ∧ lkp t L (p + 1) ≤ 97 + 6 - 1 from d1), bd_e, g1, c1, wp_ml]
        simp only [if_pos d1]
        unfold f_X11_readAct_122 f_X11_readAct_143
        rw [if_neg (by decide), wp_s]
        exact fin (by decide) _ _
      · rw [if_neg (show ¬ (97 ≤ lkp t L (p + 1) ∧ lkp t L (p + 1) ≤ 97 + 6 - 1) from d1), bd_e, g1, c1, wp_ml]
        simp only [if_neg d1]
        exact bad (p + 1) (f_X11_readAct_122 (nI k) (nI 111)) _ (by omega) (F19 _) (up_self _ _ _ _) (fun N' h => ra122_f hk h _)
    simp only [if_neg k111]
    by_cases k112 : c = 112
    · subst k112
      unfold f_X11_readAct_73
      rw [if_pos (by decide), show f_X11_digit 1 9 M7 = _ from dig_x (lo := 1) (hi := 9) L7 m8 m9 (by omega) (by decide) (by decide), k1]
      simp only [if_true]
      by_cases d1 : 49 ≤ lkp t L (p + 1) ∧ lkp t L (p + 1) ≤ 57
      · rw [if_pos (show 48 + 1 ≤ lkp t L (p + 1) ∧ lkp t L (p + 1) ≤ 48 + 9 from d1), bd_e, g1, c1, wp_ml]
        simp only [if_pos d1]
        unfold f_X11_readAct_94 f_X11_readAct_122 f_X11_readAct_143
        rw [if_neg (by decide), if_neg (by decide), if_neg (by decide), wp_s]
        exact fin (by decide) _ _
      · rw [if_neg (show ¬ (48 + 1 ≤ lkp t L (p + 1) ∧ lkp t L (p + 1) ≤ 48 + 9) from d1), bd_e, g1, c1, wp_ml]
        simp only [if_neg d1]
        exact bad (p + 1) (f_X11_readAct_94 (nI k) (nI 112)) _ (by omega) (F19 _) (up_self _ _ _ _) (fun N' h => ra94_f hk h _)
    simp only [if_neg k112]
    have k118 : c = 118 := by omega
    subst k118
    unfold f_X11_readAct_73 f_X11_readAct_94 f_X11_readAct_106
    rw [if_neg (by decide), if_neg (by decide), if_pos (by decide), show f_X11_letter 97 6 M7 = _ from let_x (c := 97) (m := 6) L7 m8 m9 (by omega) (by decide) (by decide), k1]
    simp only [if_true]
    by_cases d1 : 97 ≤ lkp t L (p + 1) ∧ lkp t L (p + 1) ≤ 102
    rotate_left
    · rw [if_neg (show ¬ (97 ≤ lkp t L (p + 1) ∧ lkp t L (p + 1) ≤ 97 + 6 - 1) from d1), bd_e, g1, c1, wp_ml]
      simp only [if_neg d1]
      exact bad (p + 1) (f_X11_readAct_122 (nI k) (nI 118)) _ (by omega) (F19 _) (up_self _ _ _ _) (fun N' h => ra122_f hk h _)
    rw [if_pos (show 97 ≤ lkp t L (p + 1) ∧ lkp t L (p + 1) ≤ 97 + 6 - 1 from d1), bd_e, g1, c1, wp_ml]
    simp only [if_pos d1]
    have hF8 : Fr (raS k) M (up (up M7 174 18 (nI (p + 2))) 190 (k + 1) (nI (lkp t L (p + 1) - 97))) := (hF.up (Or.inl ⟨rfl, by omega⟩)).up (Or.inr ⟨rfl, by omega, by omega⟩)
    have n8 : up (up M7 174 18 (nI (p + 2))) 190 (k + 1) (nI (lkp t L (p + 1) - 97)) 174 18 = nI (p + 2) := by rw [up_row _ _ _ (by decide), up_self]
    have n9 : up (up M7 174 18 (nI (p + 2))) 190 (k + 1) (nI (lkp t L (p + 1) - 97)) 174 19 = -1 := by rw [up_row _ _ _ (by decide), up_col _ _ _ (by decide)]; exact m9
    have nk : up (up M7 174 18 (nI (p + 2))) 190 (k + 1) (nI (lkp t L (p + 1) - 97)) 190 k = nI 118 := by rw [up_col _ _ _ (by omega), up_row _ _ _ (by decide)]; exact mk
    have nk1 : up (up M7 174 18 (nI (p + 2))) 190 (k + 1) (nI (lkp t L (p + 1) - 97)) 190 (k + 1) = nI (lkp t L (p + 1) - 97) := up_self _ _ _ _
    show wp (f_X11_readAct_122 (nI k) (nI 118) (up (up M7 174 18 (nI (p + 2))) 190 (k + 1) (nI (lkp t L (p + 1) - 97)))) _
    generalize hM8 : up (up M7 174 18 (nI (p + 2))) 190 (k + 1) (nI (lkp t L (p + 1) - 97)) = M8 at *
    unfold f_X11_readAct_122 f_X11_readAct_143
    rw [if_pos (by decide), show f_X11_digit 1 9 M8 = _ from dig_x (lo := 1) (hi := 9) (RC.ra hF8 hL) n8 n9 (by omega) (by decide) (by decide), show nI k + 2 = nI (k + 2) from nI_add k 2]
    by_cases d2 : 49 ≤ lkp t L (p + 2) ∧ lkp t L (p + 2) ≤ 57
    · rw [if_pos (show 48 + 1 ≤ lkp t L (p + 2) ∧ lkp t L (p + 2) ≤ 48 + 9 from d2), bd_e, gd_t (nI_inb (show k + 2 < 240 by omega) (by decide)), nI_clamp (by omega), wp_ml, wp_s]
      simp only [if_pos d2]
      refine ⟨(hF8.up (Or.inl ⟨rfl, by omega⟩)).up (Or.inr ⟨rfl, by omega, by omega⟩), ?_, ?_, ?_, ?_, fun _ => up_self _ _ _ _⟩
      · rw [up_row _ _ _ (by decide), up_col _ _ _ (by decide)]; exact n9
      · rw [up_row _ _ _ (by decide), up_self]
      · rw [up_col _ _ _ (by omega), up_row _ _ _ (by decide)]; exact nk
      · rw [up_col _ _ _ (by omega), up_row _ _ _ (by decide)]; exact nk1
    · rw [if_neg (show ¬ (48 + 1 ≤ lkp t L (p + 2) ∧ lkp t L (p + 2) ≤ 48 + 9) from d2), bd_e, gd_t (nI_inb (show k + 2 < 240 by omega) (by decide)), nI_clamp (by omega), wp_ml, wp_s]
      simp only [if_neg d2]
      exact ⟨(hF8.up (Or.inl ⟨rfl, by omega⟩)).up (Or.inr ⟨rfl, by omega, by omega⟩), by rw [up_row _ _ _ (by decide), up_self]⟩
  unfold f_X11_readAct f_X11_readAct_0
  rw [ex, bd_e]
  by_cases h1 : lkp t L p = 109
  · have hx1 := (eqc 109 (by decide)).mpr h1
    rw [if_pos (show x = 109 from hx1), hx1]
    exact go 109 hx1 h1 (by decide)
  rw [if_neg (show ¬ x = 109 from fun z => h1 ((eqc 109 (by decide)).mp z))]
  by_cases h2 : lkp t L p = 111
  · have hx1 := (eqc 111 (by decide)).mpr h2
    rw [if_pos (show x = 111 from hx1), hx1]
    exact go 111 hx1 h2 (by decide)
  rw [if_neg (show ¬ x = 111 from fun z => h2 ((eqc 111 (by decide)).mp z))]
  by_cases h3 : lkp t L p = 118
  · have hx1 := (eqc 118 (by decide)).mpr h3
    rw [if_pos (show x = 118 from hx1), hx1]
    exact go 118 hx1 h3 (by decide)
  rw [if_neg (show ¬ x = 118 from fun z => h3 ((eqc 118 (by decide)).mp z))]
  by_cases h4 : lkp t L p = 112
  · have hx1 := (eqc 112 (by decide)).mpr h4
    rw [if_pos (show x = 112 from hx1), hx1]
    exact go 112 hx1 h4 (by decide)
  rw [if_neg (show ¬ x = 112 from fun z => h4 ((eqc 112 (by decide)).mp z)), h8, fault_t h9, bd_e]
  have ea : ac (lkp t L) p = .inl p := by unfold ac; rw [if_neg h1, if_neg h2, if_neg h4, if_neg h3]
  rw [ea]
  have e9 : up M 174 19 (nI p) 174 19 = nI p := up_self _ _ _ _
  unfold f_X11_readAct_37
  rw [wp_ml, gd_t (nI_inb (show k < 240 by omega) (by decide)), nI_clamp (by omega), wp_ml]
  have hF : Fr (raS k) M (up (up (up M 174 19 (nI p)) 174 18 (up M 174 19 (nI p) 174 18 + 1)) 190 k x) := ((Fr.rf.up (Or.inl ⟨rfl, by omega⟩)).up (Or.inl ⟨rfl, by omega⟩)).up (Or.inr ⟨rfl, by omega, by omega⟩)
  have e9' : up (up (up M 174 19 (nI p)) 174 18 (up M 174 19 (nI p) 174 18 + 1)) 190 k x 174 19 = nI p := by rw [up_row _ _ _ (by decide), up_col _ _ _ (by decide), e9]
  rw [if_neg (show ¬ x = 109 from fun z => h1 ((eqc 109 (by decide)).mp z))]
  exact wp_mono (ra73_f hk (by rw [e9']; exact nI_neq (by omega)) x) (fun v M' q => ⟨hF.tr q.2, q.1.trans e9'⟩)
end DayR
