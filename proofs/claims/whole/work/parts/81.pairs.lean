/-! pairs -/
theorem m1_lt {p : Nat} (h : p < 2 ^ 31) : (-1 : Int32) < nI p := by
  rw [Int32.lt_iff_toInt_lt, nI_toInt h]
  have : (-1 : Int32).toInt = -1 := by decide
  omega
theorem nlt_m1 {p : Nat} (h : p < 2 ^ 31) : ¬ nI p < (-1 : Int32) := by
  rw [Int32.lt_iff_toInt_lt, nI_toInt h]
  have : (-1 : Int32).toInt = -1 := by decide
  omega
abbrev Best : Type := Option (Nat × Nat × (Nat → Nat))
def jd (b : Best) (p l : Nat) (w : Nat → Nat) : Best := match b with
  | none => some (p, l, w)
  | some q => if q.1 < p ∨ (p = q.1 ∧ l < q.2.1) then some (p, l, w) else b
def pr (c : Nat) (jn : Nat → Nat → Bool) (ls : Nat → Nat → Nat) : Nat → Nat → (Nat → Nat) → Nat → Nat → Best → Best
  | 0, _, w, p, l, b => jd b p l w
  | k + 1, g, w, p, l, b => if w g = 0 then foldF (fun o b => if w o = 0 ∧ jn g o = true then pr c jn ls k (g + 1) (fs (fs w g (o + 1)) o (g + 1)) (p + 1) (l + ls g o) b else b) (c - (g + 1)) (g + 1) (pr c jn ls k (g + 1) w p l b) else pr c jn ls k (g + 1) w p l b
def BOk (b : Best) : Prop := match b with
  | none => True
  | some q => q.1 ≤ 6 ∧ q.2.1 ≤ 43200
theorem bok_jd {b : Best} {p l : Nat} {w : Nat → Nat} (h : BOk b) (hp : p ≤ 6) (hl : l ≤ 43200) : BOk (jd b p l w) := by
  unfold jd
  cases b with
  | none => exact ⟨hp, hl⟩
  | some q =>
    show BOk (if q.1 < p ∨ (p = q.1 ∧ l < q.2.1) then some (p, l, w) else some q)
    split
    · exact ⟨hp, hl⟩
    · exact h
theorem foldF_inv {α : Type} {P : α → Prop} {f : Nat → α → α} : ∀ (m g : Nat) (a : α), P a → (∀ k x, g ≤ k → k < g + m → P x → P (f k x)) → P (foldF f m g a)
  | 0, _, _, h, _ => h
  | m + 1, g, a, h, hs => foldF_inv m (g + 1) _ (hs g a (Nat.le_refl _) (by omega) h) (fun k x h1 h2 => hs k x (by omega) (by omega))
theorem bok_pr {c : Nat} {jn : Nat → Nat → Bool} {ls : Nat → Nat → Nat} (hls : ∀ a b, a < c → b < c → ls a b ≤ 7200) : ∀ (k g : Nat) (w : Nat → Nat) (p l : Nat) (b : Best), g + k = c → c ≤ 6 → p ≤ g → l ≤ 7200 * g → BOk b → BOk (pr c jn ls k g w p l b)
  | 0, g, w, p, l, b, h, hc, hp, hl, hb => bok_jd hb (by omega) (by omega)
  | k + 1, g, w, p, l, b, h, hc, hp, hl, hb => by
    unfold pr
    have h1 := bok_pr (jn := jn) hls k (g + 1) w p l b (by omega) hc (by omega) (by omega) hb
    split
    · refine foldF_inv _ _ _ h1 (fun o x h2 h3 hx => ?_)
      split
      · have := hls g o (by omega) (by omega)
        exact bok_pr hls k (g + 1) _ (p + 1) (l + ls g o) x (by omega) hc (by omega) (by omega) hx
      · exact hx
    · exact h1
theorem pr_some {c : Nat} {jn : Nat → Nat → Bool} {ls : Nat → Nat → Nat} : ∀ (k g : Nat) (w : Nat → Nat) (p l : Nat) (b : Best), (pr c jn ls k g w p l b).isSome = true
  | 0, g, w, p, l, b => by
    unfold pr jd
    cases b with
    | none => rfl
    | some q => show (if _ then some (p, l, w) else some q).isSome = true; split <;> rfl
  | k + 1, g, w, p, l, b => by
    unfold pr
    split
    · refine foldF_inv (P := fun (b : Best) => b.isSome = true) _ _ _ (pr_some k (g + 1) w p l b) (fun o x _ _ hx => ?_)
      split
      · exact pr_some k (g + 1) _ _ _ x
      · exact hx
    · exact pr_some k (g + 1) w p l b
def BsC (M : Mem) (b : Best) : Prop := match b with
  | none => M 170 3 = -1
  | some q => M 170 3 = nI q.1 ∧ M 170 4 = nI q.2.1 ∧ ∀ g, g < 6 → M 172 g = pI (q.2.2 g)
def BsR (c : Nat) (M : Mem) (b : Best) : Prop := match b with
  | none => M 174 49 = -1
  | some q => M 174 49 = nI q.1 ∧ M 174 50 = nI q.2.1 ∧ ∀ g, g < c → M 199 g = pI (q.2.2 g)
def pcS : Nat → Nat → Prop := fun i k => (i = 170 ∧ (k = 3 ∨ k = 4)) ∨ i = 171 ∨ i = 172
def prS : Nat → Nat → Prop := fun i k => (i = 174 ∧ (k = 49 ∨ k = 50)) ∨ i = 198 ∨ i = 199
theorem BsC.eq {M M' : Mem} {b : Best} (h : ∀ i k, i = 170 ∨ i = 172 → M' i k = M i k) (hb : BsC M b) : BsC M' b := by
  cases b with
  | none => exact (h 170 3 (Or.inl rfl)).trans hb
  | some q => exact ⟨(h 170 3 (Or.inl rfl)).trans hb.1, (h 170 4 (Or.inl rfl)).trans hb.2.1, fun g hg => (h 172 g (Or.inr rfl)).trans (hb.2.2 g hg)⟩
theorem BsR.eq {c : Nat} {M M' : Mem} {b : Best} (h : ∀ i k, (i = 174 ∧ (k = 49 ∨ k = 50)) ∨ i = 199 → M' i k = M i k) (hb : BsR c M b) : BsR c M' b := by
  cases b with
  | none => exact (h 174 49 (by omega)).trans hb
  | some q => exact ⟨(h 174 49 (by omega)).trans hb.1, (h 174 50 (by omega)).trans hb.2.1, fun g hg => (h 199 g (by omega)).trans (hb.2.2 g hg)⟩
theorem judge_spec {M : Mem} {b : Best} {p l : Nat} {w : Nat → Nat} (hb : BsC M b) (hB : BOk b) (hp : p ≤ 6) (hl : l ≤ 43200) (hw : ∀ j, j < 6 → M 171 j = pI (w j)) : wp (f_X2_judge (nI p) (nI l) M) (fun _ M' => BsC M' (jd b p l w) ∧ (∀ j, j < 6 → M' 171 j = pI (w j)) ∧ Fr pcS M M') := by
  have take : wp (f_X2_judge_24 (nI p) (nI l) M) (fun _ M' => BsC M' (some (p, l, w)) ∧ (∀ j, j < 6 → M' 171 j = pI (w j)) ∧ Fr pcS M M') := by
    unfold f_X2_judge_24 f_X2_judge_49
    simp only [ml, gdc]
    rw [wp_s]
    refine ⟨⟨?_, ?_, fun g hg => ?_⟩, fun j hj => ?_, ((Fr.up (S := pcS) Fr.rf (Or.inl ⟨rfl, Or.inl rfl⟩)).up (Or.inl ⟨rfl, Or.inr rfl⟩)).cp (fun _ => Or.inr (Or.inr rfl))⟩
    · rw [cp_row _ _ _ _ _ (by decide), up_col _ _ _ (by decide), up_self]
    · rw [cp_row _ _ _ _ _ (by decide), up_self]
    · rw [cp_in _ _ _ hg, up_row _ _ _ (by decide), up_row _ _ _ (by decide)]; exact hw g hg
    · rw [cp_row _ _ _ _ _ (by decide), up_row _ _ _ (by decide), up_row _ _ _ (by decide)]; exact hw j hj
  have keep : ∀ b', BsC M b' → wp (f_X2_judge_49 M) (fun _ M' => BsC M' b' ∧ (∀ j, j < 6 → M' 171 j = pI (w j)) ∧ Fr pcS M M') := by
    intro b' h'
    unfold f_X2_judge_49
    rw [wp_s]
    exact ⟨h', hw, Fr.rf⟩
  unfold f_X2_judge f_X2_judge_0
  cases b with
  | none =>
    have hb' : M 170 3 = -1 := hb
    rw [hb', if_pos (m1_lt (by omega))]
    exact take
  | some q =>
    obtain ⟨b1, b2, b3⟩ := id hb
    obtain ⟨o1, o2⟩ := hB
    rw [b1, b2]
    unfold jd
    by_cases h1 : q.1 < p
    · rw [if_pos (nI_lt h1 (by omega))]
      simp only [h1, true_or, if_true]
      exact take
    · rw [if_neg (nI_nlt (by omega) (by omega))]
      by_cases h2 : p = q.1
      · rw [if_pos (by rw [h2])]
        by_cases h3 : l < q.2.1
        · rw [if_pos (nI_lt h3 (by omega))]
          simp only [h1, h2, h3, and_self, or_true, if_true]
          rw [h2] at take
          exact take
        · rw [if_neg (nI_nlt (by omega) (by omega))]
          simp only [h1, h3, and_false, or_self, if_false]
          exact keep _ hb
      · rw [if_neg (fun z => h2 ((nI_eq (by omega) (by omega)).mp z))]
        simp only [h1, h2, false_and, or_self, if_false]
        exact keep _ hb
theorem pf_spec {C : Cf} {M0 : Mem} {tg : Nat → Int32} {z : Nat → Nat} (hC : COk C) (hM0 : CfC M0 C) (ht : ∀ g, g < C.2.1 → M0 5 g = tg g) (hz : ∀ g, g < C.2.1 → M0 6 g = nI (z g)) (hz4 : ∀ g, g < C.2.1 → z g ≤ 40) : ∀ (k g n : Nat) (w : Nat → Nat) (p l : Nat) (b : Best) (M : Mem), g + k = C.2.1 → k < n → p ≤ g → l ≤ 7200 * g → (∀ j, j < 6 → w j ≤ 6) → (∀ j, j < 6 → M 171 j = pI (w j)) → BsC M b → BOk b → Fr pcS M0 M → wp (f_X2_pairFrom n (nI g) (nI p) (nI l) M) (fun _ M' => BsC M' (pr C.2.1 (jnB C tg z) (lsN C z) k g w p l b) ∧ (∀ j, j < 6 → M' 171 j = pI (w j)) ∧ Fr pcS M0 M')
  | 0, g, n + 1, w, p, l, b, M, hk, _, hp, hl, hw6, hw, hb, hB, hF => by
    have c2 := hC.2.1
    have m0 : M 3 2 = nI C.2.1 := (hF 3 2 (by unfold pcS; omega)).trans hM0.2.1
    show wp (b_X2_pairFrom (f_X2_pairFrom n) (nI g) (nI p) (nI l) M) _
    unfold b_X2_pairFrom f_X2_pairFrom_0 f_X2_pairFrom_17
    rw [m0, if_neg (nI_nlt (by omega) (by omega)), wp_bd]
    refine wp_mono (judge_spec hb hB (by omega) (by omega) hw) (fun _ M' q => ?_)
    rw [wp_s]
    exact ⟨q.1, q.2.1, hF.tr q.2.2⟩
  | k + 1, g, n + 1, w, p, l, b, M, hk, hn, hp, hl, hw6, hw, hb, hB, hF => by
    have c2 := hC.2.1
    have hls : ∀ a b, a < C.2.1 → b < C.2.1 → lsN C z a b ≤ 7200 := fun a b ha hb => lsN_le hC (hz4 a ha) (hz4 b hb)
    have m3 : ∀ {M1 : Mem}, Fr pcS M0 M1 → M1 3 2 = nI C.2.1 := fun h => (h 3 2 (by unfold pcS; omega)).trans hM0.2.1
    show wp (b_X2_pairFrom (f_X2_pairFrom n) (nI g) (nI p) (nI l) M) _
    unfold b_X2_pairFrom f_X2_pairFrom_0
    rw [m3 hF, if_pos (nI_lt (by omega) (by omega)), if_pos (show nI g < 6 from nI_lt (b := 6) (by omega) (by decide)), wp_bd, nI_1]
    refine wp_mono (pf_spec hC hM0 ht hz hz4 k (g + 1) n w p l b M (by omega) (by omega) (by omega) (by omega) hw6 hw hb hB hF) (fun _ M7 q => ?_)
    obtain ⟨q1, q2, q3⟩ := q
    have bo := bok_pr (jn := jnB C tg z) hls k (g + 1) w p l b (by omega) c2 (by omega) (by omega) hB
    have hwg := hw6 g (by omega)
    rw [gd_t (nI_inb (show g < 6 by omega) (by decide)), nI_clamp (by omega), q2 g (by omega)]
    by_cases h0 : w g = 0
    rotate_left
    · have e : pr C.2.1 (jnB C tg z) (lsN C z) (k + 1) g w p l b = pr C.2.1 (jnB C tg z) (lsN C z) k (g + 1) w p l b := by
        conv => lhs; unfold pr
        rw [if_neg h0]
      rw [if_neg (fun y => h0 ((pI_m1 (by omega)).mp y)), wp_s, e]
      exact ⟨q1, q2, q3⟩
    have e : pr C.2.1 (jnB C tg z) (lsN C z) (k + 1) g w p l b = foldF (fun o b => if w o = 0 ∧ jnB C tg z g o = true then pr C.2.1 (jnB C tg z) (lsN C z) k (g + 1) (fs (fs w g (o + 1)) o (g + 1)) (p + 1) (l + lsN C z g o) b else b) (C.2.1 - (g + 1)) (g + 1) (pr C.2.1 (jnB C tg z) (lsN C z) k (g + 1) w p l b) := by
      conv => lhs; unfold pr
      rw [if_pos h0]
    rw [if_pos ((pI_m1 (by omega)).mpr h0), wp_vl, e]
    refine wp_for (α := Unit) (fun m _ x M => f_X2_pairFrom_49 (f_X2_pairFrom n) m (nI g) (nI p) (nI l) x M) C.2.1 (fun o _ M1 => g + 1 ≤ o ∧ BsC M1 (foldF (fun o b => if w o = 0 ∧ jnB C tg z g o = true then pr C.2.1 (jnB C tg z) (lsN C z) k (g + 1) (fs (fs w g (o + 1)) o (g + 1)) (p + 1) (l + lsN C z g o) b else b) (o - (g + 1)) (g + 1) (pr C.2.1 (jnB C tg z) (lsN C z) k (g + 1) w p l b)) ∧ BOk (foldF (fun o b => if w o = 0 ∧ jnB C tg z g o = true then pr C.2.1 (jnB C tg z) (lsN C z) k (g + 1) (fs (fs w g (o + 1)) o (g + 1)) (p + 1) (l + lsN C z g o) b else b) (o - (g + 1)) (g + 1) (pr C.2.1 (jnB C tg z) (lsN C z) k (g + 1) w p l b)) ∧ (∀ j, j < 6 → M1 171 j = pI (w j)) ∧ Fr pcS M0 M1) _ (fun m o _ M1 ho hJ kk => ?_) (fun m _ M1 hJ => ?_) (C.2.1 - (g + 1)) (g + 1) FU () M7 (by omega) (by show C.2.1 - (g + 1) < 2000; omega) ⟨Nat.le_refl _, by rw [Nat.sub_self]; exact q1, by rw [Nat.sub_self]; exact bo, q2, q3⟩
    · obtain ⟨j0, j1, j2, j3, j4⟩ := hJ
      have fl := foldF_last (fun o b => if w o = 0 ∧ jnB C tg z g o = true then pr C.2.1 (jnB C tg z) (lsN C z) k (g + 1) (fs (fs w g (o + 1)) o (g + 1)) (p + 1) (l + lsN C z g o) b else b) (o - (g + 1)) (g + 1) (pr C.2.1 (jnB C tg z) (lsN C z) k (g + 1) w p l b)
      rw [show g + 1 + (o - (g + 1)) = o by omega, show o - (g + 1) + 1 = o + 1 - (g + 1) by omega] at fl
      have hwo := hw6 o (by omega)
      have skip : ¬ (w o = 0 ∧ jnB C tg z g o = true) → wp (f_X2_pairFrom_141 (f_X2_pairFrom n) (f_X2_pairFrom_49 (f_X2_pairFrom n) m) (nI g) (nI p) (nI l) (nI o) M1) _ := fun hn => by
        unfold f_X2_pairFrom_141
        rw [wp_vl, nI_1]
        exact kk () M1 ⟨by omega, by rw [fl, if_neg hn]; exact j1, by rw [fl, if_neg hn]; exact j2, j3, j4⟩
      show wp (f_X2_pairFrom_49 (f_X2_pairFrom n) (m + 1) (nI g) (nI p) (nI l) (nI o) M1) _
      unfold f_X2_pairFrom_49 f_X2_pairFrom_87
      rw [m3 j4, if_pos (nI_lt ho (by omega)), gd_t (nI_inb (show o < 6 by omega) (by decide)), nI_clamp (show o < 2 ^ 31 by omega), j3 o (by omega)]
      by_cases hwo0 : w o = 0
      rotate_left
      · rw [if_neg (fun y => hwo0 ((pI_m1 (by omega)).mp y)), if_pos rfl]
        exact skip (fun y => hwo0 y.1)
      have mM1 : CfC M1 C := hM0.eq2 c2 (fun i k q => j4 i k (by unfold cHo at q; unfold pcS; omega))
      have f5 : ∀ a, a < C.2.1 → M1 5 a = tg a := fun a ha => (j4 5 a (by unfold pcS; omega)).trans (ht a ha)
      have f6' : ∀ a, a < C.2.1 → M1 6 a = nI (z a) := fun a ha => (j4 6 a (by unfold pcS; omega)).trans (hz a ha)
      rw [if_pos ((pI_m1 (by omega)).mpr hwo0), c_lossOf hC mM1 (by omega) ho (f5 g (by omega)) (f5 o ho) (f6' g (by omega)) (f6' o ho) (hz4 g (by omega)) (hz4 o ho), bd_e]
      by_cases hj : jnB C tg z g o = true
      rotate_left
      · rw [if_neg hj, if_pos rfl]
        exact skip (fun y => hj y.2)
      have hlo := hls g o (by omega) ho
      rw [if_pos hj, if_neg (show ¬ nI (lsN C z g o) = -2 from fun y => by
        have h3 := congrArg Int32.toInt y
        rw [nI_toInt (by omega), show (-2 : Int32).toInt = -2 by decide] at h3
        omega), gd_t (nI_inb (show g < 6 by omega) (by decide)), nI_clamp (show g < 2 ^ 31 by omega), wp_ml, gd_t (nI_inc (show o < 6 by omega) (by decide)), wp_ml, wp_bd, nI_1, nI_1, nI_add]
      have hog : o ≠ g := by omega
      have hF2 : Fr pcS M0 (up (up M1 171 g (nI o)) 171 o (nI g)) := (j4.up (Or.inr (Or.inl rfl))).up (Or.inr (Or.inl rfl))
      refine wp_mono (pf_spec hC hM0 ht hz hz4 k (g + 1) n (fs (fs w g (o + 1)) o (g + 1)) (p + 1) (l + lsN C z g o) _ _ (by omega) (by omega) (by omega) (by omega) (fun j hj => ?_) (fun j hj => ?_) (BsC.eq (fun i k q => by rw [up_row _ _ _ (by omega), up_row _ _ _ (by omega)]) j1) j2 hF2) (fun _ M8 y => ?_)
      · by_cases e1 : j = o
        · subst e1; rw [fs_s]; omega
        · rw [fs_n _ _ e1]
          by_cases e2 : j = g
          · subst e2; rw [fs_s]; omega
          · rw [fs_n _ _ e2]; exact hw6 j hj
      · by_cases e1 : j = o
        · subst e1; rw [up_self, fs_s, pI_s]
        · rw [up_col _ _ _ e1, fs_n _ _ e1]
          by_cases e2 : j = g
          · subst e2; rw [up_self, fs_s, pI_s]
          · rw [up_col _ _ _ e2, fs_n _ _ e2]; exact j3 j hj
      · obtain ⟨y1, y2, y3⟩ := y
        rw [gd_t (nI_inc (show g < 6 by omega) (by decide)), wp_ml, gd_t (nI_inc (show o < 6 by omega) (by decide)), wp_ml]
        unfold f_X2_pairFrom_141
        rw [wp_vl, nI_1]
        have bo2 := bok_pr (jn := jnB C tg z) hls k (g + 1) (fs (fs w g (o + 1)) o (g + 1)) (p + 1) (l + lsN C z g o) _ (by omega) c2 (by omega) (by omega) j2
        refine kk () _ ⟨by omega, ?_, ?_, fun j hj => ?_, (y3.up (Or.inr (Or.inl rfl))).up (Or.inr (Or.inl rfl))⟩
        · rw [fl, if_pos ⟨hwo0, hj⟩]
          exact BsC.eq (fun i k q => by rw [up_row _ _ _ (by omega), up_row _ _ _ (by omega)]) y1
        · rw [fl, if_pos ⟨hwo0, hj⟩]
          exact bo2
        · by_cases e1 : j = o
          · subst e1; rw [up_self, hwo0]; decide
          · rw [up_col _ _ _ e1]
            by_cases e2 : j = g
            · subst e2; rw [up_self, h0]; decide
            · rw [up_col _ _ _ e2, y2 j hj, fs_n _ _ e1, fs_n _ _ e2]
    · obtain ⟨j0, j1, j2, j3, j4⟩ := hJ
      show wp (f_X2_pairFrom_49 (f_X2_pairFrom n) (m + 1) (nI g) (nI p) (nI l) (nI C.2.1) M1) _
      unfold f_X2_pairFrom_49
      rw [m3 j4, if_neg (nI_nlt (Nat.le_refl _) (by omega)), wp_s]
      exact ⟨j1, j3, j4⟩
theorem gp_judge {C : Cf} {T : Int32 → Int32 → Int32 → Mem → Option (Int32 × Mem)} {M : Mem} {b : Best} {p l : Nat} {w : Nat → Nat} (hC : COk C) (hM : M 174 3 = nI C.2.1) (hb : BsR C.2.1 M b) (hB : BOk b) (hp : p ≤ 6) (hl : l ≤ 43200) (hw : ∀ j, j < 6 → M 198 j = pI (w j)) : wp (f_X11_goPairs_0 T (nI C.2.1) (nI p) (nI l) M) (fun _ M' => BsR C.2.1 M' (jd b p l w) ∧ (∀ j, j < 6 → M' 198 j = pI (w j)) ∧ Fr prS M M') := by
  have c2 := hC.2.1
  have take : wp (f_X11_goPairs_33 T (nI p) (nI l) M) (fun _ M' => BsR C.2.1 M' (some (p, l, w)) ∧ (∀ j, j < 6 → M' 198 j = pI (w j)) ∧ Fr prS M M') := by
    unfold f_X11_goPairs_33
    rw [wp_ml, wp_ml]
    refine wp_for (α := Unit) (fun m _ x M => f_X11_goPairs_46 T m x M) C.2.1 (fun k _ M1 => (∀ j, j < k → M1 199 j = pI (w j)) ∧ (∀ i j, i ≠ 199 → M1 i j = up (up M 174 49 (nI p)) 174 50 (nI l) i j)) _ (fun m k _ M1 hk hJ kk => ?_) (fun m _ M1 hJ => ?_) C.2.1 0 FU () _ (by omega) (by show C.2.1 < 2000; omega) ⟨fun j hj => absurd hj (Nat.not_lt_zero j), fun i j _ => rfl⟩
    · obtain ⟨j1, j2⟩ := hJ
      show wp (f_X11_goPairs_46 T (m + 1) (nI k) M1) _
      unfold f_X11_goPairs_46
      rw [j2 174 3 (by decide), up_col _ _ _ (by decide), up_col _ _ _ (by decide), hM, if_pos (nI_lt hk (by omega))]
      simp only [gd_t (nI_inb (show k < 6 by omega) (show 6 ≤ 1000 by decide))]
      rw [nI_clamp (by omega), wp_ml, wp_vl, nI_1, j2 198 k (by decide), up_row _ _ _ (by decide), up_row _ _ _ (by decide), hw k (by omega)]
      refine kk () _ ⟨fun j hj => ?_, fun i j hi => by rw [up_row _ _ _ hi]; exact j2 i j hi⟩
      by_cases e : j = k
      · subst e; rw [up_self]
      · rw [up_col _ _ _ e]; exact j1 j (by omega)
    · obtain ⟨j1, j2⟩ := hJ
      show wp (f_X11_goPairs_46 T (m + 1) (nI C.2.1) M1) _
      unfold f_X11_goPairs_46
      rw [j2 174 3 (by decide), up_col _ _ _ (by decide), up_col _ _ _ (by decide), hM, if_neg (nI_nlt (Nat.le_refl _) (by omega)), wp_s]
      refine ⟨⟨?_, ?_, j1⟩, fun j hj => ?_, fun i k hn => ?_⟩
      · rw [j2 174 49 (by decide), up_col _ _ _ (by decide), up_self]
      · rw [j2 174 50 (by decide), up_self]
      · rw [j2 198 j (by decide), up_row _ _ _ (by decide), up_row _ _ _ (by decide)]; exact hw j hj
      · unfold prS at hn
        rw [j2 i k (by omega), up_at, if_neg (by omega), up_at, if_neg (by omega)]
  have keep : ∀ b', BsR C.2.1 M b' → wp (f_X11_goPairs_32 T M) (fun _ M' => BsR C.2.1 M' b' ∧ (∀ j, j < 6 → M' 198 j = pI (w j)) ∧ Fr prS M M') := by
    intro b' h'
    unfold f_X11_goPairs_32
    rw [wp_s]
    exact ⟨h', hw, Fr.rf⟩
  unfold f_X11_goPairs_0
  rw [hM, if_pos rfl]
  cases b with
  | none =>
    have hb' : M 174 49 = -1 := hb
    rw [hb', if_neg (nlt_m1 (by omega)), if_neg (nI_neq (by omega))]
    exact take
  | some q =>
    obtain ⟨b1, b2, b3⟩ := id hb
    obtain ⟨o1, o2⟩ := hB
    rw [b1, b2]
    unfold jd
    by_cases h0 : p < q.1
    · rw [if_pos (nI_lt h0 (by omega))]
      simp only [show ¬ q.1 < p by omega, show ¬ p = q.1 by omega, false_and, or_self, if_false]
      exact keep _ hb
    · rw [if_neg (nI_nlt (by omega) (by omega))]
      by_cases h2 : p = q.1
      · rw [if_pos (by rw [h2])]
        by_cases h3 : l < q.2.1
        · rw [if_pos (nI_lt h3 (by omega))]
          simp only [show ¬ q.1 < p by omega, h2, h3, and_self, or_true, if_true]
          rw [h2] at take
          exact take
        · rw [if_neg (nI_nlt (by omega) (by omega))]
          simp only [show ¬ q.1 < p by omega, h3, and_false, or_self, if_false]
          exact keep _ hb
      · rw [if_neg (fun z => h2 ((nI_eq (by omega) (by omega)).mp z))]
        simp only [show q.1 < p by omega, true_or, if_true]
        exact take
