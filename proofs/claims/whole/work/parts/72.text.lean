/-! signs, end, heard, count -/
def byt (x : Int32) (m : Nat) : Nat := x.toBitVec.toNat / 2 ^ (8 * m) % 256
theorem byt_lt (x : Int32) (m : Nat) : byt x m < 256 := Nat.mod_lt _ (by decide)
theorem byC (x : Int32) {m : Nat} (hm : m < 4) : vp_nar .char ((((x.toUInt32 >>> ((nI (8 * m)).toUInt32 &&& Int32.toUInt32 31)).toInt32 &&& 255).toUInt32 % 65536).toInt32) = nI (byt x m) := by
  have hs : (((nI (8 * m)).toUInt32 &&& Int32.toUInt32 31).toBitVec % 32).toNat = 8 * m := by
    revert m; decide
  have h2 : x.toBitVec.toNat / 2 ^ (8 * m) % 2 ^ 8 < 256 := Nat.mod_lt _ (by decide)
  rw [pk_vc, pk_and _ 8 (by decide), pk_ushr x _ (8 * m) hs, pk_char, pk_tn (by omega), Nat.mod_eq_of_lt (by omega)]
  rfl
theorem byR (x : Int32) {m : Nat} (hm : m < 4) : vp_nar .byte ((x >>> ((8 * nI m) &&& 31)).toInt8.toInt32) = sB (byt x m) := by
  rw [pk_vb]
  have hs : ((((8 : Int32) * nI m) &&& 31).toBitVec.smod 32).toNat = 8 * m := by
    revert m; decide
  unfold sB
  congr 1
  apply Int8.toInt_inj.mp
  rw [Int32.toInt_toInt8, Int32.toInt_toInt8, pk_shr x _ (8 * m) hs, nI_toInt (by have := byt_lt x m; omega)]
  unfold byt
  have hx : x.toInt = if 2 * x.toBitVec.toNat < 2 ^ 32 then (x.toBitVec.toNat : Int) else (x.toBitVec.toNat : Int) - ((2 ^ 32 : Nat) : Int) := BitVec.toInt_eq_toNat_cond x.toBitVec
  have hlt : x.toBitVec.toNat < 2 ^ 32 := x.toBitVec.isLt
  unfold Int.bmod
  have key : (x.toInt >>> (8 * m)) % ((2 ^ 8 : Nat) : Int) = ((x.toBitVec.toNat / 2 ^ (8 * m) % 256 : Nat) : Int) % ((2 ^ 8 : Nat) : Int) := by
    rw [Int.shiftRight_eq_div_pow, hx]
    have h4 : m = 0 ∨ m = 1 ∨ m = 2 ∨ m = 3 := by omega
    generalize x.toBitVec.toNat = X at *
    rcases h4 with rfl | rfl | rfl | rfl
    · simp only [Nat.reduceMul, Nat.reducePow] at *
      split <;> omega
    · simp only [Nat.reduceMul, Nat.reducePow] at *
      split <;> omega
    · simp only [Nat.reduceMul, Nat.reducePow] at *
      split <;> omega
    · simp only [Nat.reduceMul, Nat.reducePow] at *
      split <;> omega
  rw [key]
theorem add23 (x : Int32) : ∀ (k n L : Nat) (M : Mem), k ≤ 4 → k < n → L + k ≤ 80 → M 1 1 = nI L → wp (f_X8_add_23 n x (nI (8 * k) - 8) M) (fun r M' => r = nI (L + k) ∧ M' 1 1 = nI (L + k) ∧ (∀ j, j < k → M' 2 (L + j) = nI (byt x (k - 1 - j))) ∧ (∀ j, (j < L ∨ L + k ≤ j) → M' 2 j = M 2 j) ∧ Fr (fun i j => i = 2 ∨ (i = 1 ∧ j = 1)) M M')
  | 0, n + 1, L, M, _, _, _, hL => by
    unfold f_X8_add_23
    rw [if_pos (by decide), wp_s]
    exact ⟨hL, hL, fun j hj => absurd hj (Nat.not_lt_zero j), fun j _ => rfl, Fr.rf⟩
  | k + 1, n + 1, L, M, hk, hn, hL8, hL => by
    unfold f_X8_add_23
    have e8 : nI (8 * (k + 1)) - 8 = nI (8 * k) := by rw [show nI (8 * (k + 1)) - 8 = nI (8 * (k + 1) - 8) from pk_sub (b := 8) (by omega)]; congr 1
    rw [e8, if_neg (nI_pos (by omega)), wp_vl, hL, gd_t (nI_inb (show L < 80 by omega) (by decide)), nI_clamp (by omega), wp_ml, wp_ml, byC x (by omega), up_row _ _ _ (by decide), hL, nI_1, wp_vl, show nI (8 * k) + -8 = nI (8 * k) - 8 from (Int32.sub_eq_add_neg _ _).symm]
    refine wp_mono (add23 x k n (L + 1) _ (by omega) (by omega) (by omega) (up_self _ _ _ _)) (fun r M' q => ?_)
    obtain ⟨q1, q2, q3, q4, q5⟩ := q
    refine ⟨by rw [q1]; congr 1; omega, by rw [q2]; congr 1; omega, fun j hj => ?_, fun j hj => ?_, ?_⟩
    · by_cases e : j = 0
      · subst e
        rw [q4 _ (Or.inl (by omega)), up_row _ _ _ (by decide), show L + 0 = L by omega, up_self]
        congr 2
      · have := q3 (j - 1) (by omega)
        rw [show L + 1 + (j - 1) = L + j by omega] at this
        rw [this]
        congr 2
        omega
    · rw [q4 j (by omega), up_row _ _ _ (by decide), up_col _ _ _ (by omega)]
    · exact ((Fr.up (S := fun i j => i = 2 ∨ (i = 1 ∧ j = 1)) Fr.rf (Or.inl rfl)).up (Or.inr ⟨rfl, rfl⟩)).tr q5
theorem sign20 (x : Int32) : ∀ (k n L : Nat) (M : Mem), k ≤ 4 → k < n → L + k ≤ 80 → M 174 11 = nI L → wp (f_X11_sign_20 n x (pI k) M) (fun r M' => r = nI (L + k) ∧ M' 174 11 = nI (L + k) ∧ (∀ j, j < k → M' 183 (L + j) = sB (byt x (k - 1 - j))) ∧ (∀ j, (j < L ∨ L + k ≤ j) → M' 183 j = M 183 j) ∧ Fr (fun i j => i = 183 ∨ (i = 174 ∧ j = 11)) M M')
  | 0, n + 1, L, M, _, _, _, hL => by
    unfold f_X11_sign_20
    rw [if_pos (by decide), wp_s]
    exact ⟨hL, hL, fun j hj => absurd hj (Nat.not_lt_zero j), fun j _ => rfl, Fr.rf⟩
  | k + 1, n + 1, L, M, hk, hn, hL8, hL => by
    unfold f_X11_sign_20
    rw [pI_s, if_neg (nI_pos (by omega)), wp_ml, hL, gd_t (nI_inb (show L < 80 by omega) (by decide)), nI_clamp (by omega), wp_ml, byR x (by omega), nI_1, wp_vl, show nI k + -1 = pI k from (Int32.sub_eq_add_neg _ _).symm]
    refine wp_mono (sign20 x k n (L + 1) _ (by omega) (by omega) (by omega) (by rw [up_row _ _ _ (by decide), up_self])) (fun r M' q => ?_)
    obtain ⟨q1, q2, q3, q4, q5⟩ := q
    refine ⟨by rw [q1]; congr 1; omega, by rw [q2]; congr 1; omega, fun j hj => ?_, fun j hj => ?_, ?_⟩
    · by_cases e : j = 0
      · subst e
        rw [q4 _ (Or.inl (by omega)), show L + 0 = L by omega, up_self]
        congr 2
      · have := q3 (j - 1) (by omega)
        rw [show L + 1 + (j - 1) = L + j by omega] at this
        rw [this]
        congr 2
        omega
    · rw [q4 j (by omega), up_col _ _ _ (by omega), up_row _ _ _ (by decide)]
    · exact ((Fr.up (S := fun i j => i = 183 ∨ (i = 174 ∧ j = 11)) Fr.rf (Or.inr ⟨rfl, rfl⟩)).up (Or.inl rfl)).tr q5
/-- where THE TEXT alone changes -/
theorem InvE.tx {N : Nat} {C : Cf} {σ : Sm} {M M' : Mem} (h : InvE N C σ M) (hN : N < 512) (hF : Fr (fun i k => cTx i k ∨ scr i k) M M') (ht : TxE M') : InvE (N + 1) C σ M' := by
  obtain ⟨a1, a2, a3, a4, a5, a6, a7, a8, a9, a10, a11, a12, a13, a14⟩ := h
  have c2 := a1.2.1
  have e : ∀ i k, ¬ cTx i k → ¬ scr i k → M' i k = M i k := fun i k h1 h2 => hF i k (fun z => by
    rcases z with z | z
    · exact h1 z
    · exact h2 z)
  exact ⟨a1, a2, by omega, hN, a5.eq2 c2 (fun i k q => e i k (by unfold cHo at q; unfold cTx; omega) (by unfold cHo at q; unfold scr scr0; omega)), a6.eq2 (fun i k q => e i k (by unfold cHo at q; unfold cTx; omega) (by unfold cHo at q; unfold scr scr0; omega)), IsC.eq (fun i k e1 e2 e3 => e i k (by unfold cTx; omega) (by unfold scr scr0; omega)) a7, IsR.eq c2 (fun k _ => e 175 k (by unfold cTx; omega) (by unfold scr scr0; omega)) a8, ht, a10.eq c2 (fun i k q => e i k (by unfold cDt at q; unfold cTx; omega) (by unfold cDt at q; unfold scr scr0; omega)), a11.eq c2 (fun i k q => e i k (by unfold cRl at q; unfold cTx; omega) (by unfold cRl at q; unfold scr scr0; omega)), a12.eq c2 (Nat.le_succ N) (fun i k q => e i k (by unfold cPs at q; unfold cTx; omega) (by unfold cPs at q; unfold scr scr0; omega)), a13.eq c2 (Nat.le_succ N) (fun i k q => e i k (by unfold cKp at q; unfold cTx; omega) (by unfold cKp at q; unfold scr scr0; omega)), a14.eq (fun i k q => e i k (by unfold cHd at q; unfold cTx; omega) (by unfold cHd at q; unfold scr scr0; omega))⟩
theorem st_sign {N : Nat} {M : Mem} (hN : N < 512) (h : Cpl N M) (x : Int32) : Both N (f_X10_sign x) (f_X11_sign x) M := by
  obtain ⟨⟨C, σ, hI⟩, hR⟩ := h
  obtain ⟨L, l80, e1, e2, ht⟩ := hI.2.2.2.2.2.2.2.2.1
  unfold Both f_X10_sign f_X10_sign_0 f_X8_add f_X8_add_0 f_X8_add_18 f_X11_sign f_X11_sign_0
  rw [e1, if_neg (nI_pos (by omega)), show nI L + 4 = nI (L + 4) from nI_add L 4]
  have e2' : ∀ M1 : Mem, M1 174 11 = nI L → up M1 174 14 0 174 11 + 4 = nI (L + 4) := fun M1 h => by rw [up_col _ _ _ (by decide), h]; exact nI_add L 4
  by_cases h4 : 80 < L + 4
  · rw [if_pos (show 80 < nI (L + 4) from nI_lt (a := 80) h4 (by omega)), bd_e, wp_s, wp_ml, e2' M e2, if_pos (show 80 < nI (L + 4) from nI_lt (a := 80) h4 (by omega)), wp_s]
    exact ⟨rfl, q_same hI hN hR fr14⟩
  · rw [if_neg (show ¬ 80 < nI (L + 4) from nI_nlt (a := 80) (by omega) (by decide)), wp_bd]
    refine wp_mono (add23 x 4 FU L M (by decide) (by decide) (by omega) e1) (fun r Mc q => ?_)
    obtain ⟨q1, q2, q3, q4, q5⟩ := q
    have hge : ∀ i k, 174 ≤ i → Mc i k = M i k := fun i k hi => q5 i k (by omega)
    rw [wp_s, wp_ml, e2' Mc ((hge 174 11 (by decide)).trans e2), if_neg (show ¬ 80 < nI (L + 4) from nI_nlt (a := 80) (by omega) (by decide))]
    refine wp_mono (sign20 x 4 FU L _ (by decide) (by decide) (by omega) (by rw [up_col _ _ _ (by decide)]; exact (hge 174 11 (by decide)).trans e2)) (fun r' Mr z => ?_)
    obtain ⟨z1, z2, z3, z4, z5⟩ := z
    have lo : ∀ i k, i < 174 → Mr i k = Mc i k := fun i k hi => by rw [z5 i k (by omega), up_row _ _ _ (by omega)]
    refine ⟨z1.trans q1.symm, ⟨C, σ, hI.tx hN ?_ ⟨L + 4, by omega, (lo 1 1 (by decide)).trans q2, z2, fun k hk => ?_⟩⟩, ?_⟩
    · intro i k hn
      have n1 : ¬ cTx i k := fun z => hn (Or.inl z)
      have n2 : ¬ (i = 174 ∧ k = 14) := fun z => hn (Or.inr (Or.inl (s0_74 (by omega))))
      unfold cTx at n1
      rw [z5 i k (by omega), up_at, if_neg n2]
      exact q5 i k (by omega)
    · by_cases h1 : k < L ∨ L + 4 ≤ k
      · obtain ⟨t, t1, t2, t3⟩ := ht k hk
        refine ⟨t, t1, ?_, ?_⟩
        · rw [lo 2 k (by decide), q4 k h1]; exact t2
        · rw [z4 k h1, up_row _ _ _ (by decide), hge 183 k (by decide)]; exact t3
      · refine ⟨byt x (3 - (k - L)), byt_lt _ _, ?_, ?_⟩
        · have := q3 (k - L) (by omega)
          rw [show L + (k - L) = k by omega] at this
          rw [lo 2 k (by decide), this]
        · have := z3 (k - L) (by omega)
          rw [show L + (k - L) = k by omega] at this
          exact this
    · refine row_ne hR (fun i k q => ?_)
      rw [z5 i k (by omega), up_at, if_neg (by omega)]
      exact q5 i k (by omega)
theorem st_end {N : Nat} {M : Mem} (hN : N < 512) (h : Cpl N M) (x : Int32) : Both N (f_X10_end x) (f_X11_end x) M := by
  obtain ⟨⟨C, σ, hI⟩, hR⟩ := h
  obtain ⟨L, l80, e1, e2, ht⟩ := hI.2.2.2.2.2.2.2.2.1
  unfold Both f_X10_end f_X10_end_0 f_X8_cut f_X8_cut_0 f_X8_cut_12 f_X11_end f_X11_end_0
  have e2' : ∀ M1 : Mem, M1 174 11 = nI L → up M1 174 14 0 174 11 = nI L := fun M1 h => by rw [up_col _ _ _ (by decide), h]
  rw [e1]
  by_cases h1 : x < 0
  · rw [if_pos h1, bd_e, gd_t (by decide), wp_s, wp_ml, e2' M e2, in_spec, bd_e, b2i_f (fun q => q.1 h1), if_pos rfl, wp_s]
    exact ⟨rfl, q_same hI hN hR fr14⟩
  rw [if_neg h1]
  by_cases h2 : nI L < x
  · rw [if_pos h2, bd_e, gd_t (by decide), wp_s, wp_ml, e2' M e2, in_spec, bd_e, b2i_f (fun q => q.2 h2), if_pos rfl, wp_s]
    exact ⟨rfl, q_same hI hN hR fr14⟩
  obtain ⟨n, -, nL, rfl⟩ := rng (a := 0) (b := L) (by decide) (by omega) h1 h2
  rw [if_neg h2, wp_bd, wp_ml, wp_s, gd_t (by decide), wp_s, wp_ml, e2' _ (by rw [up_row _ _ _ (by decide)]; exact e2), in_spec, bd_e, b2i_t ⟨h1, h2⟩, if_neg (by decide), wp_ml, wp_s]
  have e : ∀ i k, ¬ (i = 1 ∧ k = 1) → ¬ (i = 174 ∧ (k = 14 ∨ k = 11)) → up (up (up M 1 1 (nI n)) 174 14 0) 174 11 (nI n) i k = M i k := fun i k q1 q2 => by
    rw [up_at, if_neg (by omega), up_at, if_neg (by omega), up_at, if_neg (by omega)]
  refine ⟨rfl, ⟨C, σ, hI.tx hN (fun i k hn => e i k (fun z => hn (Or.inl (by unfold cTx; omega))) (fun z => ?_)) ⟨n, by omega, by simp [up_at], by simp [up_at], fun k hk => ?_⟩⟩, row_ne hR (fun i k q => e i k (by omega) (by omega))⟩
  · rcases z.2 with z2 | z2
    · exact hn (Or.inr (Or.inl (s0_74 (by omega))))
    · exact hn (Or.inl (by unfold cTx; omega))
  · obtain ⟨t, t1, t2, t3⟩ := ht k hk
    exact ⟨t, t1, (e 2 k (by omega) (by omega)).trans t2, (e 183 k (by omega) (by omega)).trans t3⟩
