/-! a day's acts, one behind another -/
def dos (C : Cf) : List Act → Sm → Nat × Sm
  | [], σ => (0, σ)
  | a :: l, σ => match da C σ a with
    | none => (0, σ)
    | some σ' => ((dos C l σ').1 + 1, (dos C l σ').2)
theorem dos_ok {C : Cf} (hC : COk C) : ∀ (l : List Act) (σ : Sm), Ok C σ → (∀ a, a ∈ l → AOk a) → Ok C (dos C l σ).2 ∧ (dos C l σ).2.2.2.2.2 ≤ σ.2.2.2.2 + 90 * l.length ∧ (dos C l σ).1 ≤ l.length ∧ (∀ g, σ.1 g = 10 → (dos C l σ).2.1 g = 10) ∧ ((dos C l σ).1 = 0 → (dos C l σ).2 = σ)
  | [], σ, hO, _ => ⟨hO, Nat.le_add_right _ _, Nat.le_refl _, fun g h => h, fun _ => rfl⟩
  | a :: l, σ, hO, ha => by
    unfold dos
    cases e : da C σ a with
    | none => exact ⟨hO, Nat.le_add_right _ _, Nat.zero_le _, fun g h => h, fun _ => rfl⟩
    | some σ' =>
      obtain ⟨h1, h2⟩ := da_ok hC hO (ha a (List.mem_cons_self ..)) e
      obtain ⟨i1, i2, i3, i4, i5⟩ := dos_ok hC l σ' h1 (fun b hb => ha b (List.mem_cons_of_mem _ hb))
      refine ⟨i1, ?_, ?_, fun g hg => i4 g (da_thr hC e hg), fun z => absurd (show (dos C l σ').1 + 1 = 0 from z) (by omega)⟩
      · show (dos C l σ').2.2.2.2.2 ≤ σ.2.2.2.2 + 90 * (l.length + 1)
        omega
      · show (dos C l σ').1 + 1 ≤ l.length + 1
        omega
theorem doActs_cls {C : Cf} {t : Nat → Nat} {L n : Nat} (hC : COk C) : ∀ (l : List Act) (i fu p m : Nat) (M : Mem) (σ : Sm), i + l.length = n → n ≤ 100 → l.length < fu → p ≤ 80 → (l = [] ∨ acs (lkp t (min L 60)) L m p = .inr l) → CfC M C → IsC C M 26 σ → Ok C σ → σ.2.2.2.2 + 90 * l.length < 2 ^ 29 → TX M t L 60 → wp (f_X10_doActs_4 fu (nI n) (nI p) (nI i) M) (fun r M' => r = nI (i + (dos C l σ).1) ∧ IsC C M' 26 (dos C l σ).2 ∧ Fr (stS 26) M M')
  | [], i, fu + 1, p, m, M, σ, hi, hn, _, hp, _, hM, hS, hO, hB, hT => by
    have hi : i = n := hi
    subst hi
    unfold f_X10_doActs_4
    rw [if_neg (nI_nlt (Nat.le_refl _) (by omega)), wp_s]
    exact ⟨rfl, hS, Fr.rf⟩
  | a :: l, i, fu + 1, p, m, M, σ, hi, hn, hf, hp, hac, hM, hS, hO, hB, hT => by
    have hi : i + (l.length + 1) = n := hi
    have hf : l.length + 1 < fu + 1 := hf
    have hB : σ.2.2.2.2 + 90 * (l.length + 1) < 2 ^ 29 := hB
    have l80 := hT.1
    have hac : acs (lkp t (min L 60)) L m p = .inr (a :: l) := by
      rcases hac with z | z
      · cases z
      · exact z
    obtain ⟨m, rfl⟩ : ∃ m', m = m' + 1 := by
      cases m with
      | zero => unfold acs at hac; cases hac
      | succ m => exact ⟨m, rfl⟩
    unfold acs at hac
    cases e : ac (lkp t (min L 60)) p with
    | inl g => rw [e] at hac; cases hac
    | inr q =>
      rw [e] at hac
      have hq := ac_L e
      have hr := ac_r e
      have hac : (if L ≤ q.2 then Sum.inr [q.1] else if lkp t (min L 60) q.2 = 59 then (match acs (lkp t (min L 60)) L m (q.2 + 1) with
        | .inl f => .inl f
        | .inr l => .inr (q.1 :: l)) else .inl q.2) = (.inr (a :: l) : Sum Nat (List Act)) := hac
      have next : q.1 = a ∧ (l = [] ∨ acs (lkp t (min L 60)) L m (q.2 + 1) = .inr l) := by
        split at hac
        · cases hac; exact ⟨rfl, Or.inl rfl⟩
        · split at hac
          · cases e2 : acs (lkp t (min L 60)) L m (q.2 + 1) with
            | inl f => rw [e2] at hac; cases hac
            | inr l' => rw [e2] at hac; cases hac; exact ⟨rfl, Or.inr rfl⟩
          · cases hac
      obtain ⟨n1, n2⟩ := next
      unfold f_X10_doActs_4 dos
      rw [if_pos (nI_lt (by omega) (by omega)), wp_bd]
      refine wp_mono (doAct_cls hC hM hS hO (by omega) hT hp e) (fun r M1 z => ?_)
      obtain ⟨z1, z2⟩ := z
      rw [n1] at z2
      cases ed : da C σ a with
      | none =>
        rw [ed] at z2
        obtain ⟨z3, z4⟩ := z2
        subst z4
        rw [z3, if_pos rfl, wp_s]
        exact ⟨rfl, hS, z1⟩
      | some σ' =>
        rw [ed] at z2
        obtain ⟨z3, z4⟩ := z2
        obtain ⟨o1, o2⟩ := da_ok hC hO (n1 ▸ hr.1) ed
        have hT1 : TX M1 t L 60 := hT.fr (fun i k hi => z1 i k (by unfold stS; omega))
        have hM1 : CfC M1 C := hM.eq hC.2.1 (fun i k hi => z1 i k (by unfold stS; omega))
        rw [z3, if_neg (by decide), behind_cls hT1 (by omega), bd_e, e]
        show wp (vl (nI q.2 + 1) fun v9 => vl (nI i + 1) fun v10 => f_X10_doActs_4 fu (nI n) v9 v10 M1) _
        rw [wp_vl, wp_vl, nI_1, nI_1]
        refine wp_mono (doActs_cls hC l (i + 1) fu (q.2 + 1) m M1 σ' (by omega) hn (by omega) (by omega) n2 hM1 z4 o1 (by omega) hT1) (fun r' M' w => ?_)
        refine ⟨?_, w.2.1, z1.tr w.2.2⟩
        rw [w.1]
        show nI (i + 1 + (dos C l σ').1) = nI (i + ((dos C l σ').1 + 1))
        rw [show i + 1 + (dos C l σ').1 = i + ((dos C l σ').1 + 1) by omega]
/-- how many are through -/
def tc (σ : Sm) : Nat := sumB (fun g => σ.1 g == 10) (fun _ => 1)
theorem tc_up {σ ρ : Sm} (h : ∀ g, σ.1 g = 10 → ρ.1 g = 10) : tc ρ = tc σ + sumB (gotB σ ρ) (fun _ => 1) := by
  unfold tc
  rw [sumB_eq, sumB_eq, sumB_eq]
  have k : ∀ g, (if (ρ.1 g == 10) = true then 1 else 0) = (if (σ.1 g == 10) = true then 1 else 0) + (if gotB σ ρ g = true then 1 else 0) := by
    intro g
    unfold gotB
    by_cases a : σ.1 g = 10
    · simp [a, h g a]
    · by_cases b : ρ.1 g = 10 <;> simp [a, b]
  rw [k 0, k 1, k 2, k 3, k 4, k 5]
  omega
def acS : Nat → Nat → Prop := fun i k => i = 175 ∨ (i = 174 ∧ (k = 30 ∨ k = 31 ∨ k = 32 ∨ k = 34))
theorem act58 {C : Cf} {v s : Nat} {M0 : Mem} {σ : Sm} (hC : COk C) (hO : Ok C σ) (hv : v ≤ 99) : ∀ (m i fu : Nat) (M : Mem), i + m = v → m < fu → CfR M C → StR M C → IsR C (M 175) (mn C i σ) → M 174 34 = nI (s + (tc (mn C i σ) - tc σ)) → tc σ ≤ tc (mn C i σ) → Fr acS M0 M → wp (f_X11_act_58 fu (nI v) (nI i) M) (fun r M' => r = 1 ∧ IsR C (M' 175) (mn C v σ) ∧ M' 174 34 = nI (s + (tc (mn C v σ) - tc σ)) ∧ tc σ ≤ tc (mn C v σ) ∧ Fr acS M0 M')
  | 0, i, fu + 1, M, hi, _, hM, hT, hR, hs, hle, hF => by
    have hi : i = v := hi
    subst hi
    unfold f_X11_act_58
    rw [if_neg (nI_nlt (Nat.le_refl _) (by omega)), wp_s]
    exact ⟨rfl, hR, hs, hle, hF⟩
  | m + 1, i, fu + 1, M, hi, hf, hM, hT, hR, hs, hle, hF => by
    unfold f_X11_act_58
    rw [if_pos (nI_lt (by omega) (by omega)), wp_bd]
    refine wp_mono (gm_spec (Or.inl rfl) hC hM hT hR (ok_mn hC i hO)) (fun _ M1 q => ?_)
    obtain ⟨q1, -, -, q4, q5⟩ := q
    rw [q4, bc_spec, bd_e, bcn_bI, wp_ml, wp_vl, nI_1, q5 174 34 (by unfold mnS; omega), hs, nI_add]
    have ht : tc (mn C (i + 1) σ) = tc (mn C i σ) + sumB (gotB (mn C i σ) (mid C (mn C i σ)).1) (fun _ => 1) := by
      rw [mn_s]
      exact tc_up (fun g hg => minute_thr hg)
    refine act58 hC hO hv m (i + 1) fu _ (by omega) (by omega) ?_ ?_ ?_ ?_ (by omega) ((hF.tr (q5.mn (fun a b z => by unfold mnS at z; unfold acS; omega))).up (by unfold acS; omega))
    · exact CfR.eq (by rw [up_col _ _ _ (by decide)]; exact q5 174 1 (by unfold mnS; omega)) (by rw [up_col _ _ _ (by decide)]; exact q5 174 3 (by unfold mnS; omega)) (fun a b h1 h2 => by rw [up_row _ _ _ (by omega)]; exact q5 a b (by unfold mnS; omega)) hM
    · exact StR.eq (funext fun k => by rw [up_row _ _ _ (by decide)]; exact q5 187 k (by unfold mnS; omega)) hT
    · rw [mn_s]
      exact IsR.eq hC.2.1 (fun k _ => by rw [up_row _ _ _ (by decide)]) q1
    · rw [up_self, ht, show s + (tc (mn C i σ) - tc σ) + sumB (gotB (mn C i σ) (mid C (mn C i σ)).1) (fun _ => 1) = s + (tc (mn C i σ) + sumB (gotB (mn C i σ) (mid C (mn C i σ)).1) (fun _ => 1) - tc σ) by omega]
