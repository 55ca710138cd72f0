/-! the reference does a day's acts -/
theorem tc_le {C : Cf} {l : List Act} {σ : Sm} (hC : COk C) (hO : Ok C σ) (hA : ∀ a, a ∈ l → AOk a) : tc σ ≤ tc (dos C l σ).2 := by
  rw [tc_up (σ := σ) (ρ := (dos C l σ).2) (dos_ok hC l σ hO hA).2.2.2.1]
  exact Nat.le_add_right _ _
theorem d126 {C : Cf} {n ke se : Nat} {σe : Sm} {M0 : Mem} {Q : Int32 → Mem → Prop} (hC : COk C) (hn : n ≤ 70) (hgood : ∀ M', Fr acS M0 M' → IsR C (M' 175) σe → M' 174 34 = nI se → wp (f_X11_day_147 (nI n) (nI ke) M') Q) : ∀ (l : List Act) (i fu s : Nat) (M : Mem) (σ : Sm), i + l.length = n → l.length < fu → (∀ j a, l[j]? = some a → AcR M (3 * (i + j)) a) → (∀ a, a ∈ l → AOk a) → CfR M C → StR M C → IsR C (M 175) σ → Ok C σ → σ.2.2.2.2 + 90 * l.length < 2 ^ 29 → M 174 34 = nI s → Fr acS M0 M → i + (dos C l σ).1 = ke → (dos C l σ).2 = σe → s + (tc (dos C l σ).2 - tc σ) = se → wp (f_X11_day_126 fu (nI n) (nI i) M) Q
  | [], i, fu + 1, s, M, σ, hi, _, _, _, hM, hT, hR, hO, hB, hs, hF, h1, h2, h3 => by
    have hi : i = n := hi
    subst hi
    unfold f_X11_day_126
    rw [if_neg (nI_nlt (Nat.le_refl _) (by omega))]
    have h1 : i = ke := h1
    have h2 : σ = σe := h2
    have h3 : s + (tc σ - tc σ) = se := h3
    subst h1
    subst h2
    rw [Nat.sub_self, Nat.add_zero] at h3
    subst h3
    exact hgood M hF hR hs
  | a :: l, i, fu + 1, s, M, σ, hi, hf, hL, hA, hM, hT, hR, hO, hB, hs, hF, h1, h2, h3 => by
    have hi : i + (l.length + 1) = n := hi
    have hf : l.length + 1 < fu + 1 := hf
    have hB : σ.2.2.2.2 + 90 * (l.length + 1) < 2 ^ 29 := hB
    have hAa := hA a (List.mem_cons_self ..)
    have hAl : ∀ b, b ∈ l → AOk b := fun b hb => hA b (List.mem_cons_of_mem _ hb)
    unfold f_X11_day_126
    rw [if_pos (nI_lt (by omega) (by omega)), show (3 : Int32) * nI i = nI (3 * i) from pk_mul 3 i, wp_bd]
    refine wp_mono (act_ref hC hM hT hR hO (by omega) (by omega) (hL 0 a rfl) hAa hs) (fun r M1 q => ?_)
    obtain ⟨q1, q2⟩ := q
    unfold dos at h1 h2 h3
    cases ed : da C σ a with
    | none =>
      rw [ed] at q2 h1 h2 h3
      obtain ⟨q3, q4⟩ := q2
      subst q4
      have h1 : i + 0 = ke := h1
      have h2 : σ = σe := h2
      have h3 : s + (tc σ - tc σ) = se := h3
      rw [Nat.sub_self, Nat.add_zero] at h3
      rw [Nat.add_zero] at h1
      subst h1
      subst h2
      subst h3
      rw [q3, if_pos rfl]
      exact hgood M1 hF hR hs
    | some σ' =>
      rw [ed] at q2 h1 h2 h3
      obtain ⟨q3, q4, q5, q6⟩ := q2
      have h1 : i + ((dos C l σ').1 + 1) = ke := h1
      have h2 : (dos C l σ').2 = σe := h2
      have h3 : s + (tc (dos C l σ').2 - tc σ) = se := h3
      obtain ⟨o1, o2⟩ := da_ok hC hO hAa ed
      have hle := tc_le (l := l) hC o1 hAl
      rw [q3, if_neg (by decide), wp_vl, nI_1]
      refine d126 hC hn hgood l (i + 1) fu (s + (tc σ' - tc σ)) M1 σ' (by omega) (by omega) (fun j b hj => ?_) hAl ?_ ?_ q4 o1 (by omega) q5 (hF.tr q1) (by omega) h2 (by omega)
      · have := hL (j + 1) b hj
        rw [show i + (j + 1) = i + 1 + j by omega] at this
        exact this.eq (fun q _ _ => q1 190 q (by unfold acS; omega))
      · exact CfR.eq (q1 174 1 (by unfold acS; omega)) (q1 174 3 (by unfold acS; omega)) (fun x y g1 g2 => q1 x y (by unfold acS; omega)) hM
      · exact StR.eq (funext fun k => q1 187 k (by unfold acS; omega)) hT
