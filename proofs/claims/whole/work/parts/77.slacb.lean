/-! slack -/
def allF (p : Nat → Bool) : Nat → Bool
  | 0 => true
  | k + 1 => allF p k && p k
theorem allF_t {p : Nat → Bool} : ∀ {k : Nat}, allF p k = true ↔ ∀ i, i < k → p i = true
  | 0 => ⟨fun _ i hi => absurd hi (Nat.not_lt_zero i), fun _ => rfl⟩
  | k + 1 => by
    show (allF p k && p k) = true ↔ _
    rw [Bool.and_eq_true, allF_t]
    constructor
    · rintro ⟨h1, h2⟩ i hi
      by_cases e : i = k
      · subst e; exact h2
      · exact h1 i (by omega)
    · intro h
      exact ⟨fun i hi => h i (by omega), h k (by omega)⟩
/-- nobody else is later, or never through -/
def sk1 (σ A B : Sm) (g : Nat) : Nat → Bool := fun i => decide (i = g) || !(ins (σ.1 i)) || (B.1 i == 10 && decide (B.2.2.2.1 i ≤ A.2.2.2.1 i))
def skB (C : Cf) (σ : Sm) (g n : Nat) : Bool := allF (sk1 σ (mn C 400 σ) (mn C 400 (ovr σ g n)) g) C.2.1
def grt (p : Nat → Bool) : Nat → Nat
  | 0 => 0
  | k + 1 => if p (k + 1) = true then k + 1 else grt p k
theorem nobody_spec {C : Cf} {M : Mem} {g n : Nat} {σ : Sm} (hC : COk C) (hM : CfC M C) (hO : Ok C σ) (hOA : Ok C (mn C 400 σ)) (hOB : Ok C (mn C 400 (ovr σ g n))) (hB : σ.2.2.2.2 < 2 ^ 29) (hg : g < C.2.1) (iA : IsC C M 36 (mn C 400 σ)) (iB : IsC C M 41 (mn C 400 (ovr σ g n))) : f_X10_nobodyLater (bI (fun i => inB σ i && !(decide (i = g)))) M = some (b2i (skB C σ g n = true), M) := by
  have c2 := hC.2.1
  have nA : (mn C 400 σ).2.2.2.2 = σ.2.2.2.2 + 400 := mn_now C 400 σ
  have nB : (mn C 400 (ovr σ g n)).2.2.2.2 = σ.2.2.2.2 + 400 := mn_now C 400 (ovr σ g n)
  have key : ∀ (m k fu : Nat), k + m = C.2.1 → m < fu → allF (sk1 σ (mn C 400 σ) (mn C 400 (ovr σ g n)) g) k = true → f_X10_nobodyLater_2 fu (bI (fun i => inB σ i && !(decide (i = g)))) (nI k) M = some (b2i (skB C σ g n = true), M) := by
    intro m
    induction m with
    | zero =>
      intro k fu hk hf ha
      obtain ⟨fu, rfl⟩ : ∃ f', fu = f' + 1 := ⟨fu - 1, by omega⟩
      unfold f_X10_nobodyLater_2
      rw [hM.2.1, if_neg (nI_nlt (by omega) (by omega))]
      have : skB C σ g n = true := by unfold skB; rw [← show k = C.2.1 by omega]; exact ha
      rw [b2i_t this]
    | succ m ih =>
      intro k fu hk hf ha
      obtain ⟨fu, rfl⟩ : ∃ f', fu = f' + 1 := ⟨fu - 1, by omega⟩
      have ta := hOA.2.2.2.2.2.2.1 k
      have tb := hOB.2.2.2.2.2.2.1 k
      have nx1 : sk1 σ (mn C 400 σ) (mn C 400 (ovr σ g n)) g k = true → f_X10_nobodyLater_57 (f_X10_nobodyLater_2 fu) (bI (fun i => inB σ i && !(decide (i = g)))) (nI k) M = some (b2i (skB C σ g n = true), M) := by
        intro h
        unfold f_X10_nobodyLater_57
        simp only [vl, nI_1]
        exact ih (k + 1) fu (by omega) (by omega) (by show (allF _ k && _) = true; rw [ha, h]; rfl)
      have no1 : ¬ sk1 σ (mn C 400 σ) (mn C 400 (ovr σ g n)) g k = true → some ((0 : Int32), M) = some (b2i (skB C σ g n = true), M) := by
        intro h
        rw [b2i_f (show ¬ skB C σ g n = true from fun z => h ((allF_t (k := C.2.1)).mp z k (by omega)))]
      unfold f_X10_nobodyLater_2 f_X10_nobodyLater_55
      rw [hM.2.1, if_pos (nI_lt (by omega) (by omega)), has_spec, bd_e]
      have hb : bit (bI (fun i => inB σ i && !(decide (i = g)))) (nI k) ↔ (inB σ k && !(decide (k = g))) = true := by
        rw [bit_bI _ (by omega)]
        exact ⟨fun z => z.2, fun z => ⟨by omega, z⟩⟩
      by_cases hk2 : (inB σ k && !(decide (k = g))) = true
      · obtain ⟨h1, h2⟩ := Bool.and_eq_true_iff.mp hk2
        have h3 : ¬ k = g := by simpa using h2
        have hin : ins (σ.1 k) = true := h1
        have es : sk1 σ (mn C 400 σ) (mn C 400 (ovr σ g n)) g k = ((mn C 400 (ovr σ g n)).1 k == 10 && decide ((mn C 400 (ovr σ g n)).2.2.2.1 k ≤ (mn C 400 σ).2.2.2.1 k)) := by
          unfold sk1
          rw [hin]
          simp [h3]
        rw [b2i_t (hb.mpr hk2), if_neg (by decide)]
        simp only [gd_t (nI_inb (show k < 6 by omega) (show 6 ≤ 1000 by decide))]
        rw [nI_clamp (by omega), iB.2.2.2.1 k (by omega), iA.2.2.2.1 k (by omega)]
        by_cases h10 : (mn C 400 (ovr σ g n)).1 k = 10
        · have p := hOB.2.2.2.2.2.2.2.1 k h10
          rw [if_neg (fun z => by have := (pI_m1 (by omega)).mp z; omega)]
          by_cases hlt : (mn C 400 σ).2.2.2.1 k < (mn C 400 (ovr σ g n)).2.2.2.1 k
          · rw [if_pos ((pI_lt (by omega) (by omega)).mpr hlt)]
            exact no1 (by rw [es]; simp; omega)
          · rw [if_neg (fun z => hlt ((pI_lt (by omega) (by omega)).mp z))]
            exact nx1 (by rw [es, h10]; simp; omega)
        · have p := hOB.2.2.2.2.2.1 k h10
          rw [if_pos ((pI_m1 (by omega)).mpr p)]
          exact no1 (by rw [es]; simp [h10])
      · rw [b2i_f (fun z => hk2 (hb.mp z)), if_pos rfl]
        refine nx1 ?_
        unfold sk1
        cases e1 : ins (σ.1 k) with
        | false => simp
        | true =>
          have : k = g := by
            apply Classical.byContradiction
            intro hn
            exact hk2 (by unfold inB; rw [e1]; simp [hn])
          simp [this]
  unfold f_X10_nobodyLater f_X10_nobodyLater_0
  exact key C.2.1 0 FU (by omega) (by show C.2.1 < 2000; omega) rfl
theorem oth_bits (p : Nat → Bool) {g : Nat} (hg : g < 6) : bI p &&& ((1 <<< (nI g &&& 31)) ^^^ (-1)) = bI (fun i => p i && !(decide (i = g))) := bit_ext (fun r hr => by
  rw [bit_and _ _ hr, bit_not _ hr, bit_one (by omega) hr, bit_bI _ hr, bit_bI _ hr, Bool.and_eq_true]
  constructor
  · rintro ⟨⟨h1, h2⟩, h3⟩
    exact ⟨h1, h2, by simpa using h3⟩
  · rintro ⟨h1, h2, h3⟩
    exact ⟨⟨h1, h2⟩, by simpa using h3⟩)
theorem slack_cls {C : Cf} {M : Mem} {g : Nat} {σ : Sm} (hC : COk C) (hM : CfC M C) (hS : IsC C M 26 σ) (hO : Ok C σ) (hi : ins (σ.1 g) = true) (hg : g < C.2.1) (hB : σ.2.2.2.2 < 2 ^ 29) : wp (f_X10_slack (nI g) M) (fun r M1 => (∀ i k, 174 ≤ i → M1 i k = M i k) ∧ Fr scr0 M M1 ∧ r = if bI (inB (mn C 400 σ)) = 0 then nI (grt (skB C σ g) 30) else -2) := by
  have c2 := hC.2.1
  have hOA := ok_mn hC 400 hO
  unfold f_X10_slack f_X10_slack_0
  rw [cIns hC hM hS hO.toM hg, bd_e, b2i_t hi, if_neg (by decide), wp_bd]
  refine wp_mono (foresee_spec (n := 0) (Or.inl rfl) hC hM hS hO hi hg (by decide) hB) (fun _ M4 q => ?_)
  obtain ⟨q1, q2⟩ := q
  rw [ovr_0 g hO] at q1
  have i4 : IsC C M4 26 σ := IsC.eq (fun i k e1 e2 _ => q2 i k (by unfold stS; omega)) hS
  have m4 : CfC M4 C := CfC.fr (by decide) c2 q2 hM
  have hF4 : Fr scr0 M M4 := st_scr (Or.inl (by decide)) q2
  have ge4 : ∀ i k, 174 ≤ i → M4 i k = M i k := fun i k hi => q2 i k (by unfold stS; omega)
  rw [ci_inB hC q1 hOA.toM, bd_e]
  by_cases hzA : bI (inB (mn C 400 σ)) = 0
  rotate_left
  · rw [if_neg hzA, wp_s, if_neg hzA]
    exact ⟨ge4, hF4, rfl⟩
  rw [if_pos hzA, if_pos hzA, ci_inB hC i4 hO.toM, bd_e, wp_vl, oth_bits _ (show g < 6 by omega)]
  have key : ∀ (n fu : Nat) (M1 : Mem), n ≤ 30 → n < fu → Fr (stS 41) M4 M1 → wp (f_X10_slack_50 fu (nI g) (bI (fun i => inB σ i && !(decide (i = g)))) (nI n) M1) (fun r M1 => (∀ i k, 174 ≤ i → M1 i k = M i k) ∧ Fr scr0 M M1 ∧ r = nI (grt (skB C σ g) n)) := by
    intro n
    induction n with
    | zero =>
      intro fu M1 hn hf hF
      obtain ⟨fu, rfl⟩ : ∃ f', fu = f' + 1 := ⟨fu - 1, by omega⟩
      unfold f_X10_slack_50
      rw [if_neg (by decide), wp_s]
      exact ⟨fun i k hi => (hF i k (by unfold stS; omega)).trans (ge4 i k hi), hF4.tr (st_scr (Or.inl (by decide)) hF), rfl⟩
    | succ n ih =>
      intro fu M1 hn hf hF
      obtain ⟨fu, rfl⟩ : ∃ f', fu = f' + 1 := ⟨fu - 1, by omega⟩
      unfold f_X10_slack_50
      rw [if_pos (nIp (by omega) (by omega)), wp_bd]
      refine wp_mono (foresee_spec (n := n + 1) (Or.inr rfl) hC (CfC.fr (by decide) c2 hF m4) (IsC.eq (fun i k e1 e2 _ => hF i k (by unfold stS; omega)) i4) hO hi hg hn hB) (fun _ M5 z => ?_)
      obtain ⟨z1, z2⟩ := z
      have hF5 : Fr (stS 41) M4 M5 := hF.tr z2
      rw [nobody_spec hC (CfC.fr (by decide) c2 hF5 m4) hO hOA (ok_mn hC 400 (ok_ovr hO hi)) hB hg (IsC.eq (fun i k e1 e2 _ => hF5 i k (by unfold stS; omega)) q1) z1, bd_e]
      by_cases hs : skB C σ g (n + 1) = true
      · rw [b2i_t hs, if_neg (by decide), wp_s]
        exact ⟨fun i k hi => (hF5 i k (by unfold stS; omega)).trans (ge4 i k hi), hF4.tr (st_scr (Or.inl (by decide)) hF5), by unfold grt; rw [if_pos hs]⟩
      · rw [b2i_f hs, if_pos rfl, wp_vl, pk_m1]
        have := ih fu M5 (by omega) (by omega) hF5
        have eg : grt (skB C σ g) (n + 1) = grt (skB C σ g) n := by
          conv => lhs; unfold grt
          rw [if_neg hs]
        rw [eg]
        exact this
  exact key 30 FU M4 (by decide) (by decide) Fr.rf
theorem whn_lt {C : Cf} {σ : Sm} {i : Nat} {k : Nat} (hC : COk C) (hO : Ok C (mn C k σ)) (hk : k ≤ 400) (hB : σ.2.2.2.2 ≤ 921600) (h : (mn C k σ).1 i = 10) : (mn C k σ).2.2.2.1 i ≤ 922000 := by
  have h1 := hO.2.2.2.2.2.2.1 i
  have h2 : (mn C k σ).2.2.2.2 = σ.2.2.2.2 + k := mn_now C k σ
  omega
theorem slack_ref {N : Nat} {C : Cf} {M Mc : Mem} {g : Nat} {σ : Sm} (hI : InvE N C σ M) (hge : ∀ i k, 174 ≤ i → Mc i k = M i k) (hi : ins (σ.1 g) = true) (hg : g < C.2.1) : wp (f_X11_slack (nI g) Mc) (fun r M2 => (∀ i k, i < 174 → M2 i k = Mc i k) ∧ Fr scr0 Mc M2 ∧ r = if bI (inB (mn C 400 σ)) = 0 then nI (grt (skB C σ g) 30) else -2) := by
  obtain ⟨hC, hO, a3, a4, a5, a6, a7, a8, a9⟩ := id hI
  have c2 := hC.2.1
  have hOA := ok_mn hC 400 hO
  have g14 : ∀ i k, 174 ≤ i → ¬ (i = 174 ∧ k = 14) → up Mc 174 14 0 i k = M i k := fun i k hi hk => by rw [up_at, if_neg hk]; exact hge i k hi
  have m14 : CfR (up Mc 174 14 0) C := CfR.eq (g14 174 1 (by decide) (by omega)) (g14 174 3 (by decide) (by omega)) (fun i k e1 e2 => g14 i k (by omega) (by omega)) a6
  have r14 : IsR C (up Mc 174 14 0 175) σ := IsR.eq c2 (fun k _ => g14 175 k (by decide) (by omega)) a8
  unfold f_X11_slack f_X11_slack_0
  rw [wp_ml, isG_t hC m14 hg, bd_e, if_neg (by decide), ri_inside hC hO.toM r14 rfl hg, bd_e, b2i_t hi, if_neg (by decide), wp_bd]
  refine wp_mono (r_aside hI hge) (fun _ N1 e => ?_)
  obtain ⟨⟨e1, e2, e3⟩, e4, e5⟩ := e
  have as1 : AsR C σ N1 := ⟨e2.1, e1, e3⟩
  rw [wp_bd]
  refine wp_mono (findWhen_spec (n := 0) (Or.inl rfl) hC as1 hO hi hg (by decide)) (fun r9 N2 f => ?_)
  obtain ⟨f1, f2, f3⟩ := f
  rw [ovr_0 g hO] at f1 f2
  have fws0 : ∀ {a : Nat} {X Y : Mem}, 189 ≤ a → a ≤ 199 → Fr (fwS a) X Y → Fr scr0 X Y := fun h1 h2 hF => hF.mn (fun i k q => by
    rcases q with q | q | q
    · exact s0_9x (by omega)
    · exact s0_9x (by omega)
    · exact s0_74 (by omega))
  have lo2 : ∀ i k, i < 174 → N2 i k = Mc i k := fun i k hi => (f3 i k (by unfold fwS; omega)).trans (e5 i k hi)
  have hF2 : Fr scr0 Mc N2 := e4.tr (fws0 (by decide) (by decide) f3)
  by_cases hzA : bI (inB (mn C 400 σ)) = 0
  rotate_left
  · rw [f1, b2i_f hzA, if_pos rfl, wp_s, if_neg hzA]
    exact ⟨lo2, hF2, rfl⟩
  rw [f1, b2i_t hzA, if_neg (by decide), if_pos hzA]
  have as2 : AsR C σ N2 := as1.fw c2 (by decide) (by decide) f3
  refine wp_for (α := Int32) (fun m a x M => f_X11_slack_51 m (nI g) a x M) 31 (fun n a M1 => n ≥ 1 ∧ a = nI (grt (skB C σ g) (n - 1)) ∧ Fr (fwS 197) N2 M1) _ (fun m n a M1 hn hJ kk => ?_) (fun m a M1 hJ => ?_) 30 1 FU 0 N2 (by omega) (by decide) ⟨by decide, rfl, Fr.rf⟩
  · obtain ⟨j0, j1, j2⟩ := hJ
    have n30 : n ≤ 30 := by omega
    have hOv : Ok C (ovr σ g n) := ok_ovr hO hi
    have hOB := ok_mn hC 400 hOv
    show wp (f_X11_slack_51 (m + 1) (nI g) a (nI n) M1) _
    unfold f_X11_slack_51
    rw [if_neg (show ¬ 30 < nI n from nI_nlt (a := 30) n30 (by decide)), wp_bd]
    have asn : AsR C σ M1 := as2.fw c2 (by decide) (by decide) j2
    refine wp_mono (findWhen_spec (n := n) (Or.inr rfl) hC asn hO hi hg n30) (fun r13 M2 t => ?_)
    obtain ⟨t1, t2, t3⟩ := t
    have as3 : AsR C σ M2 := asn.fw c2 (by decide) (by decide) t3
    have hF3 : Fr (fwS 197) N2 M2 := j2.tr t3
    have w96 : ∀ i, i < C.2.1 → M2 196 i = whn (mn C 400 σ) i := fun i hi => (hF3 196 i (by unfold fwS; omega)).trans (f2 i hi)
    refine wp_for (α := Int32) (fun m2 b x M => f_X11_slack_74 (f_X11_slack_51 m) m2 (nI g) a (nI n) b x M) C.2.1 (fun k b M3 => M3 = M2 ∧ b = b2i (allF (sk1 σ (mn C 400 σ) (mn C 400 (ovr σ g n)) g) k = true)) _ (fun m2 k b M3 hk hL kl => ?_) (fun m2 b M3 hL => ?_) C.2.1 0 FU 1 M2 (by omega) (by show C.2.1 < 2000; omega) ⟨rfl, (b2i_t (p := allF (sk1 σ (mn C 400 σ) (mn C 400 (ovr σ g n)) g) 0 = true) rfl).symm⟩
    · obtain ⟨rfl, l1⟩ := hL
      show wp (f_X11_slack_74 (f_X11_slack_51 m) (m2 + 1) (nI g) a (nI n) b (nI k) M3) _
      have go : ∀ b' : Int32, b' = b2i (allF (sk1 σ (mn C 400 σ) (mn C 400 (ovr σ g n)) g) (k + 1) = true) → wp (f_X11_slack_129 (f_X11_slack_51 m) (f_X11_slack_74 (f_X11_slack_51 m) m2) (nI g) a (nI n) (nI k) b' M3) (fun r M2 => (∀ i k, i < 174 → M2 i k = Mc i k) ∧ Fr scr0 Mc M2 ∧ r = nI (grt (skB C σ g) 30)) := by
        intro b' hb'
        unfold f_X11_slack_129
        rw [wp_vl, nI_1]
        exact kl b' M3 ⟨rfl, hb'⟩
      have eS : allF (sk1 σ (mn C 400 σ) (mn C 400 (ovr σ g n)) g) (k + 1) = (allF (sk1 σ (mn C 400 σ) (mn C 400 (ovr σ g n)) g) k && sk1 σ (mn C 400 σ) (mn C 400 (ovr σ g n)) g k) := rfl
      unfold f_X11_slack_74 f_X11_slack_128 f_X11_slack_124
      rw [as3.1.2.1, if_pos (nI_lt hk (by omega)), l1]
      by_cases ha : allF (sk1 σ (mn C 400 σ) (mn C 400 (ovr σ g n)) g) k = true
      · rw [b2i_t ha, if_neg (by decide)]
        have eS2 : allF (sk1 σ (mn C 400 σ) (mn C 400 (ovr σ g n)) g) (k + 1) = sk1 σ (mn C 400 σ) (mn C 400 (ovr σ g n)) g k := by rw [eS, ha]; rfl
        by_cases hkg : k = g
        · rw [if_pos (by rw [hkg])]
          exact go 1 (by rw [eS2, b2i_t (by unfold sk1; simp [hkg])])
        · rw [if_neg (fun z => hkg ((nI_eq (by omega) (by omega)).mp z)), ri_inside hC hO.toM as3.2.2 rfl hk, bd_e]
          by_cases hin : ins (σ.1 k) = true
          · rw [b2i_t hin, if_neg (by decide)]
            simp only [gd_t (nI_inb (show k < 6 by omega) (show 6 ≤ 1000 by decide))]
            obtain ⟨qA, pA⟩ := all_thr hC hO hzA hin
            have lA := whn_lt hC hOA (Nat.le_refl _) (by omega) qA
            rw [nI_clamp (by omega), w96 k hk, t2 k hk]
            have eA : whn (mn C 400 σ) k = nI ((mn C 400 σ).2.2.2.1 k - 1) := by unfold whn; rw [if_pos qA, pI_p pA]
            have es : sk1 σ (mn C 400 σ) (mn C 400 (ovr σ g n)) g k = ((mn C 400 (ovr σ g n)).1 k == 10 && decide ((mn C 400 (ovr σ g n)).2.2.2.1 k ≤ (mn C 400 σ).2.2.2.1 k)) := by
              unfold sk1
              rw [hin]
              simp [hkg]
            rw [eA]
            by_cases h10 : (mn C 400 (ovr σ g n)).1 k = 10
            · have pB := hOB.2.2.2.2.2.2.2.1 k h10
              have lB := whn_lt (σ := ovr σ g n) hC hOB (Nat.le_refl _) (show σ.2.2.2.2 ≤ 921600 by omega) h10
              have eB : whn (mn C 400 (ovr σ g n)) k = nI ((mn C 400 (ovr σ g n)).2.2.2.1 k - 1) := by unfold whn; rw [if_pos h10, pI_p pB]
              rw [eB]
              by_cases hlt : (mn C 400 σ).2.2.2.1 k < (mn C 400 (ovr σ g n)).2.2.2.1 k
              · rw [if_pos (nI_lt (by omega) (by omega))]
                exact go 0 (by rw [eS2, b2i_f (by rw [es]; simp; omega)])
              · rw [if_neg (nI_nlt (by omega) (by omega))]
                exact go 1 (by rw [eS2, b2i_t (by rw [es, h10]; simp; omega)])
            · have eB : whn (mn C 400 (ovr σ g n)) k = nI 1000000 := by unfold whn; rw [if_neg h10]; rfl
              rw [eB, if_pos (nI_lt (by omega) (by decide))]
              exact go 0 (by rw [eS2, b2i_f (by rw [es]; simp [h10])])
          · rw [b2i_f hin, if_pos rfl]
            exact go 1 (by rw [eS2, b2i_t (by unfold sk1; rw [Bool.eq_false_iff.mpr hin]; simp)])
      · rw [b2i_f ha, if_pos rfl]
        exact go 0 (by rw [eS, b2i_f (fun z => ha (Bool.and_eq_true_iff.mp z).1)])
    · obtain ⟨rfl, l1⟩ := hL
      show wp (f_X11_slack_74 (f_X11_slack_51 m) (m2 + 1) (nI g) a (nI n) b (nI C.2.1) M3) _
      unfold f_X11_slack_74 f_X11_slack_144
      rw [as3.1.2.1, if_neg (nI_nlt (Nat.le_refl _) (by omega)), l1, show allF (sk1 σ (mn C 400 σ) (mn C 400 (ovr σ g n)) g) C.2.1 = skB C σ g n from rfl]
      have eg : grt (skB C σ g) n = if skB C σ g n = true then n else grt (skB C σ g) (n - 1) := by
        obtain ⟨n', rfl⟩ : ∃ n', n = n' + 1 := ⟨n - 1, by omega⟩
        rfl
      by_cases hs : skB C σ g n = true
      · rw [b2i_t hs, if_neg (by decide), wp_vl, nI_1]
        exact kk _ M3 ⟨by omega, by rw [show n + 1 - 1 = n by omega, eg, if_pos hs], hF3⟩
      · rw [b2i_f hs, if_pos rfl, wp_vl, nI_1]
        exact kk _ M3 ⟨by omega, by rw [show n + 1 - 1 = n by omega, eg, if_neg hs]; exact j1, hF3⟩
  · obtain ⟨j0, j1, j2⟩ := hJ
    show wp (f_X11_slack_51 (m + 1) (nI g) a (nI 31) M1) _
    unfold f_X11_slack_51
    rw [if_pos (by decide), wp_s]
    exact ⟨fun i k hi => (j2 i k (by unfold fwS; omega)).trans (lo2 i k hi), hF2.tr (fws0 (by decide) (by decide) j2), j1⟩
theorem st_slack {N : Nat} {M : Mem} (hN : N < 512) (h : Cpl N M) (x : Int32) : Both N (f_X10_slack x) (f_X11_slack x) M := by
  obtain ⟨⟨C, σ, hI⟩, hR⟩ := h
  obtain ⟨a1, a2, a3, a4, a5, a6, a7, a8, a9⟩ := id hI
  have c2 := a1.2.1
  have hI' := hI.C14 0
  have done : Cpl (N + 1) (up M 174 14 0) := q_same hI hN hR fr14
  rcases gcase C.2.1 c2 x with ⟨g, hg, rfl⟩ | ⟨hx, _⟩
  rotate_left
  · unfold Both f_X10_slack f_X10_slack_0 f_X11_slack f_X11_slack_0 f_X11_slack_25
    rw [cIns_f a5 hx, bd_e, if_pos rfl, wp_s, wp_ml, isG_f a1 hI'.2.2.2.2.2.1 hx, bd_e, if_pos rfl, wp_s]
    exact ⟨rfl, done⟩
  by_cases hi : ins (σ.1 g) = true
  rotate_left
  · unfold Both f_X10_slack f_X10_slack_0 f_X11_slack f_X11_slack_0 f_X11_slack_25
    rw [cIns a1 a5 a7 a2.toM hg, bd_e, b2i_f hi, if_pos rfl, wp_s, wp_ml, isG_t a1 hI'.2.2.2.2.2.1 hg, bd_e, if_neg (by decide), ri_inside a1 a2.toM hI'.2.2.2.2.2.2.2.1 rfl hg, bd_e, b2i_f hi, if_pos rfl, wp_s]
    exact ⟨rfl, done⟩
  unfold Both
  refine wp_mono (slack_cls a1 a5 a7 a2 hi hg (by omega)) (fun r Mc q => ?_)
  obtain ⟨q1, q2, q3⟩ := q
  refine wp_mono (slack_ref hI q1 hi hg) (fun r' Mr z => ?_)
  obtain ⟨z1, z2, z3⟩ := z
  exact ⟨by rw [q3, z3], q_same hI hN hR (q2.tr z2)⟩
