/-! the class: a minute, and several -/
theorem bI_set {S : Nat → Bool} {g : Nat} (hg : g < 6) : obit g (bI S) = bI (fun h => if h = g then true else S h) := by
  apply bit_ext
  intro r hr
  unfold obit
  rw [bit_or _ _ hr, bit_one (by omega) hr, bit_bI _ hr, bit_bI _ hr]
  by_cases e : r = g
  · subst e; simp [hg]
  · simp [e]
theorem foldF_last {α : Type} (f : Nat → α → α) (m g : Nat) (a : α) : foldF f (m + 1) g a = f (g + m) (foldF f m g a) := by
  rw [foldF_add m 1]; rfl
def decTo (g : Nat) (σ : Sm) : Sm := (σ.1, fun h => if h < g then σ.2.1 h - 1 else σ.2.1 h, σ.2.2.1, σ.2.2.2.1, σ.2.2.2.2)
theorem decTo_s (g : Nat) (σ : Sm) : fs (decTo g σ).2.1 g (σ.2.1 g - 1) = (decTo (g + 1) σ).2.1 := by
  funext h
  show fs (fun h => if h < g then σ.2.1 h - 1 else σ.2.1 h) g (σ.2.1 g - 1) h = if h < g + 1 then σ.2.1 h - 1 else σ.2.1 h
  by_cases e : h = g
  · subst e; rw [fs_s, if_pos (by omega)]
  · rw [fs_n _ _ e]
    by_cases e2 : h < g
    · rw [if_pos e2, if_pos (by omega)]
    · rw [if_neg e2, if_neg (by omega)]
theorem decTo_n {g : Nat} {σ : Sm} (h0 : σ.2.1 g = 0) : decTo (g + 1) σ = decTo g σ := by
  refine sm_ext rfl (funext fun h => ?_) rfl rfl rfl
  show (if h < g + 1 then σ.2.1 h - 1 else σ.2.1 h) = if h < g then σ.2.1 h - 1 else σ.2.1 h
  by_cases e : h = g
  · subst e; rw [if_pos (by omega), if_neg (by omega)]; omega
  · by_cases e2 : h < g
    · rw [if_pos e2, if_pos (by omega)]
    · rw [if_neg e2, if_neg (by omega)]
theorem decTo_all {C : Cf} {σ : Sm} (hO : OkM C σ) : decTo C.2.1 σ = dec σ := by
  refine sm_ext rfl (funext fun h => ?_) rfl rfl rfl
  show (if h < C.2.1 then σ.2.1 h - 1 else σ.2.1 h) = σ.2.1 h - 1
  by_cases e2 : h < C.2.1
  · rw [if_pos e2]
  · rw [if_neg e2, hO.2.2.1 h (by rw [hO.2.1 h (by omega)]; rfl)]
def finTo (g : Nat) (τ : Sm) : Sm := (τ.1, τ.2.1, fun h => if wtb τ h = true ∧ h < g then τ.2.2.1 h + 1 else τ.2.2.1 h, τ.2.2.2.1, τ.2.2.2.2)
theorem finTo_0 (τ : Sm) : finTo 0 τ = τ := by
  refine sm_ext rfl rfl (funext fun h => ?_) rfl rfl
  show (if wtb τ h = true ∧ h < 0 then τ.2.2.1 h + 1 else τ.2.2.1 h) = _
  rw [if_neg (by omega)]
theorem finTo_s {g : Nat} {τ : Sm} (hw : wtb τ g = true) : fs (finTo g τ).2.2.1 g (τ.2.2.1 g + 1) = (finTo (g + 1) τ).2.2.1 := by
  funext h
  show fs (fun h => if wtb τ h = true ∧ h < g then τ.2.2.1 h + 1 else τ.2.2.1 h) g (τ.2.2.1 g + 1) h = if wtb τ h = true ∧ h < g + 1 then τ.2.2.1 h + 1 else τ.2.2.1 h
  by_cases e : h = g
  · subst e; rw [fs_s, if_pos ⟨hw, by omega⟩]
  · rw [fs_n _ _ e]
    by_cases e2 : wtb τ h = true ∧ h < g
    · rw [if_pos e2, if_pos ⟨e2.1, by omega⟩]
    · rw [if_neg e2, if_neg (fun q => e2 ⟨q.1, by omega⟩)]
theorem finTo_n {g : Nat} {τ : Sm} (hw : ¬ wtb τ g = true) : finTo (g + 1) τ = finTo g τ := by
  refine sm_ext rfl rfl (funext fun h => ?_) rfl rfl
  show (if wtb τ h = true ∧ h < g + 1 then τ.2.2.1 h + 1 else τ.2.2.1 h) = if wtb τ h = true ∧ h < g then τ.2.2.1 h + 1 else τ.2.2.1 h
  by_cases e : h = g
  · subst e; rw [if_neg (fun q => hw q.1), if_neg (fun q => hw q.1)]
  · by_cases e2 : wtb τ h = true ∧ h < g
    · rw [if_pos e2, if_pos ⟨e2.1, by omega⟩]
    · rw [if_neg e2, if_neg (fun q => e2 ⟨q.1, by omega⟩)]
theorem wtb_hi {C : Cf} {τ : Sm} (hO : OkM C τ) {h : Nat} (hh : C.2.1 ≤ h) : wtb τ h = false := by
  unfold wtb
  rw [hO.2.1 h hh]
  rfl
theorem finTo_all {C : Cf} {τ : Sm} (hO : OkM C τ) : (finTo C.2.1 τ).2.2.1 = (fin τ).2.2.1 := by
  funext h
  show (if wtb τ h = true ∧ h < C.2.1 then τ.2.2.1 h + 1 else τ.2.2.1 h) = if wtb τ h = true then τ.2.2.1 h + 1 else τ.2.2.1 h
  by_cases e2 : h < C.2.1
  · simp [e2]
  · rw [if_neg (fun q => e2 q.2), if_neg (by rw [wtb_hi hO (by omega)]; decide)]
theorem wb_all {C : Cf} {τ : Sm} (hC : COk C) (hO : OkM C τ) : foldF (fun h a => if wtb τ h = true then obit h a else a) C.2.1 0 0 = bI (wtb τ) := by
  exact foldF_to 0 hC.2.1 (fun _ _ _ => rfl) (fun k x h1 _ => by rw [if_neg (by rw [wtb_hi hO h1]; decide)])
theorem pass122 {C : Cf} {M0 : Mem} {s : Nat} {τ : Sm} {x2 : Int32} (hs : 26 ≤ s) (hC : COk C) (hO : OkM C τ) (M : Mem) (hM : CfC M C) (hS : IsC C M s τ) (h2 : M s 2 = x2) (h3 : M s 3 = 0) (hF : Fr (stS s) M0 M) : wp (f_X1_pass_122 s FU 0 M) (fun _ M' => IsC C M' s (fin τ) ∧ M' s 2 = x2 ∧ M' s 3 = bI (wtb τ) ∧ Fr (stS s) M0 M') := by
  have c1 := hC.1
  have c2 := hC.2.1
  refine wp_for (α := Unit) (fun n _ x M => f_X1_pass_122 s n x M) C.2.1 (fun g _ M => CfC M C ∧ IsC C M s (finTo g τ) ∧ M s 2 = x2 ∧ M s 3 = foldF (fun h a => if wtb τ h = true then obit h a else a) g 0 0 ∧ Fr (stS s) M0 M) _ (fun n g _ M hg hI k => ?_) (fun n _ M hI => ?_) C.2.1 0 FU () M (by omega) (by show C.2.1 < 2000; omega) ⟨hM, by rw [finTo_0]; exact hS, h2, h3, hF⟩
  · obtain ⟨hM, hS, h2, h3, hF⟩ := hI
    have hg6 : g < 6 := by omega
    have hA : τ.1 g < 2 ^ 31 := by rcases hO.1 g with h | h <;> omega
    have hL := hO.2.2.2.2.1 g
    have no : wtb τ g = false → wp (f_X1_pass_182 (f_X1_pass_122 s n) s (nI g) M) (fun _ M' => IsC C M' s (fin τ) ∧ M' s 2 = x2 ∧ M' s 3 = bI (wtb τ) ∧ Fr (stS s) M0 M') := by
      intro hw
      have hw2 : ¬ wtb τ g = true := by rw [hw]; decide
      unfold f_X1_pass_182
      rw [wp_vl, nI_1]
      refine k () M ⟨hM, by rw [finTo_n hw2]; exact hS, h2, ?_, hF⟩
      rw [foldF_last, Nat.zero_add, if_neg hw2]
      exact h3
    show wp (f_X1_pass_122 s (n + 1) (nI g) M) _
    unfold f_X1_pass_122
    rw [hM.2.1, if_pos (nI_lt (by omega) (by omega))]
    simp only [gd_t (nI_inc hg6 (show 6 ≤ 1000 by decide)), nI_clamp (show g < 2 ^ 31 by omega)]
    obtain ⟨a1, a2, a3, a4, a5, a6⟩ := hS
    rw [a1 g hg6, a2 g hg6, show (finTo g τ).1 g = τ.1 g from rfl, show (finTo g τ).2.1 g = τ.2.1 g from rfl]
    by_cases hl0 : τ.2.1 g = 0
    · rw [hl0, if_pos nI_0]
      by_cases e : τ.1 g = 0
      · rw [if_pos ((pI_m1 hA).mpr e)]
        exact no (by unfold wtb; rw [e]; rfl)
      · rw [if_neg (fun q => e ((pI_m1 hA).mp q))]
        by_cases e10 : τ.1 g = 10
        · rw [if_pos ((pI_9 hA).mpr e10)]
          exact no (by unfold wtb; rw [e10]; rfl)
        · rw [if_neg (fun q => e10 ((pI_9 hA).mp q))]
          have hw : wtb τ g = true := by unfold wtb; rw [ins_t.mpr ⟨e, e10⟩, hl0]; rfl
          simp only [ml, f_X1_pass_182, vl, nI_1]
          rw [up_row _ _ _ (show s + 3 ≠ s by omega), a3 g hg6]
          have ew : (finTo g τ).2.2.1 g = τ.2.2.1 g := by
            show (if wtb τ g = true ∧ g < g then τ.2.2.1 g + 1 else τ.2.2.1 g) = _
            rw [if_neg (fun q => by omega)]
          rw [ew, nI_1]
          refine k () _ ⟨?_, ⟨?_, ?_, ?_, ?_, ?_, ?_⟩, ?_, ?_, ?_⟩
          · exact CfC.fr hs c2 ((Fr.rf.up ⟨by omega, by omega⟩).up ⟨by omega, by omega⟩) hM
          · exact rw_ne (by omega) (rw_ne (by omega) a1)
          · exact rw_ne (by omega) (rw_ne (by omega) a2)
          · rw [← finTo_s hw]; exact rw_up (rw_ne (by omega) a3)
          · exact rw_ne (by omega) (rw_ne (by omega) a4)
          · rw [up_row _ _ _ (by omega), up_col _ _ _ (by decide)]; exact a5
          · intro r hr; rw [up_row _ _ _ (by omega), up_col _ _ _ (by decide)]; exact a6 r hr
          · rw [up_row _ _ _ (by omega), up_col _ _ _ (by decide)]; exact h2
          · rw [up_row _ _ _ (by omega), up_self, foldF_last, Nat.zero_add, if_pos hw, h3]; rfl
          · exact (hF.up ⟨by omega, by omega⟩).up ⟨by omega, by omega⟩
    · rw [if_neg (fun q => hl0 ((nI_eq (by omega) (by decide)).mp (q.trans nI_0.symm)))]
      refine no ?_
      unfold wtb
      rw [Bool.and_eq_false_iff]
      right
      rw [Bool.eq_false_iff]
      intro h; exact hl0 (beq_iff_eq.mp h)
  · obtain ⟨hM, hS, h2, h3, hF⟩ := hI
    show wp (f_X1_pass_122 s (n + 1) (nI C.2.1) M) _
    unfold f_X1_pass_122
    rw [hM.2.1, if_neg (nI_nlt (Nat.le_refl _) (by omega)), wp_ml, wp_s]
    obtain ⟨a1, a2, a3, a4, a5, a6⟩ := hS
    rw [wb_all hC hO] at h3
    refine ⟨⟨rw_ne (by omega) a1, rw_ne (by omega) a2, ?_, rw_ne (by omega) a4, ?_, ?_⟩, ?_, ?_, hF.up ⟨by omega, by omega⟩⟩
    · rw [← finTo_all hO]; exact rw_ne (by omega) a3
    · rw [up_self, a5, nI_1]; rfl
    · intro r hr; rw [up_col _ _ _ (by decide)]; exact a6 r hr
    · rw [up_col _ _ _ (by decide)]; exact h2
    · rw [up_col _ _ _ (by decide)]; exact h3
theorem step_goes {C : Cf} {σ : Sm} {g : Nat} (hO : OkM C σ) (hi : ins (σ.1 g) = true) : goesTo C (if C.2.2.2.1 g = true then pI (σ.1 g) - 1 else pI (σ.1 g) + 1) (nx C g (σ.1 g)) := by
  have hl := ins_le hO hi
  have ep : pI (σ.1 g) = nI (σ.1 g - 1) := by rw [← pI_s, show σ.1 g - 1 + 1 = σ.1 g by omega]
  rw [ep]
  unfold nx
  by_cases hb : C.2.2.2.1 g = true
  · rw [if_pos hb, if_pos hb]
    by_cases e1 : σ.1 g = 1
    · rw [if_pos e1, e1]; right; exact ⟨rfl, Or.inl (by decide)⟩
    · rw [if_neg e1]; left; exact ⟨by omega, by omega, nI_sub1 (by omega)⟩
  · rw [if_neg hb, if_neg hb, nI_1]
    by_cases e1 : σ.1 g = C.1
    · rw [if_pos e1]; right; exact ⟨rfl, Or.inr (by rw [show σ.1 g - 1 + 1 = C.1 by omega])⟩
    · rw [if_neg e1]; left; exact ⟨by omega, by omega, by rw [show σ.1 g - 1 + 1 = σ.1 g + 1 - 1 by omega]⟩
theorem pass47 {C : Cf} {M0 : Mem} {s : Nat} {R : Sm × (Nat → Bool)} {p : Sm × (Nat → Bool)} (hs : 26 ≤ s) (hC : COk C) (hp : OkM C p.1) (hR : run C 36 p = R) (M : Mem) (hM : CfC M C) (hS : IsC C M s p.1) (h2 : M s 2 = bI p.2) (h3 : M s 3 = 0) (hF : Fr (stS s) M0 M) : wp (f_X1_pass_47 s FU 0 M) (fun _ M' => IsC C M' s (fin R.1) ∧ M' s 2 = bI R.2 ∧ M' s 3 = bI (wtb R.1) ∧ Fr (stS s) M0 M') := by
  have c1 := hC.1
  have c2 := hC.2.1
  refine wp_for (α := Unit) (fun n _ x M => f_X1_pass_47 s n x M) 36 (fun t _ M => ∃ q : Sm × (Nat → Bool), OkM C q.1 ∧ run C (36 - t) q = R ∧ CfC M C ∧ IsC C M s q.1 ∧ M s 2 = bI q.2 ∧ M s 3 = 0 ∧ Fr (stS s) M0 M) _ (fun n t _ M ht hI k => ?_) (fun n _ M hI => ?_) 36 0 FU () M (by omega) (by show 36 < 2000; omega) ⟨p, hp, hR, hM, hS, h2, h3, hF⟩
  · obtain ⟨q, hO, hR, hM, hS, h2, h3, hF⟩ := hI
    show wp (f_X1_pass_47 s (n + 1) (nI t) M) _
    unfold f_X1_pass_47
    rw [if_pos (show nI t < 36 from nI_lt (b := 36) ht (by decide)), first_spec hC hM hS hO]
    show wp (if fI (first C q.1) = -1 then f_X1_pass_120 s M else _) _
    cases e : first C q.1 with
    | none =>
      rw [if_pos (show fI none = -1 from rfl)]
      have eR : q = R := by
        rw [← hR]
        cases hk : 36 - t with
        | zero => rfl
        | succ k => unfold run; rw [e]
      rw [← eR]
      exact pass122 hs hC hO M hM hS h2 h3 hF
    | some g =>
      obtain ⟨f1, f2, f3, f4⟩ := first_some e
      have hg6 : g < 6 := by omega
      have hF2 : Fr (stS s) M0 (up M s 2 (M s 2 ||| (1 <<< (nI g &&& 31)))) := hF.up ⟨by omega, by omega⟩
      have hFx : Fr (stS s) M (up M s 2 (M s 2 ||| (1 <<< (nI g &&& 31)))) := Fr.rf.up ⟨by omega, by omega⟩
      have hM2 := CfC.fr hs c2 hFx hM
      have hS2 : IsC C (up M s 2 (M s 2 ||| (1 <<< (nI g &&& 31)))) s q.1 := IsC.eq (fun i k h1 h2 h3 => by
        by_cases ei : i = s
        · subst ei; rw [up_col _ _ _ (by have := h3 rfl; omega)]
        · rw [up_row _ _ _ ei]) hS
      have eb : up M s 2 (M s 2 ||| (1 <<< (nI g &&& 31))) s 2 = bI (fun h => if h = g then true else q.2 h) := by
        rw [up_self, h2]; exact bI_set hg6
      have go : ∀ x : Int32, goesTo C x (nx C g (q.1.1 g)) → wp (f_X1_pass_111 (f_X1_pass_47 s n) s (nI t) (nI g) x (up M s 2 (M s 2 ||| (1 <<< (nI g &&& 31))))) (fun _ M' => IsC C M' s (fin R.1) ∧ M' s 2 = bI R.2 ∧ M' s 3 = bI (wtb R.1) ∧ Fr (stS s) M0 M') := by
        intro x hx
        unfold f_X1_pass_111
        rw [wp_bd]
        refine wp_mono (move_spec hs hC hM2 hS2 hO f1 (ins_t.mp f2).2 hx) (fun _ M' h => ?_)
        rw [wp_vl, nI_1]
        refine k () M' ⟨(step C q.1 g, fun h => if h = g then true else q.2 h), okm_step hC hO e, ?_, CfC.fr hs c2 h.2.2.2 hM2, h.1, h.2.1.trans eb, ?_, hF2.tr h.2.2.2⟩
        · rw [← hR, show 36 - t = (36 - (t + 1)) + 1 by omega]
          show _ = run C ((36 - (t + 1)) + 1) q
          conv => rhs; unfold run
          rw [e]
        · rw [h.2.2.1, up_col _ _ _ (by decide)]; exact h3
      rw [if_neg (by show ¬ nI g = -1; intro z; have := nbm (a := g) (by omega); rw [show (-(nI 1) : Int32) = -1 from rfl] at this; exact this.mp z)]
      simp only [ml]
      simp only [fI, gd_t (nI_inc hg6 (show 6 ≤ 1000 by decide)), nI_clamp (show g < 2 ^ 31 by omega)]
      rw [(hM2.2.2.2 g f1).1, hS2.1 g hg6]
      have hgo := step_goes hO f2
      by_cases hb : C.2.2.2.1 g = true
      · rw [if_pos hb] at hgo
        rw [b2i_t hb, if_pos rfl]
        exact go _ hgo
      · rw [if_neg hb] at hgo
        rw [b2i_f hb, if_neg (by decide)]
        exact go _ hgo
  · obtain ⟨q, hO, hR, hM, hS, h2, h3, hF⟩ := hI
    show wp (f_X1_pass_47 s (n + 1) (nI 36) M) _
    unfold f_X1_pass_47
    rw [if_neg (show ¬ nI 36 < 36 from nI_nlt (b := 36) (Nat.le_refl _) (by decide))]
    have eR : q = R := hR
    rw [← eR]
    exact pass122 hs hC hO M hM hS h2 h3 hF
theorem bI_none : bI (fun _ => false) = 0 := by decide
theorem pass_spec {C : Cf} {M : Mem} {s : Nat} {σ : Sm} (hs : 26 ≤ s) (hC : COk C) (hM : CfC M C) (hS : IsC C M s σ) (hO : Ok C σ) : wp (f_X1_pass s M) (fun _ M' => IsC C M' s (minute C σ) ∧ M' s 2 = bI (mid C σ).2 ∧ M' s 3 = bI (wtb (mid C σ).1) ∧ Fr (stS s) M M') := by
  have c1 := hC.1
  have c2 := hC.2.1
  unfold f_X1_pass f_X1_pass_0
  rw [wp_ml, wp_ml]
  have hF : Fr (stS s) M (up (up M s 2 0) s 3 0) := (Fr.rf.up ⟨by omega, by omega⟩).up ⟨by omega, by omega⟩
  refine wp_for (α := Unit) (fun n _ x M => f_X1_pass_12 s n x M) C.2.1 (fun g _ M1 => CfC M1 C ∧ IsC C M1 s (decTo g σ) ∧ M1 s 2 = 0 ∧ M1 s 3 = 0 ∧ Fr (stS s) M M1) _ (fun n g _ M1 hg hI k => ?_) (fun n _ M1 hI => ?_) C.2.1 0 FU () _ (by omega) (by show C.2.1 < 2000; omega) ⟨CfC.fr hs c2 hF hM, ?_, ?_, ?_, hF⟩
  · obtain ⟨hM, hS, h2, h3, hF⟩ := hI
    have hg6 : g < 6 := by omega
    have hL := hO.2.2.2.2.1 g
    show wp (f_X1_pass_12 s (n + 1) (nI g) M1) _
    unfold f_X1_pass_12
    rw [hM.2.1, if_pos (nI_lt (by omega) (by omega))]
    simp only [gd_t (nI_inc hg6 (show 6 ≤ 1000 by decide)), nI_clamp (show g < 2 ^ 31 by omega)]
    obtain ⟨a1, a2, a3, a4, a5, a6⟩ := hS
    have ew : (decTo g σ).2.1 g = σ.2.1 g := by
      show (if g < g then σ.2.1 g - 1 else σ.2.1 g) = _
      rw [if_neg (by omega)]
    rw [a2 g hg6, ew]
    by_cases hl0 : σ.2.1 g = 0
    · rw [hl0, if_neg (by decide)]
      unfold f_X1_pass_39
      rw [wp_vl, nI_1]
      exact k () M1 ⟨hM, by rw [decTo_n hl0]; exact ⟨a1, a2, a3, a4, a5, a6⟩, h2, h3, hF⟩
    · rw [if_pos (nIp (by omega) (by omega)), wp_ml, nI_sub1 (by omega)]
      unfold f_X1_pass_39
      rw [wp_vl, nI_1]
      refine k () _ ⟨CfC.fr hs c2 (Fr.rf.up ⟨by omega, by omega⟩) hM, ⟨rw_ne (by omega) a1, ?_, rw_ne (by omega) a3, rw_ne (by omega) a4, ?_, ?_⟩, ?_, ?_, hF.up ⟨by omega, by omega⟩⟩
      · rw [← decTo_s]; exact rw_up a2
      · rw [up_row _ _ _ (by omega)]; exact a5
      · intro r hr; rw [up_row _ _ _ (by omega)]; exact a6 r hr
      · rw [up_row _ _ _ (by omega)]; exact h2
      · rw [up_row _ _ _ (by omega)]; exact h3
  · obtain ⟨hM, hS, h2, h3, hF⟩ := hI
    show wp (f_X1_pass_12 s (n + 1) (nI C.2.1) M1) _
    unfold f_X1_pass_12
    rw [hM.2.1, if_neg (nI_nlt (Nat.le_refl _) (by omega))]
    rw [decTo_all hO.toM] at hS
    exact pass47 (p := (dec σ, fun _ => false)) hs hC (okm_dec hO.toM) rfl M1 hM hS (h2.trans bI_none.symm) h3 hF
  · have e0 : decTo 0 σ = σ := sm_ext rfl (funext fun h => by show (if h < 0 then σ.2.1 h - 1 else σ.2.1 h) = _; rw [if_neg (by omega)]) rfl rfl rfl
    rw [e0]
    exact IsC.eq (fun i k h1 h2 h3 => by
        by_cases ei : i = s
        · subst ei; have := h3 rfl; rw [up_col _ _ _ (by omega), up_col _ _ _ (by omega)]
        · rw [up_row _ _ _ ei, up_row _ _ _ ei]) hS
  · rw [up_col _ _ _ (by decide), up_self]
  · rw [up_self]
/-! quiet minutes, and going on -/
theorem quietLoop {C : Cf} {M : Mem} {s : Nat} {σ : Sm} (hC : COk C) (hM : CfC M C) (hS : IsC C M s σ) (hO : OkM C σ) : ∀ (m g n q : Nat), g + m = C.2.1 → m < n → q < 2 ^ 30 → ∃ q', f_X1_quietMinutes_16 s n (nI q) (nI g) M = some (nI q', M) ∧ q' ≤ q ∧ ∀ h, g ≤ h → h < C.2.1 → 0 < σ.2.1 h → q' < σ.2.1 h
  | 0, g, n + 1, q, h, _, _ => by
    have c2 := hC.2.1
    refine ⟨q, ?_, Nat.le_refl _, fun h h1 h2 => by omega⟩
    unfold f_X1_quietMinutes_16
    rw [hM.2.1, if_neg (nI_nlt (by omega) (by omega))]
  | m + 1, g, n + 1, q, h, hn, hq => by
    have c2 := hC.2.1
    have hg6 : g < 6 := by omega
    have hL := hO.2.2.2.2.1 g
    unfold f_X1_quietMinutes_16
    rw [hM.2.1, if_pos (nI_lt (by omega) (by omega))]
    simp only [gd_t (nI_inc hg6 (show 6 ≤ 1000 by decide)), nI_clamp (show g < 2 ^ 31 by omega)]
    rw [hS.2.1 g hg6]
    by_cases hl0 : σ.2.1 g = 0
    · obtain ⟨q', e1, e2, e3⟩ := quietLoop hC hM hS hO m (g + 1) n q (by omega) (by omega) hq
      refine ⟨q', ?_, e2, fun h h1 h2 h3 => ?_⟩
      · rw [hl0, if_neg (by decide)]
        unfold f_X1_quietMinutes_49
        simp only [vl, nI_1]
        exact e1
      · by_cases e : h = g
        · subst e; omega
        · exact e3 h (by omega) h2 h3
    · rw [if_pos (nIp (by omega) (by omega)), nI_sub1 (by omega)]
      by_cases hlt : σ.2.1 g - 1 < q
      · obtain ⟨q', e1, e2, e3⟩ := quietLoop hC hM hS hO m (g + 1) n (σ.2.1 g - 1) (by omega) (by omega) (by omega)
        refine ⟨q', ?_, by omega, fun h h1 h2 h3 => ?_⟩
        · rw [if_pos (nI_lt hlt (by omega))]
          unfold f_X1_quietMinutes_49
          simp only [vl, nI_1]
          exact e1
        · by_cases e : h = g
          · subst e; omega
          · exact e3 h (by omega) h2 h3
      · obtain ⟨q', e1, e2, e3⟩ := quietLoop hC hM hS hO m (g + 1) n q (by omega) (by omega) hq
        refine ⟨q', ?_, e2, fun h h1 h2 h3 => ?_⟩
        · rw [if_neg (nI_nlt (by omega) (by omega))]
          unfold f_X1_quietMinutes_49
          simp only [vl, nI_1]
          exact e1
        · by_cases e : h = g
          · subst e; omega
          · exact e3 h (by omega) h2 h3
theorem quiet_spec {C : Cf} {M : Mem} {s : Nat} {σ : Sm} (hC : COk C) (hM : CfC M C) (hS : IsC C M s σ) (hO : OkM C σ) {m : Nat} (hm : m < 2 ^ 30) : ∃ q, f_X1_quietMinutes s (nI m) M = some (nI q, M) ∧ q ≤ m ∧ (q = 0 ∨ first C σ = none) ∧ ∀ h, 0 < σ.2.1 h → q < σ.2.1 h := by
  have c2 := hC.2.1
  unfold f_X1_quietMinutes f_X1_quietMinutes_0
  rw [first_spec hC hM hS hO]
  show ∃ q, (if fI (first C σ) = -1 then f_X1_quietMinutes_16 s FU (nI m) 0 M else some (0, M)) = some (nI q, M) ∧ _
  cases e : first C σ with
  | none =>
    obtain ⟨q', e1, e2, e3⟩ := quietLoop hC hM hS hO C.2.1 0 FU m (by omega) (by show C.2.1 < 2000; omega) hm
    refine ⟨q', ?_, e2, Or.inr rfl, fun h hp => ?_⟩
    · rw [if_pos (show fI none = -1 from rfl)]; exact e1
    · by_cases hh : h < C.2.1
      · exact e3 h (Nat.zero_le _) hh hp
      · have := hO.2.2.1 h (by rw [hO.2.1 h (by omega)]; rfl)
        omega
  | some g =>
    refine ⟨0, ?_, Nat.zero_le _, Or.inl rfl, fun h hp => hp⟩
    obtain ⟨f1, _⟩ := first_some e
    rw [if_neg (by show ¬ nI g = -1; intro z; have := nbm (a := g) (by omega); rw [show (-(nI 1) : Int32) = -1 from rfl] at this; exact this.mp z)]
    rfl
def quietTo (g q : Nat) (σ : Sm) : Sm := (σ.1, fun h => if 0 < σ.2.1 h ∧ h < g then σ.2.1 h - q else σ.2.1 h, fun h => if wtb σ h = true ∧ h < g then σ.2.2.1 h + q else σ.2.2.1 h, σ.2.2.2.1, σ.2.2.2.2 + q)
theorem advance_spec {C : Cf} {M : Mem} {s : Nat} {σ : Sm} (hs : 26 ≤ s) (hC : COk C) (hM : CfC M C) (hS : IsC C M s σ) (hO : Ok C σ) {m : Nat} (h0 : 0 < m) (hm : m < 2 ^ 30) : wp (f_X1_advance s (nI m) M) (fun _ M' => ∃ q, q + 1 ≤ m ∧ (q = 0 ∨ first C σ = none) ∧ (∀ h, 0 < σ.2.1 h → q < σ.2.1 h) ∧ IsC C M' s (mn C (q + 1) σ) ∧ Fr (stS s) M M') := by
  have c1 := hC.1
  have c2 := hC.2.1
  obtain ⟨q, e1, e2, e3, e4⟩ := quiet_spec hC hM hS hO.toM (m := m - 1) (by omega)
  unfold f_X1_advance f_X1_advance_0
  rw [nI_sub1 h0, e1]
  show wp (if 0 < nI q then _ else _) _
  by_cases hq : q = 0
  · subst hq
    rw [if_neg (by decide)]
    unfold f_X1_advance_99
    rw [wp_bd]
    refine wp_mono (pass_spec hs hC hM hS hO) (fun _ M' h => wp_s.mpr ⟨0, by omega, e3, e4, h.1, h.2.2.2⟩)
  · rw [if_pos (nIp (by omega) (by omega)), wp_ml]
    have hn : first C σ = none := by
      rcases e3 with h | h
      · exact absurd h hq
      · exact h
    have hqs : mn C q σ = quiet q σ := mn_quiet hn q e4
    have hF : Fr (stS s) M (up M s 0 (M s 0 + nI q)) := Fr.rf.up ⟨by omega, by omega⟩
    have a := hS
    obtain ⟨a1, a2, a3, a4, a5, a6⟩ := a
    refine wp_for (α := Unit) (fun n _ x M => f_X1_advance_26 s n (nI q) x M) C.2.1 (fun g _ M1 => CfC M1 C ∧ IsC C M1 s (quietTo g q σ) ∧ Fr (stS s) M M1) _ (fun n g _ M1 hg hI k => ?_) (fun n _ M1 hI => ?_) C.2.1 0 FU () _ (by omega) (by show C.2.1 < 2000; omega) ⟨CfC.fr hs c2 hF hM, ?_, hF⟩
    · obtain ⟨hM, hS, hF⟩ := hI
      have hg6 : g < 6 := by omega
      have hA : σ.1 g < 2 ^ 31 := by rcases hO.1 g with h | h <;> omega
      have hL := hO.2.2.2.2.1 g
      show wp (f_X1_advance_26 s (n + 1) (nI q) (nI g) M1) _
      unfold f_X1_advance_26
      rw [hM.2.1, if_pos (nI_lt (by omega) (by omega))]
      simp only [gd_t (nI_inc hg6 (show 6 ≤ 1000 by decide)), nI_clamp (show g < 2 ^ 31 by omega)]
      obtain ⟨a1, a2, a3, a4, a5, a6⟩ := hS
      have ew : (quietTo g q σ).2.1 g = σ.2.1 g := by
        show (if 0 < σ.2.1 g ∧ g < g then σ.2.1 g - q else σ.2.1 g) = _
        rw [if_neg (by omega)]
      have ew2 : (quietTo g q σ).2.2.1 g = σ.2.2.1 g := by
        show (if wtb σ g = true ∧ g < g then σ.2.2.1 g + q else σ.2.2.1 g) = _
        rw [if_neg (by omega)]
      have same : σ.2.1 g = 0 → wtb σ g = false → quietTo (g + 1) q σ = quietTo g q σ := by
        intro hl0 hw
        refine sm_ext rfl (funext fun h => ?_) (funext fun h => ?_) rfl rfl
        · show (if 0 < σ.2.1 h ∧ h < g + 1 then σ.2.1 h - q else σ.2.1 h) = if 0 < σ.2.1 h ∧ h < g then σ.2.1 h - q else σ.2.1 h
          by_cases e : h = g
          · subst e; rw [if_neg (by omega), if_neg (by omega)]
          · by_cases e2 : 0 < σ.2.1 h ∧ h < g
            · rw [if_pos e2, if_pos (by omega)]
            · rw [if_neg e2, if_neg (by omega)]
        · show (if wtb σ h = true ∧ h < g + 1 then σ.2.2.1 h + q else σ.2.2.1 h) = if wtb σ h = true ∧ h < g then σ.2.2.1 h + q else σ.2.2.1 h
          by_cases e : h = g
          · subst e; rw [if_neg (by rw [hw]; intro z; cases z.1), if_neg (by omega)]
          · by_cases e2 : wtb σ h = true ∧ h < g
            · rw [if_pos e2, if_pos ⟨e2.1, by omega⟩]
            · rw [if_neg e2, if_neg (fun z => e2 ⟨z.1, by omega⟩)]
      rw [a1 g hg6, a2 g hg6, ew, show (quietTo g q σ).1 g = σ.1 g from rfl]
      by_cases hl0 : σ.2.1 g = 0
      · rw [hl0, if_neg (by decide)]
        by_cases e : σ.1 g = 0
        · rw [if_pos ((pI_m1 hA).mpr e)]
          unfold f_X1_advance_93
          rw [wp_vl, nI_1]
          exact k () M1 ⟨hM, by rw [same hl0 (by unfold wtb; rw [e]; rfl)]; exact ⟨a1, a2, a3, a4, a5, a6⟩, hF⟩
        · rw [if_neg (fun q => e ((pI_m1 hA).mp q))]
          by_cases e10 : σ.1 g = 10
          · rw [if_pos ((pI_9 hA).mpr e10)]
            unfold f_X1_advance_93
            rw [wp_vl, nI_1]
            exact k () M1 ⟨hM, by rw [same hl0 (by unfold wtb; rw [e10]; rfl)]; exact ⟨a1, a2, a3, a4, a5, a6⟩, hF⟩
          · rw [if_neg (fun q => e10 ((pI_9 hA).mp q)), wp_ml, a3 g hg6, ew2, nI_add]
            have hw : wtb σ g = true := by unfold wtb; rw [ins_t.mpr ⟨e, e10⟩, hl0]; rfl
            unfold f_X1_advance_93
            rw [wp_vl, nI_1]
            refine k () _ ⟨CfC.fr hs c2 (Fr.rf.up ⟨by omega, by omega⟩) hM, ⟨rw_ne (by omega) a1, ?_, ?_, rw_ne (by omega) a4, ?_, ?_⟩, hF.up ⟨by omega, by omega⟩⟩
            · have el : (quietTo (g + 1) q σ).2.1 = (quietTo g q σ).2.1 := funext fun h => by
                show (if 0 < σ.2.1 h ∧ h < g + 1 then σ.2.1 h - q else σ.2.1 h) = if 0 < σ.2.1 h ∧ h < g then σ.2.1 h - q else σ.2.1 h
                by_cases e : h = g
                · subst e; rw [if_neg (by omega), if_neg (by omega)]
                · by_cases e2 : 0 < σ.2.1 h ∧ h < g
                  · rw [if_pos e2, if_pos (by omega)]
                  · rw [if_neg e2, if_neg (by omega)]
              rw [el]
              exact rw_ne (by omega) a2
            · have el : (quietTo (g + 1) q σ).2.2.1 = fs (quietTo g q σ).2.2.1 g (σ.2.2.1 g + q) := funext fun h => by
                show (if wtb σ h = true ∧ h < g + 1 then σ.2.2.1 h + q else σ.2.2.1 h) = fs (fun h => if wtb σ h = true ∧ h < g then σ.2.2.1 h + q else σ.2.2.1 h) g (σ.2.2.1 g + q) h
                by_cases e : h = g
                · subst e; rw [fs_s, if_pos ⟨hw, by omega⟩]
                · rw [fs_n _ _ e]
                  by_cases e2 : wtb σ h = true ∧ h < g
                  · rw [if_pos e2, if_pos ⟨e2.1, by omega⟩]
                  · rw [if_neg e2, if_neg (fun z => e2 ⟨z.1, by omega⟩)]
              rw [el]
              exact rw_up a3
            · rw [up_row _ _ _ (by omega)]; exact a5
            · intro r hr; rw [up_row _ _ _ (by omega)]; exact a6 r hr
      · have hqg := e4 g (by omega)
        rw [if_pos (nIp (by omega) (by omega)), wp_ml, pk_sub (by omega)]
        unfold f_X1_advance_93
        rw [wp_vl, nI_1]
        have hw : ¬ wtb σ g = true := by
          unfold wtb
          intro z
          exact hl0 (beq_iff_eq.mp (Bool.and_eq_true_iff.mp z).2)
        refine k () _ ⟨CfC.fr hs c2 (Fr.rf.up ⟨by omega, by omega⟩) hM, ⟨rw_ne (by omega) a1, ?_, ?_, rw_ne (by omega) a4, ?_, ?_⟩, hF.up ⟨by omega, by omega⟩⟩
        · have el : (quietTo (g + 1) q σ).2.1 = fs (quietTo g q σ).2.1 g (σ.2.1 g - q) := funext fun h => by
            show (if 0 < σ.2.1 h ∧ h < g + 1 then σ.2.1 h - q else σ.2.1 h) = fs (fun h => if 0 < σ.2.1 h ∧ h < g then σ.2.1 h - q else σ.2.1 h) g (σ.2.1 g - q) h
            by_cases e : h = g
            · subst e; rw [fs_s, if_pos ⟨by omega, by omega⟩]
            · rw [fs_n _ _ e]
              by_cases e2 : 0 < σ.2.1 h ∧ h < g
              · rw [if_pos e2, if_pos (by omega)]
              · rw [if_neg e2, if_neg (by omega)]
          rw [el]
          exact rw_up a2
        · have el : (quietTo (g + 1) q σ).2.2.1 = (quietTo g q σ).2.2.1 := funext fun h => by
            show (if wtb σ h = true ∧ h < g + 1 then σ.2.2.1 h + q else σ.2.2.1 h) = if wtb σ h = true ∧ h < g then σ.2.2.1 h + q else σ.2.2.1 h
            by_cases e : h = g
            · subst e; rw [if_neg (fun z => hw z.1), if_neg (by omega)]
            · by_cases e2 : wtb σ h = true ∧ h < g
              · rw [if_pos e2, if_pos ⟨e2.1, by omega⟩]
              · rw [if_neg e2, if_neg (fun z => e2 ⟨z.1, by omega⟩)]
          rw [el]
          exact rw_ne (by omega) a3
        · rw [up_row _ _ _ (by omega)]; exact a5
        · intro r hr; rw [up_row _ _ _ (by omega)]; exact a6 r hr
    · obtain ⟨hM, hS, hF⟩ := hI
      show wp (f_X1_advance_26 s (n + 1) (nI q) (nI C.2.1) M1) _
      unfold f_X1_advance_26
      rw [hM.2.1, if_neg (nI_nlt (Nat.le_refl _) (by omega))]
      unfold f_X1_advance_99
      rw [wp_bd]
      have eq1 : quietTo C.2.1 q σ = mn C q σ := by
        rw [hqs]
        have hh : ∀ h, C.2.1 ≤ h → σ.2.1 h = 0 := fun h hh => hO.2.2.1 h (by rw [hO.2.1 h hh]; rfl)
        refine sm_ext rfl (funext fun h => ?_) (funext fun h => ?_) rfl rfl
        · show (if 0 < σ.2.1 h ∧ h < C.2.1 then σ.2.1 h - q else σ.2.1 h) = if 0 < σ.2.1 h then σ.2.1 h - q else σ.2.1 h
          by_cases e : h < C.2.1
          · simp [e]
          · have := hh h (by omega)
            rw [if_neg (by omega), if_neg (by omega)]
        · show (if wtb σ h = true ∧ h < C.2.1 then σ.2.2.1 h + q else σ.2.2.1 h) = if wtb σ h = true then σ.2.2.1 h + q else σ.2.2.1 h
          by_cases e : h < C.2.1
          · simp [e]
          · rw [if_neg (by omega), if_neg (by rw [wtb_hi hO.toM (by omega)]; decide)]
      rw [eq1] at hS
      refine wp_mono (pass_spec hs hC hM hS (ok_mn hC q hO)) (fun _ M' h => wp_s.mpr ⟨q, by omega, e3, e4, ?_, hF.tr h.2.2.2⟩)
      rw [mn_s]; exact h.1
    · refine ⟨rw_ne (by omega) a1, ?_, ?_, rw_ne (by omega) a4, ?_, ?_⟩
      · have el : (quietTo 0 q σ).2.1 = σ.2.1 := funext fun h => by
          show (if 0 < σ.2.1 h ∧ h < 0 then σ.2.1 h - q else σ.2.1 h) = _
          rw [if_neg (by omega)]
        rw [el]; exact rw_ne (by omega) a2
      · have el : (quietTo 0 q σ).2.2.1 = σ.2.2.1 := funext fun h => by
          show (if wtb σ h = true ∧ h < 0 then σ.2.2.1 h + q else σ.2.2.1 h) = _
          rw [if_neg (by omega)]
        rw [el]; exact rw_ne (by omega) a3
      · rw [up_self]; show M s 0 + nI q = _; rw [a5, nI_add]; rfl
      · intro r hr; rw [up_col _ _ _ (by decide)]; exact a6 r hr
theorem goOn_spec {C : Cf} {M : Mem} {s : Nat} {σ : Sm} (hs : 26 ≤ s) (hC : COk C) (hM : CfC M C) (hS : IsC C M s σ) (hO : Ok C σ) {k : Nat} (hk : k ≤ 400) (hB : σ.2.2.2.2 < 2 ^ 29) : wp (f_X1_goOn s (nI k) M) (fun _ M' => IsC C M' s (mn C k σ) ∧ Fr (stS s) M M') := by
  have c2 := hC.2.1
  unfold f_X1_goOn f_X1_goOn_0
  rw [wp_vl, hS.2.2.2.2.1, nI_add]
  refine wp_for (α := Unit) (fun n _ x M => f_X1_goOn_10 s n (nI k) (nI (σ.2.2.2.2 + k)) x M) k (fun t _ M1 => ∃ j, t ≤ j ∧ j ≤ k ∧ CfC M1 C ∧ IsC C M1 s (mn C j σ) ∧ Fr (stS s) M M1) _ (fun n t _ M1 ht hI kk => ?_) (fun n _ M1 hI => ?_) k 0 FU () M (by omega) (by show k < 2000; omega) ⟨0, by omega, by omega, hM, hS, Fr.rf⟩
  · obtain ⟨j, h1, h2, hM1, hS1, hF⟩ := hI
    show wp (f_X1_goOn_10 s (n + 1) (nI k) (nI (σ.2.2.2.2 + k)) (nI t) M1) _
    unfold f_X1_goOn_10
    rw [if_pos (nI_lt ht (by omega)), hS1.2.2.2.2.1, mn_now]
    by_cases e : j = k
    · subst e
      rw [if_neg (nI_nlt (Nat.le_refl _) (by omega))]
      exact wp_s.mpr ⟨hS1, hF⟩
    · rw [if_pos (nI_lt (by omega) (by omega)), pk_sub (by omega), wp_bd, show σ.2.2.2.2 + k - (σ.2.2.2.2 + j) = k - j by omega]
      refine wp_mono (advance_spec hs hC hM1 hS1 (ok_mn hC j hO) (m := k - j) (by omega) (by omega)) (fun _ M2 h => ?_)
      obtain ⟨q, q1, -, -, q4, q5⟩ := h
      rw [wp_vl, nI_1]
      exact kk () M2 ⟨j + (q + 1), by omega, by omega, CfC.fr hs c2 q5 hM1, by rw [mn_add]; exact q4, hF.tr q5⟩
  · obtain ⟨j, h1, h2, hM1, hS1, hF⟩ := hI
    have e : j = k := by omega
    subst e
    show wp (f_X1_goOn_10 s (n + 1) (nI j) (nI (σ.2.2.2.2 + j)) (nI j) M1) _
    unfold f_X1_goOn_10
    rw [if_neg (nI_nlt (Nat.le_refl _) (by omega))]
    exact wp_s.mpr ⟨hS1, hF⟩
