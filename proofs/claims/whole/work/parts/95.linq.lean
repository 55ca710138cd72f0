/-! the reference reads all lines, and groups come -/
theorem nI_inj {a b : Nat} (ha : a < 2 ^ 31) (hb : b < 2 ^ 31) (h : nI a = nI b) : a = b := by
  have h1 := congrArg Int32.toInt h
  rw [nI_toInt ha, nI_toInt hb] at h1
  omega
def gX : Nat → Nat → Prop := fun i q => (i = 174 ∧ (q = 18 ∨ q = 19)) ∨ i = 185
theorem RC.gx {M M' : Mem} {t : Nat → Nat} {L : Nat} (h : Fr gX M M') (hc : RC M t L) : RC M' t L := by
  obtain ⟨h1, h2, ⟨n0, tp, a, b, e1, e2, e3⟩, h3⟩ := hc
  have e : ∀ q, q ≠ 18 → q ≠ 19 → M' 174 q = M 174 q := fun q a b => h 174 q (by unfold gX; omega)
  have e15 := e 15 (by decide) (by decide)
  refine ⟨by rw [e15]; exact h1, by rw [e15]; exact h2, ⟨n0, tp, a, b, (e 16 (by decide) (by decide)).trans e1, (e 17 (by decide) (by decide)).trans e2, e3⟩, fun p hp => ?_⟩
  rw [e15, h _ p (by unfold gX; rcases dR_c (M 174 15) with z | z <;> omega)]
  exact h3 p hp
theorem g117_f {M : Mem} {f : Nat} {x : Int32} (hf : f ≤ 100) (h9 : M 174 19 = nI f) : f_X11_groups_117 x M = some (-1 - nI f, M) := by
  unfold f_X11_groups_117
  rw [fine_f (by rw [h9]; exact nI_neq (by omega)), bd_e, if_pos rfl, h9]
theorem g98_f {M : Mem} {f : Nat} {x : Int32} (hf : f ≤ 100) (h9 : M 174 19 = nI f) : f_X11_groups_98 x M = some (-1 - nI f, M) := by
  unfold f_X11_groups_98
  rw [fault_f (by rw [h9]; exact nI_neq (by omega)), bd_e, g117_f hf h9]
  split <;> rfl
theorem pas_n {M : Mem} (h : ¬ M 174 19 = -1) (x : Int32) : f_X11_passes x M = some (0, M) := by
  unfold f_X11_passes f_X11_passes_0 f_X11_passes_15
  rw [fine_f h, bd_e, if_pos rfl]
theorem g37_0 (fu : Nat) (x : Int32) (M : Mem) : f_X11_groups_37 (fu + 1) x 0 M = f_X11_groups_98 x M := by
  conv => lhs; unfold f_X11_groups_37
  rw [if_pos rfl]
theorem g85_f {M : Mem} {f fu i : Nat} (hf : f ≤ 100) (h9 : M 174 19 = nI f) : f_X11_groups_85 (f_X11_groups_37 (fu + 1)) (nI i) M = some (-1 - nI f, M) := by
  unfold f_X11_groups_85
  rw [pas_n (by rw [h9]; exact nI_neq (by omega))]
  show f_X11_groups_37 (fu + 1) (nI i + 1) 0 M = _
  rw [g37_0, g98_f hf h9]
theorem gr37 {t : Nat → Nat} {n c L : Nat} {Q : Int32 → Mem → Prop} {M0 : Mem} (hn : n ≤ 6) (l80 : L ≤ 80) (res : Sum Nat (Nat × (Nat → Fld))) (hbad : ∀ f M', res = .inl f → f ≤ 100 → Fr gX M0 M' → Q (-1 - nI f) M') (hgood : ∀ q M', res = .inr q → 0 < q.1 → c + q.1 ≤ 6 → Fr gX M0 M' → (∀ j, j < q.1 → FlR M' n (10 * j) (q.2 j)) → wp (f_X11_groups_133 FU (nI q.1) 0 M') Q) (h1 : M0 174 1 = nI n) (h3 : M0 174 3 = nI c) (h16 : M0 174 16 = nI L) (hL0 : RC M0 t (min L 76)) : ∀ (m i fu p : Nat) (F : Nat → Fld) (M : Mem), i + m = 7 → c + i ≤ 6 → m < fu → p ≤ min L 76 → Fr gX M0 M → M 174 18 = nI p → M 174 19 = -1 → (∀ j, j < i → FlR M n (10 * j) (F j)) → lns (lkp t (min L 76)) n c L m i p F = res → wp (f_X11_groups_37 fu (nI i) 1 M) Q
  | 0, i, fu, p, F, M, hi, hci, _, _, _, _, _, _, _ => by omega
  | m + 1, i, fu + 1, p, F, M, hi, hci, hf, hp, hF, h8, h9, hj, hr => by
    obtain ⟨fu, rfl⟩ : ∃ f', fu = f' + 1 := ⟨fu - 1, by omega⟩
    have e1 : M 174 1 = nI n := (hF 174 1 (by unfold gX; omega)).trans h1
    have e3 : M 174 3 = nI c := (hF 174 3 (by unfold gX; omega)).trans h3
    have hL := RC.gx hF hL0
    unfold f_X11_groups_37 f_X11_groups_66
    unfold lns at hr
    rw [if_neg (by decide), fine_t h9, bd_e, if_neg (by decide), e3, e1, nI_add, fault_t h9, bd_e, h8]
    have bad : 6 ≤ c + i ∨ n = 0 → wp (f_X11_groups_85 (f_X11_groups_37 (fu + 1)) (nI i) (up M 174 19 (nI p))) Q := by
      intro hb
      rw [if_pos hb] at hr
      rw [g85_f (f := p) (by omega) (up_self _ _ _ _), wp_s]
      exact hbad p _ hr.symm (by omega) (hF.up (Or.inl ⟨rfl, by omega⟩))
    by_cases h6 : c + i = 6
    · rw [if_pos (show nI (c + i) = 6 by rw [h6]; rfl)]
      exact bad (Or.inl (by omega))
    · rw [if_neg (show ¬ nI (c + i) = 6 from fun z => h6 (nI_inj (b := 6) (by omega) (by decide) z))]
      by_cases h0 : n = 0
      · rw [if_pos (show nI n = 0 by rw [h0]; rfl)]
        exact bad (Or.inr h0)
      · rw [if_neg (nI_ne0 (by omega) (by omega)), show (10 : Int32) * nI i = nI (10 * i) from pk_mul 10 i, wp_bd]
        rw [if_neg (by omega)] at hr
        refine wp_mono (readGroup_ref (k := 10 * i) hn (by omega) hp hL e1 h8 h9) (fun _ M1 q => ?_)
        obtain ⟨q1, q2⟩ := q
        have hF1 : Fr gX M0 M1 := hF.tr (q1.mn (fun a b z => by unfold rgS at z; unfold gX; omega))
        cases el : ln (lkp t (min L 76)) n p with
        | inl f =>
          rw [el] at q2 hr
          obtain ⟨u1, u2⟩ := q2
          rw [g85_f u2 u1, wp_s]
          exact hbad f _ hr.symm u2 hF1
        | inr w =>
          rw [el] at q2 hr
          obtain ⟨u1, u2, u3, u4⟩ := q2
          have hL1 := RC.gx hF1 hL0
          unfold f_X11_groups_85
          rw [wp_vl, nI_1, show f_X11_passes 59 M1 = _ from pass_ok (c := 59) hL1 u2 u1 (by omega) (by decide)]
          have keep : ∀ j, j < i + 1 → FlR M1 n (10 * j) (if j = i then w.1 else F j) := by
            intro j hj2
            by_cases e : j = i
            · subst e; rw [if_pos rfl]; exact u4
            · rw [if_neg e]
              obtain ⟨v1, v2, v3, v4, v5⟩ := hj j (by omega)
              have eq : ∀ k, k < 10 * j + 10 → M1 185 k = M 185 k := fun k hk => q1 185 k (by unfold rgS; omega)
              exact ⟨(eq _ (by omega)).trans v1, (eq _ (by omega)).trans v2, (eq _ (by omega)).trans v3, (eq _ (by omega)).trans v4, fun r hr2 => (eq _ (by omega)).trans (v5 r hr2)⟩
          have hr' : (if L ≤ w.2 then Sum.inr (i + 1, fun j => if j = i then w.1 else F j) else if lkp t (min L 76) w.2 = 59 then lns (lkp t (min L 76)) n c L m (i + 1) (w.2 + 1) (fun j => if j = i then w.1 else F j) else .inl w.2) = res := hr
          have e16 : M1 174 16 = nI L := (hF1 174 16 (by unfold gX; omega)).trans h16
          by_cases hE : L ≤ w.2
          · rw [if_pos hE] at hr'
            have hno : ¬ lkp t (min L 76) w.2 = 59 := by
              unfold lkp
              rw [if_neg (by omega)]
              decide
            rw [if_neg hno, bd_e, g37_0]
            unfold f_X11_groups_98 f_X11_groups_117
            rw [u2, e16, if_neg (nI_nlt hE (by omega)), fine_t u1, bd_e, if_neg (by decide)]
            exact hgood _ M1 hr'.symm (Nat.succ_pos i) (by show c + (i + 1) ≤ 6; omega) hF1 keep
          · rw [if_neg hE] at hr'
            by_cases h59 : lkp t (min L 76) w.2 = 59
            · have hlt : w.2 < min L 76 := lkp_lo (t := t) (fun e => by omega)
              rw [if_pos h59] at hr'
              rw [if_pos h59, bd_e]
              refine gr37 hn l80 res hbad hgood h1 h3 h16 hL0 m (i + 1) (fu + 1) (w.2 + 1) _ _ (by omega) (by omega) (by omega) (by omega) (hF1.up (Or.inl ⟨rfl, by omega⟩)) (up_self _ _ _ _) (by rw [up_col _ _ _ (by decide)]; exact u1) (fun j hj2 => ?_) hr'
              obtain ⟨v1, v2, v3, v4, v5⟩ := keep j hj2
              exact ⟨by rw [up_row _ _ _ (by decide)]; exact v1, by rw [up_row _ _ _ (by decide)]; exact v2, by rw [up_row _ _ _ (by decide)]; exact v3, by rw [up_row _ _ _ (by decide)]; exact v4, fun r hr2 => by rw [up_row _ _ _ (by decide)]; exact v5 r hr2⟩
            · rw [if_neg h59] at hr'
              rw [if_neg h59, bd_e, g37_0]
              unfold f_X11_groups_98
              rw [u2, e16, if_pos (nI_lt (by omega) (by omega)), fault_t u1, bd_e, g117_f (f := w.2) (by omega) (up_self _ _ _ _), wp_s]
              exact hbad w.2 _ hr'.symm (by omega) (hF1.up (Or.inl ⟨rfl, by omega⟩))
/-- what stands of a group that has come -/
def ComR (M : Mem) (n v : Nat) (F : Fld) : Prop := M 177 v = nI F.1 ∧ M 178 v = nI F.2.1 ∧ M 179 v = nI F.2.2.1 ∧ M 180 v = b2i (F.2.2.2.1 = true) ∧ M 182 v = 0 ∧ (∀ r, r < n → M 181 (6 * v + r) = nI (F.2.2.2.2 r)) ∧ M 175 v = -1 ∧ M 175 (6 + v) = 0 ∧ M 175 (12 + v) = 0 ∧ M 175 (18 + v) = -1
def coS (v : Nat) : Nat → Nat → Prop := fun i k => (177 ≤ i ∧ i ≤ 180 ∧ k = v) ∨ (i = 182 ∧ k = v) ∨ (i = 181 ∧ 6 * v ≤ k ∧ k < 6 * v + 6) ∨ (i = 175 ∧ (k = v ∨ k = 6 + v ∨ k = 12 + v ∨ k = 18 + v)) ∨ (i = 174 ∧ k = 3)
theorem come70 {n v k0 : Nat} {F : Fld} {M0 : Mem} (hn : n ≤ 6) (hv : v < 6) (hk : k0 + 10 ≤ 60) (h1 : M0 174 1 = nI n) (h3 : M0 174 3 = nI v) (hf : FlR M0 n k0 F) : ∀ (m r fu : Nat) (M : Mem), r + m = n → m < fu → Fr (coS v) M0 M → M 174 3 = nI v → M 177 v = nI F.1 → M 178 v = nI F.2.1 → M 179 v = nI F.2.2.1 → M 180 v = b2i (F.2.2.2.1 = true) → (∀ j, j < r → M 181 (6 * v + j) = nI (F.2.2.2.2 j)) → wp (f_X11_come_70 fu (nI k0) (nI v) (nI r) M) (fun _ M' => ComR M' n v F ∧ M' 174 3 = nI (v + 1) ∧ Fr (coS v) M0 M')
  | 0, r, fu + 1, M, hr, _, hF, g3, g7, g8, g9, g10, hj => by
    unfold f_X11_come_70
    rw [show r = n by omega] at hj ⊢
    have e1 : M 174 1 = nI n := (hF 174 1 (by unfold coS; omega)).trans h1
    rw [e1, if_neg (nI_nlt (Nat.le_refl _) (by omega)), show (6 : Int32) + nI v = nI (6 + v) from nI_add 6 v, show (12 : Int32) + nI v = nI (12 + v) from nI_add 12 v, show (18 : Int32) + nI v = nI (18 + v) from nI_add 18 v]
    rw [gd_t (nI_inb (show v < 6 by omega) (by decide)), nI_clamp (show v < 2 ^ 31 by omega), wp_ml, gd_t (nI_inc (show v < 25 by omega) (by decide)), wp_ml, gd_t (nI_inb (show 6 + v < 25 by omega) (by decide)), nI_clamp (show 6 + v < 2 ^ 31 by omega), wp_ml, gd_t (nI_inb (show 12 + v < 25 by omega) (by decide)), nI_clamp (show 12 + v < 2 ^ 31 by omega), wp_ml, gd_t (nI_inb (show 18 + v < 25 by omega) (by decide)), nI_clamp (show 18 + v < 2 ^ 31 by omega), wp_ml, wp_ml, wp_s]
    have e3 : up (up (up (up (up M 182 v 0) 175 v (-1)) 175 (6 + v) 0) 175 (12 + v) 0) 175 (18 + v) (-1) 174 3 = nI v := by
      rw [up_row _ _ _ (by decide), up_row _ _ _ (by decide), up_row _ _ _ (by decide), up_row _ _ _ (by decide), up_row _ _ _ (by decide)]; exact g3
    rw [e3, nI_1]
    have k : ∀ i q, i ≠ 182 → i ≠ 175 → i ≠ 174 → up (up (up (up (up (up M 182 v 0) 175 v (-1)) 175 (6 + v) 0) 175 (12 + v) 0) 175 (18 + v) (-1)) 174 3 (nI (v + 1)) i q = M i q := fun i q a b c => by
      rw [up_row _ _ _ c, up_row _ _ _ b, up_row _ _ _ b, up_row _ _ _ b, up_row _ _ _ b, up_row _ _ _ a]
    refine ⟨⟨(k _ _ (by decide) (by decide) (by decide)).trans g7, (k _ _ (by decide) (by decide) (by decide)).trans g8, (k _ _ (by decide) (by decide) (by decide)).trans g9, (k _ _ (by decide) (by decide) (by decide)).trans g10, ?_, fun r hr => (k _ _ (by decide) (by decide) (by decide)).trans (hj r hr), ?_, ?_, ?_, ?_⟩, up_self _ _ _ _, ?_⟩
    · rw [up_row _ _ _ (by decide), up_row _ _ _ (by decide), up_row _ _ _ (by decide), up_row _ _ _ (by decide), up_row _ _ _ (by decide), up_self]
    · rw [up_row _ _ _ (by decide), up_col _ _ _ (by omega), up_col _ _ _ (by omega), up_col _ _ _ (by omega), up_self]
    · rw [up_row _ _ _ (by decide), up_col _ _ _ (by omega), up_col _ _ _ (by omega), up_self]
    · rw [up_row _ _ _ (by decide), up_col _ _ _ (by omega), up_self]
    · rw [up_row _ _ _ (by decide), up_self]
    · exact (((((hF.up (by unfold coS; omega)).up (by unfold coS; omega)).up (by unfold coS; omega)).up (by unfold coS; omega)).up (by unfold coS; omega)).up (by unfold coS; omega)
  | m + 1, r, fu + 1, M, hr, hfu, hF, g3, g7, g8, g9, g10, hj => by
    unfold f_X11_come_70
    have e1 : M 174 1 = nI n := (hF 174 1 (by unfold coS; omega)).trans h1
    rw [e1, if_pos (nI_lt (by omega) (by omega)), show nI k0 + 4 = nI (k0 + 4) from nI_add k0 4, nI_add, show (6 : Int32) * nI v = nI (6 * v) from pk_mul 6 v, nI_add, gd_t (nI_inb (show k0 + 4 + r < 60 by omega) (by decide)), nI_clamp (show k0 + 4 + r < 2 ^ 31 by omega), gd_t (nI_inb (show 6 * v + r < 36 by omega) (by decide)), nI_clamp (show 6 * v + r < 2 ^ 31 by omega), wp_ml, wp_vl, nI_1, hF 185 _ (by unfold coS; omega), hf.2.2.2.2 r (by omega)]
    refine come70 hn hv hk h1 h3 hf m (r + 1) fu _ (by omega) (by omega) (hF.up (by unfold coS; omega)) (by rw [up_row _ _ _ (by decide)]; exact g3) (by rw [up_row _ _ _ (by decide)]; exact g7) (by rw [up_row _ _ _ (by decide)]; exact g8) (by rw [up_row _ _ _ (by decide)]; exact g9) (by rw [up_row _ _ _ (by decide)]; exact g10) (fun j hj2 => ?_)
    by_cases e : j = r
    · subst e; rw [up_self]
    · rw [up_col _ _ _ (by omega)]; exact hj j (by omega)
theorem come_spec {n v k0 : Nat} {F : Fld} {M : Mem} (hn : n ≤ 6) (hv : v < 6) (hk : k0 + 10 ≤ 60) (h1 : M 174 1 = nI n) (h3 : M 174 3 = nI v) (hf : FlR M n k0 F) : wp (f_X11_come (nI k0) M) (fun _ M' => ComR M' n v F ∧ M' 174 3 = nI (v + 1) ∧ Fr (coS v) M M') := by
  obtain ⟨f1, f2, f3, f4, f5⟩ := id hf
  unfold f_X11_come f_X11_come_0
  rw [h3, wp_vl, gd_t (nI_inb (show k0 < 60 by omega) (by decide)), nI_clamp (show k0 < 2 ^ 31 by omega), nI_clamp (show v < 2 ^ 31 by omega), gd_t (nI_inc hv (by decide)), wp_ml, show nI k0 + 1 = nI (k0 + 1) from nI_1 k0, gd_t (nI_inb (show k0 + 1 < 60 by omega) (by decide)), nI_clamp (show k0 + 1 < 2 ^ 31 by omega), gd_t (nI_inc hv (by decide)), wp_ml, show nI k0 + 2 = nI (k0 + 2) from nI_add k0 2, gd_t (nI_inb (show k0 + 2 < 60 by omega) (by decide)), nI_clamp (show k0 + 2 < 2 ^ 31 by omega), gd_t (nI_inc hv (by decide)), wp_ml, show nI k0 + 3 = nI (k0 + 3) from nI_add k0 3, gd_t (nI_inb (show k0 + 3 < 60 by omega) (by decide)), nI_clamp (show k0 + 3 < 2 ^ 31 by omega)]
  have e5 : ∀ (i : Nat) (N : Mem) (x : Int32) (q : Nat), i ≠ 185 → up N i v x 185 q = N 185 q := fun i N x q h => by rw [up_row _ _ _ (Ne.symm h)]
  rw [e5 179 _ _ _ (by decide), e5 178 _ _ _ (by decide), e5 177 _ _ _ (by decide), e5 178 _ _ _ (by decide), e5 177 _ _ _ (by decide), e5 177 _ _ _ (by decide), f1, f2, f3, f4]
  have go : ∀ c : Int32, c = b2i (F.2.2.2.1 = true) → (c = 0 ∨ c = 1) → wp (f_X11_come_67 (nI k0) (nI v) (nI v) c (up (up (up M 177 v (nI F.1)) 178 v (nI F.2.1)) 179 v (nI F.2.2.1))) (fun _ M' => ComR M' n v F ∧ M' 174 3 = nI (v + 1) ∧ Fr (coS v) M M') := by
    intro c hc hc2
    unfold f_X11_come_67
    have en : vp_nar .boolean c = c := by rcases hc2 with rfl | rfl <;> rfl
    rw [gd_t (nI_inb hv (by decide)), nI_clamp (show v < 2 ^ 31 by omega), wp_ml, en]
    refine come70 hn hv hk h1 h3 hf n 0 FU _ (by omega) (by show n < 2000; omega) ((((Fr.rf.up (by unfold coS; omega)).up (by unfold coS; omega)).up (by unfold coS; omega)).up (by unfold coS; omega)) ?_ ?_ ?_ ?_ ?_ (fun j hj => absurd hj (Nat.not_lt_zero j))
    · rw [up_row _ _ _ (by decide), up_row _ _ _ (by decide), up_row _ _ _ (by decide), up_row _ _ _ (by decide)]; exact h3
    · rw [up_row _ _ _ (by decide), up_row _ _ _ (by decide), up_row _ _ _ (by decide), up_self]
    · rw [up_row _ _ _ (by decide), up_row _ _ _ (by decide), up_self]
    · rw [up_row _ _ _ (by decide), up_self]
    · rw [up_self]; exact hc
  by_cases hw : F.2.2.2.1 = true
  · rw [b2i_t hw, if_pos rfl]
    exact go 1 (by rw [b2i_t hw]) (Or.inr rfl)
  · rw [b2i_f hw, if_neg (by decide)]
    exact go 0 (by rw [b2i_f hw]) (Or.inl rfl)
def coA (c : Nat) : Nat → Nat → Prop := fun i k => (177 ≤ i ∧ i ≤ 180 ∧ c ≤ k) ∨ (i = 182 ∧ c ≤ k) ∨ (i = 181 ∧ 6 * c ≤ k) ∨ (i = 175 ∧ ((c ≤ k ∧ k < 6) ∨ (6 + c ≤ k ∧ k < 12) ∨ (12 + c ≤ k ∧ k < 18) ∨ (18 + c ≤ k ∧ k < 24))) ∨ (i = 174 ∧ (k = 3 ∨ k = 28 ∨ k = 57))
theorem comes_spec {n c k cm : Nat} {F : Nat → Fld} {M : Mem} (hn : n ≤ 6) (hck : c + k ≤ 6) (h1 : M 174 1 = nI n) (h3 : M 174 3 = nI c) (h57 : M 174 57 = nI cm) (hf : ∀ j, j < k → FlR M n (10 * j) (F j)) : wp (f_X11_groups_133 FU (nI k) 0 M) (fun r M' => r = nI k ∧ (∀ j, j < k → ComR M' n (c + j) (F j)) ∧ M' 174 3 = nI (c + k) ∧ M' 174 28 = 0 ∧ M' 174 57 = nI (cm + 1) ∧ Fr (coA c) M M') := by
  refine wp_for (α := Unit) (fun m _ x M => f_X11_groups_133 m (nI k) x M) k (fun i _ M1 => (∀ j, j < i → ComR M1 n (c + j) (F j)) ∧ M1 174 3 = nI (c + i) ∧ M1 174 57 = nI cm ∧ Fr (coA c) M M1) _ (fun m i _ M1 hi hJ kk => ?_) (fun m _ M1 hJ => ?_) k 0 FU () M (by omega) (by show k < 2000; omega) ⟨fun j hj => absurd hj (Nat.not_lt_zero j), h3, h57, Fr.rf⟩
  · show wp (f_X11_groups_133 (m + 1) (nI k) (nI i) M1) _
    obtain ⟨j1, j2, j3, j4⟩ := hJ
    unfold f_X11_groups_133
    rw [if_pos (nI_lt hi (by omega)), show (10 : Int32) * nI i = nI (10 * i) from pk_mul 10 i, wp_bd]
    have hf1 : FlR M1 n (10 * i) (F i) := by
      obtain ⟨v1, v2, v3, v4, v5⟩ := hf i hi
      have eq : ∀ q, M1 185 q = M 185 q := fun q => j4 185 q (by unfold coA; omega)
      exact ⟨(eq _).trans v1, (eq _).trans v2, (eq _).trans v3, (eq _).trans v4, fun r hr2 => (eq _).trans (v5 r hr2)⟩
    refine wp_mono (come_spec hn (show c + i < 6 by omega) (by omega) ((j4 174 1 (by unfold coA; omega)).trans h1) j2 hf1) (fun _ M2 q => ?_)
    obtain ⟨q1, q2, q3⟩ := q
    rw [wp_vl, nI_1]
    refine kk () M2 ⟨fun j hj => ?_, q2, (q3 174 57 (by unfold coS; omega)).trans j3, j4.tr (q3.mn (fun a b z => by unfold coS at z; unfold coA; omega))⟩
    by_cases e : j = i
    · subst e; exact q1
    · obtain ⟨v1, v2, v3, v4, v5, v6, v7, v8, v9, v10⟩ := j1 j (by omega)
      have eq : ∀ a b, ¬ coS (c + i) a b → M2 a b = M1 a b := fun a b h => q3 a b h
      exact ⟨(eq _ _ (by unfold coS; omega)).trans v1, (eq _ _ (by unfold coS; omega)).trans v2, (eq _ _ (by unfold coS; omega)).trans v3, (eq _ _ (by unfold coS; omega)).trans v4, (eq _ _ (by unfold coS; omega)).trans v5, fun r hr => (eq _ _ (by unfold coS; omega)).trans (v6 r hr), (eq _ _ (by unfold coS; omega)).trans v7, (eq _ _ (by unfold coS; omega)).trans v8, (eq _ _ (by unfold coS; omega)).trans v9, (eq _ _ (by unfold coS; omega)).trans v10⟩
  · show wp (f_X11_groups_133 (m + 1) (nI k) (nI k) M1) _
    obtain ⟨j1, j2, j3, j4⟩ := hJ
    unfold f_X11_groups_133
    rw [if_neg (nI_nlt (Nat.le_refl _) (by omega)), wp_ml, wp_ml, wp_s, up_col _ _ _ (by decide), j3, nI_1]
    have eq : ∀ a b, a ≠ 174 → up (up M1 174 28 0) 174 57 (nI (cm + 1)) a b = M1 a b := fun a b h => by rw [up_row _ _ _ h, up_row _ _ _ h]
    refine ⟨rfl, fun j hj => ?_, ?_, ?_, up_self _ _ _ _, (j4.up (by unfold coA; omega)).up (by unfold coA; omega)⟩
    · obtain ⟨v1, v2, v3, v4, v5, v6, v7, v8, v9, v10⟩ := j1 j hj
      exact ⟨(eq _ _ (by decide)).trans v1, (eq _ _ (by decide)).trans v2, (eq _ _ (by decide)).trans v3, (eq _ _ (by decide)).trans v4, (eq _ _ (by decide)).trans v5, fun r hr => (eq _ _ (by decide)).trans (v6 r hr), (eq _ _ (by decide)).trans v7, (eq _ _ (by decide)).trans v8, (eq _ _ (by decide)).trans v9, (eq _ _ (by decide)).trans v10⟩
    · rw [up_col _ _ _ (by decide), up_col _ _ _ (by decide)]; exact j2
    · rw [up_col _ _ _ (by decide), up_self]
