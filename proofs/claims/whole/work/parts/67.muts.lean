/-! stand, over, off, minute, minutes -/
def std (n : Nat) (σ : Sm) : Sm := (σ.1, σ.2.1, σ.2.2.1, σ.2.2.2.1, σ.2.2.2.2 + n)
theorem ok_std {C : Cf} {σ : Sm} (n : Nat) (h : Ok C σ) : Ok C (std n σ) := by
  obtain ⟨h1, h2, h3, h4, h5, h6, h7, h8, h9, h10⟩ := h
  exact ⟨h1, h2, h3, h4, h5, h6, fun g => by have := h7 g; show σ.2.2.2.1 g ≤ σ.2.2.2.2 + n; omega, h8, fun g => by have := h9 g; show σ.2.2.1 g ≤ σ.2.2.2.2 + n; omega, h10⟩
theorem isc_std {C : Cf} {M : Mem} {s : Nat} {σ : Sm} {n : Nat} (h : IsC C M s σ) : IsC C (up M s 0 (M s 0 + nI n)) s (std n σ) := by
  obtain ⟨a1, a2, a3, a4, a5, a6⟩ := h
  refine ⟨rw_ne (by omega) a1, rw_ne (by omega) a2, rw_ne (by omega) a3, rw_ne (by omega) a4, ?_, fun r hr => ?_⟩
  · rw [up_self, a5, nI_add]; rfl
  · rw [up_col _ _ _ (by decide)]; exact a6 r hr
theorem isr_std {C : Cf} {f : Nat → Int32} {σ : Sm} {n : Nat} (hc : C.2.1 ≤ 6) (h : IsR C f σ) : IsR C (upd f 24 (f 24 + nI n)) (std n σ) := by
  obtain ⟨a1, a2, a3, a4, a5⟩ := h
  exact ⟨rr_n0 (fun k hk => by omega) a1, rr_ne (fun k hk => by omega) a2, rr_ne (fun k hk => by omega) a3, rr_ne (fun k hk => by omega) a4, by rw [pk_us, a5, nI_add]; rfl⟩
theorem st_stand {N : Nat} {M : Mem} (hN : N < 512) (h : Cpl N M) (x : Int32) : Both N (f_X10_stand x) (f_X11_stand x) M := by
  obtain ⟨⟨C, σ, hI⟩, hR⟩ := h
  unfold Both f_X10_stand f_X10_stand_0 f_X10_stand_11
  have no : ¬ (¬ x < 1 ∧ ¬ 60 < x) → wp (f_X11_stand x M) (fun r' M2 => r' = -1 ∧ Cpl (N + 1) M2) := by
    intro hx
    unfold f_X11_stand f_X11_stand_0
    rw [wp_ml, in_spec, bd_e, b2i_f hx, if_pos rfl, wp_s]
    exact ⟨rfl, q_same hI hN hR fr14⟩
  by_cases h1 : x < 1
  · rw [if_pos h1, wp_s]; exact no (fun q => q.1 h1)
  rw [if_neg h1]
  by_cases h2 : 60 < x
  · rw [if_pos h2, wp_s]; exact no (fun q => q.2 h2)
  rw [if_neg h2, wp_bd]
  obtain ⟨n, n1, n60, rfl⟩ := rng (a := 1) (b := 60) (by decide) (by decide) h1 h2
  obtain ⟨a1, a2, a3, a4, a5, a6, a7, a8, a9, a10, a11, ⟨lt, u, τ, p1, p2, p3⟩, a13, a14⟩ := id hI
  have c2 := a1.2.1
  refine wp_mono (add_spec (s1 := 26) (by decide) a7 p1) (fun _ M4 q => ?_)
  obtain ⟨⟨lt', q1⟩, q2⟩ := q
  have i26 : IsC C M4 26 σ := IsC.eq (fun i k b1 b2 _ => q2 i k (by unfold psS; omega)) a7
  rw [wp_ml, wp_s]
  have i26' := isc_std (n := n) i26
  have ge : ∀ i k, 174 ≤ i → up M4 26 0 (M4 26 0 + nI n) i k = M i k := fun i k hi => by rw [up_row _ _ _ (by omega)]; exact q2 i k (by unfold psS; omega)
  unfold f_X11_stand f_X11_stand_0
  rw [wp_ml, in_spec, bd_e, b2i_t ⟨h1, h2⟩, if_neg (by decide), wp_bd]
  have i175 : IsR C (up (up M4 26 0 (M4 26 0 + nI n)) 174 14 0 175) σ := IsR.eq c2 (fun k _ => by rw [up_row _ _ _ (by decide)]; exact ge 175 k (by decide)) a8
  have ipr : PsR C (up (up M4 26 0 (M4 26 0 + nI n)) 174 14 0) u τ := PsR.eq c2 (by rw [up_col _ _ _ (by decide)]; exact ge 174 28 (by decide)) (fun k => by rw [up_row _ _ _ (by decide)]; exact ge 188 k (by decide)) p2
  refine wp_mono (remember_spec c2 p1.2.1 i175 ipr) (fun _ M7 z => ?_)
  obtain ⟨z1, z2⟩ := z
  rw [gd_t (by decide), gd_t (by decide), wp_ml, gd_t (by decide), wp_s, c24, up_self, up_self]
  have i175' : IsR C (M7 175) σ := IsR.eq c2 (fun k _ => z2 175 k (by unfold rmS; omega)) i175
  have lo : ∀ i k, i < 174 → up M7 175 24 (M7 175 24 + nI n) i k = up M4 26 0 (M4 26 0 + nI n) i k := fun i k hi => by rw [up_row _ _ _ (by omega), z2 i k (by unfold rmS; omega), up_row _ _ _ (by omega)]
  have hF : Fr stp M (up M7 175 24 (M7 175 24 + nI n)) := ((((ps_stp q2).up (by unfold stp; omega)).tr (s0_stp fr14)).tr (rm_stp z2)).up (by unfold stp; omega)
  refine ⟨?_, ⟨C, std n σ, hI.st (Nat.le_succ N) hN hF (ok_std n a2) (by show σ.2.2.2.2 + n ≤ _; omega) (IsC.eq (fun i k b1 b2 _ => lo i k (by omega)) i26') ?_ ?_⟩, ?_⟩
  · rw [i175'.2.2.2.2, i26.2.2.2.2.1]
  · rw [upS]; exact isr_std c2 i175'
  · refine ps_mk (u := u) (σ := σ) (τ := τ) (q1.eq (fun i k b1 b2 => ?_)) (z1.eq c2 (by rw [up_row _ _ _ (by decide)]) (fun k => by rw [up_row _ _ _ (by decide)])) p3 a2 a3
    rw [lo i k (by omega), up_row _ _ _ (by omega)]
  · exact hR.fr (by rw [lo 0 16 (by decide), up_row _ _ _ (by decide)]; exact q2 0 16 (by unfold psS; omega)) (funext fun k => by rw [lo 173 k (by decide), up_row _ _ _ (by decide)]; exact q2 173 k (by unfold psS; omega)) (by rw [up_row _ _ _ (by decide), z2 174 13 (by unfold rmS; omega), up_col _ _ _ (by decide)]; exact ge 174 13 (by decide)) (funext fun k => by rw [up_row _ _ _ (by decide), z2 184 k (by unfold rmS; omega), up_row _ _ _ (by decide)]; exact ge 184 k (by decide))
