/-! the reference's day -/
def dZ : Nat → Nat → Prop := fun i k => (i = 174 ∧ (k = 11 ∨ k = 14 ∨ (15 ≤ k ∧ k ≤ 19))) ∨ i = 190
def dW : Nat → Nat → Prop := fun i k => i = 175 ∨ (184 = i) ∨ (187 ≤ i ∧ i ≤ 190) ∨ (i = 174 ∧ (k = 11 ∨ k = 13 ∨ k = 14 ∨ (15 ≤ k ∧ k ≤ 19) ∨ (23 ≤ k ∧ k ≤ 25) ∨ k = 28 ∨ (30 ≤ k ∧ k ≤ 34)))
theorem RH.fz {C : Cf} {σ : Sm} {u : Nat} {τ : Nat → Sm} {M M' : Mem} (hc : C.2.1 ≤ 6) (h : RH C σ u τ M) (hF : Fr dZ M M') : RH C σ u τ M' := ⟨h.1.eq (fun i k z => hF i k (by unfold cHl at z; unfold dZ; omega)), IsR.eq hc (fun k _ => hF 175 k (by unfold dZ; omega)) h.2.1, h.2.2.eq hc (hF 174 28 (by unfold dZ; omega)) (fun k => hF 188 k (by unfold dZ; omega))⟩
def dyP (t : Nat → Nat) (L : Nat) : Sum Nat (List Act) := if L = 0 then .inr [] else acs (lkp t (min L 60)) L 81 0
theorem day89 {C : Cf} {M : Mem} {σ : Sm} {u : Nat} {τ : Nat → Sm} {l : List Act} (hC : COk C) (hO : Ok C σ) (hB : σ.2.2.2.2 < 2 ^ 28) (hu : u ≤ 12) (hRH : RH C σ u τ M) (h9 : M 174 19 = -1) (hA : AcL M l) (hOk : ∀ a, a ∈ l → AOk a) (hl : l.length ≤ 20) : wp (f_X11_day_89 (nI l.length) M) (fun r M' => r = nI (dos C l σ).1 ∧ IsR C (M' 175) (dos C l σ).2 ∧ RwR M' [if (dos C l σ).1 < l.length then 1 else 0, nI (tc (dos C l σ).2 - tc σ)] ∧ (if 0 < (dos C l σ).1 then PsR C M' (pu1 u) (psh σ τ) else PsR C M' u τ) ∧ M' 174 11 = M 174 11 ∧ Fr dW M M') := by
  have c2 := hC.2.1
  unfold f_X11_day_89
  rw [fine_t h9, bd_e, if_neg (by decide), wp_bd]
  refine wp_mono (hRH.ly hC) (fun _ M1 w => ?_)
  obtain ⟨y1, y2, y3⟩ := w
  rw [wp_bd]
  refine wp_mono (lay_spec (a0 := 175) (a1 := 189) (k0 := 0) (by decide) rfl (by decide) (by decide)) (fun _ M2 q => ?_)
  obtain ⟨q1, -, q3⟩ := q
  rw [wp_ml]
  have e2 : ∀ i k, i ≠ 189 → ¬ (i = 174 ∧ k = 34) → up M2 174 34 0 i k = M1 i k := fun i k h1 h2 => by rw [up_at, if_neg h2, q3 i h1]
  have e2F : Fr (fun i k => i = 189 ∨ (i = 174 ∧ k = 34)) M1 (up M2 174 34 0) := fun i k h => e2 i k (fun e => h (Or.inl e)) (fun e => h (Or.inr e))
  have s0 : up M2 174 34 0 174 34 = nI 0 := up_self _ _ _ _
  have i189 : IsR C (up M2 174 34 0 189) σ := IsR.eq c2 (fun k hk => by
    rw [up_row _ _ _ (by decide)]
    have := q1 k hk
    rw [Nat.zero_add] at this
    exact this) y2.2.1
  generalize hM3 : up M2 174 34 0 = M3 at *
  have hFl : Fr dW M M3 := (y3.mn (fun i k z => by unfold lyS at z; unfold dW; omega)).tr (e2F.mn (fun i k z => by unfold dW; omega))
  have a3 : M3 174 11 = M 174 11 := (e2 174 11 (by decide) (by omega)).trans (y3 174 11 (by unfold lyS; omega))
  have p3 : PsR C M3 u τ := y2.2.2.eq c2 (e2 174 28 (by decide) (by omega)) (fun k => e2 188 k (by decide) (by omega))
  refine d126 (M0 := M3) (σe := (dos C l σ).2) (ke := (dos C l σ).1) (se := tc (dos C l σ).2 - tc σ) hC (by omega) (fun M' hF hR hs => ?_) l 0 FU 0 M3 σ (by omega) (by show l.length < 2000; omega) (fun j a hj => ?_) hOk ?_ ?_ ?_ hO (by omega) s0 Fr.rf (Nat.zero_add _) rfl (Nat.zero_add _)
  · have hd := dos_ok hC l σ hO hOk
    refine wp_mono (d147 (σ := σ) (u := u) (τ := τ) c2 hu (by omega) hd.2.2.1 (IsR.eq c2 (fun k _ => hF 189 k (by unfold acS; omega)) i189) (p3.eq c2 (hF 174 28 (by unfold acS; omega)) (fun k => hF 188 k (by unfold acS; omega))) hs) (fun r M'' z => ?_)
    obtain ⟨z1, z2, z3, z4⟩ := z
    refine ⟨z1, IsR.eq c2 (fun k _ => z4 175 k (by unfold rmS rrS; omega)) hR, z2, z3, ?_, hFl.tr ((hF.mn (fun i k z => by unfold acS at z; unfold dW; omega)).tr (z4.mn (fun i k z => by unfold rmS rrS at z; unfold dW; omega)))⟩
    rw [z4 174 11 (by unfold rmS rrS; omega), hF 174 11 (by unfold acS; omega)]
    exact a3
  · rw [Nat.zero_add]
    exact (hA j a hj).eq (fun q _ _ => (e2 190 q (by decide) (by omega)).trans (y3 190 q (by unfold lyS; omega)))
  · exact CfR.eq (e2 174 1 (by decide) (by omega)) (e2 174 3 (by decide) (by omega)) (fun i k h1 h2 => e2 i k (by omega) (by omega)) y2.1.1
  · exact StR.eq (funext fun k => e2 187 k (by decide) (by omega)) y1
  · exact IsR.eq c2 (fun k _ => e2 175 k (by decide) (by omega)) y2.2.1
