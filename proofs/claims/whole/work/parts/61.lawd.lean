/-! the class reads the rule, further -/
def ng (m : Bool) (r : PR) : PR := match r with
  | .inl f => .inl f
  | .inr w => .inr (if m = true then -w.1 else w.1, w.2)
theorem lq_fail {M M1 M' : Mem} {f : Nat} {v : Int32} (hF : Fr lwS M M1) (hf : f < 2 ^ 30) (h6 : M1 23 6 = nI f) (h : Fr lw5 M1 M') : LQ M (.inl f) v M' := ⟨hF.tr h.w5, hf, (f6 h).trans h6⟩
theorem lq_nf {M1 : Mem} {f : Nat} (hf : f < 2 ^ 30) (h6 : M1 23 6 = nI f) : ¬ M1 23 6 = -1 := by rw [h6]; exact nI_neq (by omega)
theorem lq_tr {M M1 M' : Mem} {r : PR} {v : Int32} (hF : Fr lwS M M1) (h : LQ M1 r v M') : LQ M r v M' := ⟨hF.tr h.1, h.2⟩
section LawD
variable {t : Nat → Nat} {L : Nat} {ev : Nat → Int32} {T : Int32 → Mem → Option (Int32 × Mem)} {x1 : Int32} {B : Nat → PR}
theorem rs45 (hT : TC t L ev (T x1) B) (m : Bool) {M : Mem} {p : Nat} (hL : LC M t L ev) (h5 : M 23 5 = nI p) (h6 : M 23 6 = -1) (hp : p ≤ L) : wp (f_X3_readSigned_45 T x1 (b2i (m = true)) M) (LQ M (ng m (B p))) := by
  unfold f_X3_readSigned_45 f_X3_readSigned_61
  rw [wp_bd]
  refine wp_mono (hT M p hL h5 h6 hp) (fun r M1 q => ?_)
  obtain ⟨q1, q2⟩ := q
  cases e : B p with
  | inl f =>
    rw [e] at q2
    rw [wp_if]
    exact ⟨fun _ => wp_s.mpr ⟨q1, q2⟩, fun _ => wp_s.mpr ⟨q1, q2⟩⟩
  | inr w =>
    rw [e] at q2
    cases m with
    | true =>
      rw [b2i_t rfl, if_neg (by decide)]
      exact wp_s.mpr ⟨q1, by show -r = -w.1; rw [q2.1], q2.2⟩
    | false =>
      rw [b2i_f (by decide), if_pos rfl]
      exact wp_s.mpr ⟨q1, q2⟩
theorem rs_ok (hT : TC t L ev (T x1) B) : ∀ (k t0 n : Nat) (m : Bool) (M : Mem) (p : Nat), LC M t L ev → M 23 5 = nI p → M 23 6 = -1 → p ≤ L → t0 + k = 40 → k < n → wp (f_X3_readSigned_4 T n x1 (b2i (m = true)) (nI t0) M) (LQ M (ng m (sgn (lkp t L) B k p)))
  | 0, t0, n + 1, m, M, p, hL, h5, h6, hp, ht, _ => by
    unfold f_X3_readSigned_4
    rw [if_neg (show ¬ nI t0 < 40 from nI_nlt (b := 40) (by omega) (by omega))]
    exact rs45 hT m hL h5 h6 hp
  | k + 1, t0, n + 1, m, M, p, hL, h5, h6, hp, ht, hn => by
    have l40 := hL.1
    unfold f_X3_readSigned_4
    obtain ⟨x, ex, hx⟩ := look_ok hL h5 h6 (by omega)
    rw [if_pos (show nI t0 < 40 from nI_lt (b := 40) (by omega) (by decide)), ex, bd_e]
    by_cases e : lkp t L p = 45
    · have hlt : p < L := lkp_lo (t := t) (fun e => by omega)
      rw [if_pos (show x = 45 from (hx.eq (c := 45) (by decide)).mpr e)]
      have hF : Fr lwS M (up M 23 5 (nI (p + 1))) := Fr.rf.up ⟨rfl, Or.inl rfl⟩
      have go := rs_ok hT k (t0 + 1) n (!m) _ (p + 1) (LC.fr hF hL) (up_self _ _ _ _) (by rw [up_col _ _ _ (by decide)]; exact h6) (by omega) (by omega) (by omega)
      have en : ng m (sgn (lkp t L) B (k + 1) p) = ng (!m) (sgn (lkp t L) B k (p + 1)) := by
        conv => lhs; unfold sgn
        rw [if_pos e]
        cases sgn (lkp t L) B k (p + 1) with
        | inl f => rfl
        | inr w => cases m <;> simp [ng]
      rw [en]
      cases m with
      | true =>
        rw [b2i_t rfl, if_neg (by decide)]
        unfold f_X3_readSigned_28
        rw [wp_ml, wp_vl, h5, nI_1, nI_1]
        exact wp_mono go (fun r M' q => lq_tr hF q)
      | false =>
        rw [b2i_f (by decide), if_pos rfl]
        unfold f_X3_readSigned_28
        rw [wp_ml, wp_vl, h5, nI_1, nI_1]
        exact wp_mono go (fun r M' q => lq_tr hF q)
    · have es : sgn (lkp t L) B (k + 1) p = B p := by
        unfold sgn
        rw [if_neg e]
      rw [if_neg (show ¬ x = 45 from fun z => e ((hx.eq (c := 45) (by decide)).mp z)), es]
      exact rs45 hT m hL h5 h6 hp
theorem tc_signed (hT : TC t L ev (T x1) B) : TC t L ev (f_X3_readSigned T x1) (sgn (lkp t L) B 40) := by
  intro M p hL h5 h6 hp
  unfold f_X3_readSigned f_X3_readSigned_0
  have h := rs_ok hT 40 0 FU false M p hL h5 h6 hp rfl (by decide)
  have e : ng false (sgn (lkp t L) B 40 p) = sgn (lkp t L) B 40 p := by
    cases sgn (lkp t L) B 40 p with
    | inl f => rfl
    | inr w => rfl
  rw [e] at h
  exact h
theorem tf_signed (hT : TF (T x1)) : TF (f_X3_readSigned T x1) := by
  intro M h6
  unfold f_X3_readSigned f_X3_readSigned_0
  rw [show FU = 1999 + 1 from rfl]
  unfold f_X3_readSigned_4
  rw [if_pos (by decide), look_f h6, bd_e, if_neg (by decide)]
  unfold f_X3_readSigned_45 f_X3_readSigned_61
  rw [wp_bd]
  refine wp_mono (hT M h6) (fun r M1 q => ?_)
  rw [if_pos rfl]
  exact wp_s.mpr q
theorem rp8_f {M : Mem} (n : Nat) (v x3 : Int32) (h6 : ¬ M 23 6 = -1) : wp (f_X3_readProduct_8 T (n + 1) x1 v x3 M) (fun _ M' => Fr lw5 M M') := by
  unfold f_X3_readProduct_8 f_X3_readProduct_89
  rw [wp_if, look_f h6, bd_e, if_neg (show ¬ (-1 : Int32) = 42 by decide), if_neg (show ¬ (-1 : Int32) = 47 by decide)]
  exact ⟨fun _ => wp_s.mpr Fr.rf, fun _ => wp_s.mpr Fr.rf⟩
theorem rp8_ok {S : Nat → PR} (hS : TC t L ev (f_X3_readSigned T x1) S) (hU : Ups L S) : ∀ (k t0 n : Nat) (v : Int32) (M : Mem) (p : Nat), LC M t L ev → M 23 5 = nI p → M 23 6 = -1 → p ≤ L → t0 + k = 40 → k < n → wp (f_X3_readProduct_8 T n x1 v (nI t0) M) (LQ M (prodL (lkp t L) S k v p))
  | 0, t0, n + 1, v, M, p, hL, h5, h6, hp, ht, _ => by
    unfold f_X3_readProduct_8 f_X3_readProduct_89
    rw [if_neg (show ¬ nI t0 < 40 from nI_nlt (b := 40) (by omega) (by omega)), wp_s]
    exact ⟨Fr.rf, rfl, h5, h6⟩
  | k + 1, t0, n + 1, v, M, p, hL, h5, h6, hp, ht, hn => by
    have l40 := hL.1
    unfold f_X3_readProduct_8
    obtain ⟨x, ex, hx⟩ := look_ok hL h5 h6 (by omega)
    rw [if_pos (show nI t0 < 40 from nI_lt (b := 40) (by omega) (by decide)), ex, bd_e]
    have go : ∀ c : Nat, (c = 42 ∨ c = 47) → lkp t L p = c → x = nI c → wp (f_X3_readProduct_37 T (f_X3_readProduct_8 T n) x1 v (nI t0) x M) (LQ M (match S (p + 1) with
        | .inl f => .inl f
        | .inr w => prodL (lkp t L) S k (if c = 42 then v * w.1 else dv v w.1) w.2)) := by
      intro c hc e hxc
      have hlt : p < L := lkp_lo (t := t) (fun e => by omega)
      have hF : Fr lwS M (up M 23 5 (nI (p + 1))) := Fr.rf.up ⟨rfl, Or.inl rfl⟩
      unfold f_X3_readProduct_37
      rw [wp_ml, wp_bd, h5, nI_1]
      refine wp_mono (hS _ (p + 1) (LC.fr hF hL) (up_self _ _ _ _) (by rw [up_col _ _ _ (by decide)]; exact h6) (by omega)) (fun r M1 q => ?_)
      cases er : S (p + 1) with
      | inl f =>
        rw [er] at q
        obtain ⟨q1, q2, q3⟩ := q
        have h6' := lq_nf q2 q3
        obtain ⟨n', rfl⟩ : ∃ n', n = n' + 1 := ⟨n - 1, by omega⟩
        unfold f_X3_readProduct_82 f_X3_readProduct_83
        have fin : ∀ (y z : Int32), wp (f_X3_readProduct_8 T (n' + 1) x1 y z M1) (LQ M (.inl f)) := fun y z => wp_mono (rp8_f n' y z h6') (fun r M' h => lq_fail (hF.tr q1) q2 q3 h)
        simp only [wp_if, wp_vl, wp_gd]
        exact ⟨fun _ => fin _ _, fun _ => ⟨fun _ => fin _ _, fun h => ⟨h, fin _ _⟩⟩⟩
      | inr w =>
        rw [er] at q
        obtain ⟨q1, q2, q3, q4⟩ := q
        have hw := hU (p + 1) w.1 w.2 er
        have next : ∀ y : Int32, wp (f_X3_readProduct_8 T n x1 y (nI (t0 + 1)) M1) (LQ M (prodL (lkp t L) S k y w.2)) := fun y => wp_mono (rp8_ok hS hU k (t0 + 1) n y M1 w.2 (LC.fr (hF.tr q1) hL) q3 q4 (hw.2 (by omega)) (by omega) (by omega)) (fun r M' h => lq_tr (hF.tr q1) h)
        unfold f_X3_readProduct_82 f_X3_readProduct_83
        rw [q2]
        rcases hc with hc | hc
        · subst hc
          rw [if_pos (show x = 42 from hxc), wp_vl, wp_vl, nI_1]
          simp only [if_true]
          exact next _
        · subst hc
          rw [if_neg (by rw [hxc]; decide)]
          simp only [wp_vl, nI_1, show ¬ (47 = 42) by decide, if_false]
          unfold dv
          by_cases hz : w.1 = 0
          · rw [if_pos hz, if_pos hz]; exact next _
          · rw [if_neg hz, if_neg hz, gd_t hz]; exact next _
    unfold prodL
    by_cases e : lkp t L p = 42
    · have hxe := (hx.eq (c := 42) (by decide)).mpr e
      rw [if_pos (show x = 42 from hxe), if_pos e]
      have := go 42 (Or.inl rfl) e hxe
      simp only [if_true] at this
      exact this
    · rw [if_neg (show ¬ x = 42 from fun z => e ((hx.eq (c := 42) (by decide)).mp z)), if_neg e]
      by_cases e2 : lkp t L p = 47
      · have hxe := (hx.eq (c := 47) (by decide)).mpr e2
        rw [if_pos (show x = 47 from hxe), if_pos e2]
        have := go 47 (Or.inr rfl) e2 hxe
        simp only [show ¬ (47 = 42) by decide, if_false] at this
        exact this
      · rw [if_neg (show ¬ x = 47 from fun z => e2 ((hx.eq (c := 47) (by decide)).mp z)), if_neg e2]
        unfold f_X3_readProduct_89
        exact wp_s.mpr ⟨Fr.rf, rfl, h5, h6⟩
theorem tc_product {S : Nat → PR} (hS : TC t L ev (f_X3_readSigned T x1) S) (hU : Ups L S) : TC t L ev (f_X3_readProduct T x1) (prodP (lkp t L) S) := by
  intro M p hL h5 h6 hp
  unfold f_X3_readProduct f_X3_readProduct_0 prodP
  rw [wp_bd]
  refine wp_mono (hS M p hL h5 h6 hp) (fun r M1 q => ?_)
  cases er : S p with
  | inl f =>
    rw [er] at q
    obtain ⟨q1, q2, q3⟩ := q
    exact wp_mono (rp8_f 1999 _ _ (lq_nf q2 q3)) (fun r M' h => lq_fail q1 q2 q3 h)
  | inr w =>
    rw [er] at q
    obtain ⟨q1, q2, q3, q4⟩ := q
    rw [q2]
    exact wp_mono (rp8_ok hS hU 40 0 FU w.1 M1 w.2 (LC.fr q1 hL) q3 q4 ((hU p w.1 w.2 er).2 hp) rfl (by decide)) (fun r M' h => lq_tr q1 h)
theorem tf_product (hT : TF (f_X3_readSigned T x1)) : TF (f_X3_readProduct T x1) := by
  intro M h6
  unfold f_X3_readProduct f_X3_readProduct_0
  rw [wp_bd]
  exact wp_mono (hT M h6) (fun r M1 q => wp_mono (rp8_f 1999 _ _ (by rw [f6 q]; exact h6)) (fun r M' h => q.tr h))
theorem ru8_f {M : Mem} (n : Nat) (v x3 : Int32) (h6 : ¬ M 23 6 = -1) : wp (f_X3_readSum_8 T (n + 1) x1 v x3 M) (fun _ M' => Fr lw5 M M') := by
  unfold f_X3_readSum_8 f_X3_readSum_79
  rw [wp_if, look_f h6, bd_e, if_neg (show ¬ (-1 : Int32) = 43 by decide), if_neg (show ¬ (-1 : Int32) = 45 by decide)]
  exact ⟨fun _ => wp_s.mpr Fr.rf, fun _ => wp_s.mpr Fr.rf⟩
theorem ru8_ok {S : Nat → PR} (hS : TC t L ev (f_X3_readProduct T x1) S) (hU : Ups L S) : ∀ (k t0 n : Nat) (v : Int32) (M : Mem) (p : Nat), LC M t L ev → M 23 5 = nI p → M 23 6 = -1 → p ≤ L → t0 + k = 40 → k < n → wp (f_X3_readSum_8 T n x1 v (nI t0) M) (LQ M (sumL (lkp t L) S k v p))
  | 0, t0, n + 1, v, M, p, hL, h5, h6, hp, ht, _ => by
    unfold f_X3_readSum_8 f_X3_readSum_79
    rw [if_neg (show ¬ nI t0 < 40 from nI_nlt (b := 40) (by omega) (by omega)), wp_s]
    exact ⟨Fr.rf, rfl, h5, h6⟩
  | k + 1, t0, n + 1, v, M, p, hL, h5, h6, hp, ht, hn => by
    have l40 := hL.1
    unfold f_X3_readSum_8
    obtain ⟨x, ex, hx⟩ := look_ok hL h5 h6 (by omega)
    rw [if_pos (show nI t0 < 40 from nI_lt (b := 40) (by omega) (by decide)), ex, bd_e]
    have go : ∀ c : Nat, (c = 43 ∨ c = 45) → lkp t L p = c → x = nI c → wp (f_X3_readSum_37 T (f_X3_readSum_8 T n) x1 v (nI t0) x M) (LQ M (match S (p + 1) with
        | .inl f => .inl f
        | .inr w => sumL (lkp t L) S k (if c = 43 then v + w.1 else v - w.1) w.2)) := by
      intro c hc e hxc
      have hlt : p < L := lkp_lo (t := t) (fun e => by omega)
      have hF : Fr lwS M (up M 23 5 (nI (p + 1))) := Fr.rf.up ⟨rfl, Or.inl rfl⟩
      unfold f_X3_readSum_37
      rw [wp_ml, wp_bd, h5, nI_1]
      refine wp_mono (hS _ (p + 1) (LC.fr hF hL) (up_self _ _ _ _) (by rw [up_col _ _ _ (by decide)]; exact h6) (by omega)) (fun r M1 q => ?_)
      cases er : S (p + 1) with
      | inl f =>
        rw [er] at q
        obtain ⟨q1, q2, q3⟩ := q
        have h6' := lq_nf q2 q3
        obtain ⟨n', rfl⟩ : ∃ n', n = n' + 1 := ⟨n - 1, by omega⟩
        unfold f_X3_readSum_72
        have fin : ∀ (y z : Int32), wp (f_X3_readSum_8 T (n' + 1) x1 y z M1) (LQ M (.inl f)) := fun y z => wp_mono (ru8_f n' y z h6') (fun r M' h => lq_fail (hF.tr q1) q2 q3 h)
        simp only [wp_if, wp_vl]
        exact ⟨fun _ => fin _ _, fun _ => fin _ _⟩
      | inr w =>
        rw [er] at q
        obtain ⟨q1, q2, q3, q4⟩ := q
        have hw := hU (p + 1) w.1 w.2 er
        have next : ∀ y : Int32, wp (f_X3_readSum_8 T n x1 y (nI (t0 + 1)) M1) (LQ M (sumL (lkp t L) S k y w.2)) := fun y => wp_mono (ru8_ok hS hU k (t0 + 1) n y M1 w.2 (LC.fr (hF.tr q1) hL) q3 q4 (hw.2 (by omega)) (by omega) (by omega)) (fun r M' h => lq_tr (hF.tr q1) h)
        unfold f_X3_readSum_72
        rw [q2]
        rcases hc with hc | hc
        · subst hc
          rw [if_pos (show x = 43 from hxc), wp_vl, nI_1]
          simp only [if_true]
          exact next _
        · subst hc
          rw [if_neg (by rw [hxc]; decide), wp_vl, nI_1]
          simp only [show ¬ (45 = 43) by decide, if_false]
          exact next _
    unfold sumL
    by_cases e : lkp t L p = 43
    · have hxe := (hx.eq (c := 43) (by decide)).mpr e
      rw [if_pos (show x = 43 from hxe), if_pos e]
      have := go 43 (Or.inl rfl) e hxe
      simp only [if_true] at this
      exact this
    · rw [if_neg (show ¬ x = 43 from fun z => e ((hx.eq (c := 43) (by decide)).mp z)), if_neg e]
      by_cases e2 : lkp t L p = 45
      · have hxe := (hx.eq (c := 45) (by decide)).mpr e2
        rw [if_pos (show x = 45 from hxe), if_pos e2]
        have := go 45 (Or.inr rfl) e2 hxe
        simp only [show ¬ (45 = 43) by decide, if_false] at this
        exact this
      · rw [if_neg (show ¬ x = 45 from fun z => e2 ((hx.eq (c := 45) (by decide)).mp z)), if_neg e2]
        unfold f_X3_readSum_79
        exact wp_s.mpr ⟨Fr.rf, rfl, h5, h6⟩
theorem tc_sum {S : Nat → PR} (hS : TC t L ev (f_X3_readProduct T x1) S) (hU : Ups L S) : TC t L ev (f_X3_readSum T x1) (sumP (lkp t L) S) := by
  intro M p hL h5 h6 hp
  unfold f_X3_readSum f_X3_readSum_0 sumP
  rw [wp_bd]
  refine wp_mono (hS M p hL h5 h6 hp) (fun r M1 q => ?_)
  cases er : S p with
  | inl f =>
    rw [er] at q
    obtain ⟨q1, q2, q3⟩ := q
    exact wp_mono (ru8_f 1999 _ _ (lq_nf q2 q3)) (fun r M' h => lq_fail q1 q2 q3 h)
  | inr w =>
    rw [er] at q
    obtain ⟨q1, q2, q3, q4⟩ := q
    rw [q2]
    exact wp_mono (ru8_ok hS hU 40 0 FU w.1 M1 w.2 (LC.fr q1 hL) q3 q4 ((hU p w.1 w.2 er).2 hp) rfl (by decide)) (fun r M' h => lq_tr q1 h)
theorem tf_sum (hT : TF (f_X3_readProduct T x1)) : TF (f_X3_readSum T x1) := by
  intro M h6
  unfold f_X3_readSum f_X3_readSum_0
  rw [wp_bd]
  exact wp_mono (hT M h6) (fun r M1 q => wp_mono (ru8_f 1999 _ _ (by rw [f6 q]; exact h6)) (fun r M' h => q.tr h))
theorem tc_expr {S : Nat → PR} (hS : TC t L ev (f_X3_readSum T x1) S) (hSf : TF (f_X3_readSum T x1)) (hU : Ups L S) : TC t L ev (f_X3_readExpression T x1) (expr (lkp t L) S) := by
  intro M p hL h5 h6 hp
  have l40 := hL.1
  unfold f_X3_readExpression f_X3_readExpression_0 expr
  rw [wp_bd]
  refine wp_mono (hS M p hL h5 h6 hp) (fun r M1 q => ?_)
  cases er : S p with
  | inl f =>
    rw [er] at q
    obtain ⟨q1, q2, q3⟩ := q
    rw [look_f (lq_nf q2 q3), bd_e, if_neg (by decide), if_neg (by decide), if_neg (by decide)]
    exact wp_s.mpr ⟨q1, q2, q3⟩
  | inr w =>
    rw [er] at q
    obtain ⟨q1, q2, q3, q4⟩ := q
    have hw := (hU p w.1 w.2 er).2 hp
    obtain ⟨x, ex, hx⟩ := look_ok (LC.fr q1 hL) q3 q4 (by omega)
    rw [ex, bd_e, q2]
    have go : ∀ c : Nat, isCm c = true → c < 256 → lkp t L w.2 = c → x = nI c → wp (f_X3_readExpression_31 T x1 w.1 x M1) (LQ M (match S (w.2 + 1) with
        | .inl f => .inl f
        | .inr z => .inr (cmpV c w.1 z.1, z.2))) := by
      intro c hcm hc e hxc
      have hlt : w.2 < L := lkp_lo (t := t) (fun e => by omega)
      have hF : Fr lwS M1 (up M1 23 5 (nI (w.2 + 1))) := Fr.rf.up ⟨rfl, Or.inl rfl⟩
      unfold f_X3_readExpression_31
      rw [wp_ml, wp_bd, q3, nI_1]
      refine wp_mono (hS _ (w.2 + 1) (LC.fr (q1.tr hF) hL) (up_self _ _ _ _) (by rw [up_col _ _ _ (by decide)]; exact q4) (by omega)) (fun r2 M2 z => ?_)
      unfold f_X3_readExpression_99 f_X3_readExpression_111
      cases er2 : S (w.2 + 1) with
      | inl f =>
        rw [er2] at z
        obtain ⟨z1, z2, z3⟩ := z
        have fin : ∀ y : Int32, wp (some (y, M2)) (LQ M (.inl f)) := fun y => wp_s.mpr ⟨(q1.tr hF).tr z1, z2, z3⟩
        simp only [wp_if]
        exact ⟨fun _ => ⟨fun _ => ⟨fun _ => fin _, fun _ => fin _⟩, fun _ => ⟨fun _ => fin _, fun _ => fin _⟩⟩, fun _ => ⟨fun _ => ⟨fun _ => ⟨fun _ => fin _, fun _ => fin _⟩, fun _ => ⟨fun _ => fin _, fun _ => fin _⟩⟩, fun _ => ⟨fun _ => ⟨fun _ => fin _, fun _ => fin _⟩, fun _ => ⟨fun _ => fin _, fun _ => fin _⟩⟩⟩⟩
      | inr z' =>
        rw [er2] at z
        obtain ⟨z1, z2, z3, z4⟩ := z
        rw [z2]
        have fin : ∀ (y : Int32), y = cmpV c w.1 z'.1 → wp (some (y, M2)) (LQ M (.inr (cmpV c w.1 z'.1, z'.2))) := fun y hy => wp_s.mpr ⟨(q1.tr hF).tr z1, hy, z3, z4⟩
        have h3 : c = 60 ∨ c = 62 ∨ c = 61 := by
          unfold isCm at hcm
          simp only [Bool.or_eq_true, beq_iff_eq, or_assoc] at hcm
          exact hcm
        rw [hxc]
        rcases h3 with h3 | h3 | h3
        · subst h3
          rw [if_pos (by decide)]
          by_cases hh : w.1 < z'.1
          · rw [if_pos hh, if_neg (by decide)]; exact fin _ (by unfold cmpV; rw [if_pos rfl, b2i_t hh])
          · rw [if_neg hh, if_pos rfl]; exact fin _ (by unfold cmpV; rw [if_pos rfl, b2i_f hh])
        · subst h3
          rw [if_neg (by decide), if_pos (by decide)]
          by_cases hh : z'.1 < w.1
          · rw [if_pos hh, if_neg (by decide)]; exact fin _ (by unfold cmpV; rw [if_neg (by decide), if_pos rfl, b2i_t hh])
          · rw [if_neg hh, if_pos rfl]; exact fin _ (by unfold cmpV; rw [if_neg (by decide), if_pos rfl, b2i_f hh])
        · subst h3
          rw [if_neg (by decide), if_neg (by decide)]
          by_cases hh : w.1 = z'.1
          · rw [if_pos hh, if_neg (by decide)]; exact fin _ (by unfold cmpV; rw [if_neg (by decide), if_neg (by decide), b2i_t hh])
          · rw [if_neg hh, if_pos rfl]; exact fin _ (by unfold cmpV; rw [if_neg (by decide), if_neg (by decide), b2i_f hh])
    have hc3 : isCm (lkp t L w.2) = true ↔ lkp t L w.2 = 60 ∨ lkp t L w.2 = 62 ∨ lkp t L w.2 = 61 := by
      unfold isCm
      simp only [Bool.or_eq_true, beq_iff_eq, or_assoc]
    by_cases e1 : lkp t L w.2 = 60
    · have hxe := (hx.eq (c := 60) (by decide)).mpr e1
      rw [if_pos (show x = 60 from hxe)]
      have := go 60 rfl (by decide) e1 hxe
      simp only [e1, show isCm 60 = true from rfl, if_true]
      exact this
    · rw [if_neg (show ¬ x = 60 from fun z => e1 ((hx.eq (c := 60) (by decide)).mp z))]
      by_cases e2 : lkp t L w.2 = 62
      · have hxe := (hx.eq (c := 62) (by decide)).mpr e2
        rw [if_pos (show x = 62 from hxe)]
        have := go 62 rfl (by decide) e2 hxe
        simp only [e2, show isCm 62 = true from rfl, if_true]
        exact this
      · rw [if_neg (show ¬ x = 62 from fun z => e2 ((hx.eq (c := 62) (by decide)).mp z))]
        by_cases e3 : lkp t L w.2 = 61
        · have hxe := (hx.eq (c := 61) (by decide)).mpr e3
          rw [if_pos (show x = 61 from hxe)]
          have := go 61 rfl (by decide) e3 hxe
          simp only [e3, show isCm 61 = true from rfl, if_true]
          exact this
        · rw [if_neg (show ¬ x = 61 from fun z => e3 ((hx.eq (c := 61) (by decide)).mp z))]
          have hn : ¬ isCm (lkp t L w.2) = true := fun z => by rcases hc3.mp z with z | z | z <;> contradiction
          simp only [hn]
          exact wp_s.mpr ⟨q1, rfl, q3, q4⟩
theorem tf_expr (hT : TF (f_X3_readSum T x1)) : TF (f_X3_readExpression T x1) := by
  intro M h6
  unfold f_X3_readExpression f_X3_readExpression_0
  rw [wp_bd]
  refine wp_mono (hT M h6) (fun r M1 q => ?_)
  rw [look_f (by rw [f6 q]; exact h6), bd_e, if_neg (by decide), if_neg (by decide), if_neg (by decide)]
  exact wp_s.mpr q
theorem tc_exB (hT : TC t L ev (T x1) B) (hTf : TF (T x1)) (hB : Ups L B) : TC t L ev (f_X3_readExpression T x1) (exB (lkp t L) B) :=
  tc_expr (tc_sum (tc_product (tc_signed hT) (sgn_up hB 40)) (prodP_up (sgn_up hB 40))) (tf_sum (tf_product (tf_signed hTf))) (sumP_up (prodP_up (sgn_up hB 40)))
theorem tf_exB (hTf : TF (T x1)) : TF (f_X3_readExpression T x1) := tf_expr (tf_sum (tf_product (tf_signed hTf)))
end LawD
theorem tf_rt : ∀ (k : Nat) (x1 : Int32), TF (f_X3_readThing (k + 1) x1) := fun k x1 => tf_thing (f_X3_readThing k) x1
theorem tc_rt {t : Nat → Nat} {L : Nat} {ev : Nat → Int32} : ∀ (k d : Nat), d ≤ 4 → 4 - d < k → TC t L ev (f_X3_readThing k (nI d)) (base (lkp t L) ev (4 - d))
  | k + 1, d, hd, hk => by
    refine tc_thing (T := f_X3_readThing k) (x1 := nI d) rfl hd (fun h => ?_) (fun h => ?_)
    · exact tc_exB (tc_rt k (d + 1) (by omega) (by omega)) (by
        obtain ⟨k', rfl⟩ : ∃ k', k = k' + 1 := ⟨k - 1, by omega⟩
        exact tf_rt k' _) (base_up _)
    · exact tf_exB (by
        obtain ⟨k', rfl⟩ : ∃ k', k = k' + 1 := ⟨k - 1, by omega⟩
        exact tf_rt k' _)
theorem tc_all {t : Nat → Nat} {L : Nat} {ev : Nat → Int32} : TC t L ev (f_X3_readExpression (f_X3_readThing RU) 0) (exB (lkp t L) (base (lkp t L) ev 4)) := tc_exB (tc_rt RU 0 (by decide) (by decide)) (tf_rt 99 _) (base_up 4)
/-- the whole text: no fault, or its place; the value -/
theorem readAll_ok {M : Mem} {t : Nat → Nat} {L : Nat} {ev : Nat → Int32} (hL : LC M t L ev) : wp (f_X3_readAll M) (fun v M' => Fr lwS M M' ∧ match evR t L ev with
    | .inl f => f < 2 ^ 30 ∧ M' 23 6 = nI f
    | .inr w => v = w.1 ∧ (if w.2 = L ∧ M 23 4 = 0 then M' 23 6 = -1 else M' 23 6 = nI w.2 ∧ w.2 < 2 ^ 30)) := by
  have l40 := hL.1
  unfold f_X3_readAll f_X3_readAll_0
  rw [wp_ml, wp_ml, wp_bd]
  have hF : Fr lwS M (up (up M 23 5 0) 23 6 (-1)) := (Fr.rf.up ⟨rfl, Or.inl rfl⟩).up ⟨rfl, Or.inr rfl⟩
  refine wp_mono (tc_all _ 0 (LC.fr hF hL) (by rw [up_col _ _ _ (by decide), up_self]; rfl) (up_self _ _ _ _) (Nat.zero_le _)) (fun r M1 q => ?_)
  unfold evR
  cases er : exB (lkp t L) (base (lkp t L) ev 4) 0 with
  | inl f =>
    rw [er] at q
    obtain ⟨q1, q2, q3⟩ := q
    rw [look_f (lq_nf q2 q3), bd_e, if_pos rfl]
    exact wp_s.mpr ⟨hF.tr q1, q2, q3⟩
  | inr w =>
    rw [er] at q
    obtain ⟨q1, q2, q3, q4⟩ := q
    have hw := (expr_up (sumP_up (prodP_up (sgn_up (base_up 4) 40))) 0 w.1 w.2 er).2 (Nat.zero_le _)
    have hL1 := LC.fr (hF.tr q1) hL
    have e4 : M1 23 4 = M 23 4 := (hF.tr q1) 23 4 (by unfold lwS; omega)
    by_cases hz : w.2 = L ∧ M 23 4 = 0
    · have hlook : f_X3_look M1 = some (-1, M1) := by
        unfold f_X3_look f_X3_look_0 f_X3_look_50 f_X3_look_63
        rw [q4, if_pos rfl, q3, if_neg (nI_pos (by omega)), hL1.2.1, if_neg (nI_nlt (by omega) (by omega)), e4, if_pos hz.2]
      rw [hlook, bd_e, if_pos rfl]
      unfold f_X3_readAll_28
      rw [wp_s]
      simp only [hz, and_self, if_true]
      exact ⟨hF.tr q1, q2, q4⟩
    · obtain ⟨x, ex, hx⟩ := look_ok hL1 q3 q4 (by omega)
      have hx1 : ¬ x = -1 := by
        intro z
        unfold f_X3_look f_X3_look_0 f_X3_look_50 f_X3_look_63 at ex
        rw [q4, if_pos rfl, q3, if_neg (nI_pos (by omega)), hL1.2.1] at ex
        by_cases hlt : w.2 < L
        · rcases hx with ⟨h1, h2⟩ | ⟨h1, h2⟩
          · rw [h2] at z; exact nI_neq (by omega) z
          · unfold lkp at h1
            rw [if_pos hlt] at h1
            have := (hL1.2.2.1 w.2 hlt).1
            omega
        · rw [if_neg (nI_nlt (by omega) (by omega)), if_neg (fun h => hz ⟨by omega, by rw [← e4]; exact h⟩)] at ex
          rw [z] at ex
          cases ex
      rw [ex, bd_e, if_neg hx1, fail_ok q3 q4, bd_e]
      unfold f_X3_readAll_28
      rw [wp_s]
      simp only [hz, if_false]
      exact ⟨(hF.tr q1).up ⟨rfl, Or.inr rfl⟩, q2, up_self _ _ _ _, by omega⟩
