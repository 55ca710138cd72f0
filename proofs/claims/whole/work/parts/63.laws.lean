/-! the reference reads the rule -/
section LawS
variable {t : Nat → Nat} {L : Nat} {ev : Nat → Int32} {T : Int32 → Mem → Option (Int32 × Mem)} {x1 : Int32} {lo : Nat}
theorem rp6_f {M : Mem} (n : Nat) (v : Int32) (h : ¬ M 174 19 = -1) : wp (f_X11_product_6 T (n + 1) x1 v M) (fun _ M' => Fr rd8 M M') := by
  unfold f_X11_product_6 f_X11_product_91
  rw [fine_f h, bd_e, if_pos rfl, wp_s]
  exact Fr.rf
theorem rp6_ok {S : Nat → PR} (hS : TR t L ev lo (T x1) S) (hU : Ups L S) : ∀ (k n : Nat) (v : Int32) (M : Mem) (p : Nat), RC M t L → EvR M ev → M 174 18 = nI p → M 174 19 = -1 → lo ≤ p → p ≤ L → L ≤ p + k → k < n → wp (f_X11_product_6 T n x1 v M) (RQ M (prodL (lkp t L) S k v p))
  | 0, n + 1, v, M, p, hL, hE, h8, h9, hlo, hp, hk, _ => by
    have l80 := hL.le
    unfold f_X11_product_6 f_X11_product_91
    obtain ⟨x, ex, hx⟩ := here_ok hL h8 (by omega)
    have hh : lkp t L p = 300 := lkp_hi (by omega)
    rw [fine_t h9, bd_e, if_neg (by decide), ex, bd_e, if_neg (show ¬ x = 42 from fun z => by have := (hx.eq (c := 42) (by decide)).mp z; omega), ex, bd_e, if_neg (show ¬ x = 47 from fun z => by have := (hx.eq (c := 47) (by decide)).mp z; omega), wp_s]
    exact ⟨Fr.rf, rfl, h8, h9⟩
  | k + 1, n + 1, v, M, p, hL, hE, h8, h9, hlo, hp, hk, hn => by
    have l80 := hL.le
    unfold f_X11_product_6
    obtain ⟨x, ex, hx⟩ := here_ok hL h8 (by omega)
    rw [fine_t h9, bd_e, if_neg (by decide), ex, bd_e]
    have go : ∀ c : Nat, (c = 42 ∨ c = 47) → lkp t L p = c → x = nI c → wp (f_X11_product_31 T (f_X11_product_6 T n) x1 v M) (RQ M (match S (p + 1) with
        | .inl f => .inl f
        | .inr w => prodL (lkp t L) S k (if c = 42 then v * w.1 else dv v w.1) w.2)) := by
      intro c hc e hxc
      have hlt : p < L := lkp_lo (t := t) (fun e => by omega)
      unfold f_X11_product_31
      rw [ex, bd_e]
      have go2 : ∀ t0 : Int32, t0 = b2i (c = 42) → wp (f_X11_product_45 T (f_X11_product_6 T n) x1 v t0 M) (RQ M (match S (p + 1) with
          | .inl f => .inl f
          | .inr w => prodL (lkp t L) S k (if c = 42 then v * w.1 else dv v w.1) w.2)) := by
        intro t0 ht0
        unfold f_X11_product_45 f_X11_product_87
        rw [wp_ml, wp_bd, h8, nI_1]
        refine wp_mono (hS _ (p + 1) (RC.fr r18 hL) (EvR.fr r18 hE) (up_self _ _ _ _) (by rw [up_col _ _ _ (by decide)]; exact h9) (by omega) (by omega)) (fun r M1 q => ?_)
        cases er : S (p + 1) with
        | inl f =>
          rw [er] at q
          obtain ⟨q1, q2, q3⟩ := q
          have h6' := rq_nf q2 q3
          obtain ⟨n', rfl⟩ : ∃ n', n = n' + 1 := ⟨n - 1, by omega⟩
          have fin : ∀ (y : Int32), wp (f_X11_product_6 T (n' + 1) x1 y M1) (RQ M (.inl f)) := fun y => wp_mono (rp6_f n' y h6') (fun r M' h => rq_fail (r18.tr q1) q2 q3 h)
          simp only [wp_if, wp_gd]
          exact ⟨fun _ => ⟨fun _ => fin _, fun h => ⟨h, fin _⟩⟩, fun _ => fin _⟩
        | inr w =>
          rw [er] at q
          obtain ⟨q1, q2, q3, q4⟩ := q
          have hw := hU (p + 1) w.1 w.2 er
          have next : ∀ y : Int32, wp (f_X11_product_6 T n x1 y M1) (RQ M (prodL (lkp t L) S k y w.2)) := fun y => wp_mono (rp6_ok hS hU k n y M1 w.2 (RC.fr (r18.tr q1) hL) (EvR.fr (r18.tr q1) hE) q3 q4 (by omega) (hw.2 (by omega)) (by omega) (by omega)) (fun r M' h => rq_tr (r18.tr q1) h)
          rw [q2, ht0]
          rcases hc with hc | hc
          · subst hc
            rw [b2i_t rfl, if_neg (by decide)]
            simp only [if_true]
            exact next _
          · subst hc
            rw [b2i_f (by decide), if_pos rfl]
            simp only [show ¬ (47 = 42) by decide, if_false]
            unfold dv
            by_cases hz : w.1 = 0
            · rw [if_pos hz, if_pos hz]; exact next _
            · rw [if_neg hz, if_neg hz, gd_t hz]; exact next _
      rcases hc with hc | hc
      · subst hc
        rw [if_pos (show x = 42 from hxc)]
        exact go2 1 (by rw [b2i_t rfl])
      · subst hc
        rw [if_neg (by rw [hxc]; decide)]
        exact go2 0 (by rw [b2i_f (by decide)])
    unfold prodL
    by_cases e : lkp t L p = 42
    · have hxe := (hx.eq (c := 42) (by decide)).mpr e
      rw [if_pos (show x = 42 from hxe), if_pos e]
      have := go 42 (Or.inl rfl) e hxe
      simp only [if_true] at this
      exact this
    · rw [if_neg (show ¬ x = 42 from fun z => e ((hx.eq (c := 42) (by decide)).mp z)), if_neg e, ex, bd_e]
      by_cases e2 : lkp t L p = 47
      · have hxe := (hx.eq (c := 47) (by decide)).mpr e2
        rw [if_pos (show x = 47 from hxe), if_pos e2]
        have := go 47 (Or.inr rfl) e2 hxe
        simp only [show ¬ (47 = 42) by decide, if_false] at this
        exact this
      · rw [if_neg (show ¬ x = 47 from fun z => e2 ((hx.eq (c := 47) (by decide)).mp z)), if_neg e2]
        unfold f_X11_product_91
        exact wp_s.mpr ⟨Fr.rf, rfl, h8, h9⟩
theorem tr_product {S : Nat → PR} (hL40 : L ≤ 40) (hS : TR t L ev lo (T x1) S) (hU : Ups L S) : TR t L ev lo (f_X11_product T x1) (prodP (lkp t L) S) := by
  intro M p hL hE h8 h9 hlo hp
  unfold f_X11_product f_X11_product_0 prodP
  rw [wp_bd]
  refine wp_mono (hS M p hL hE h8 h9 hlo hp) (fun r M1 q => ?_)
  cases er : S p with
  | inl f =>
    rw [er] at q
    obtain ⟨q1, q2, q3⟩ := q
    exact wp_mono (rp6_f 1999 _ (rq_nf q2 q3)) (fun r M' h => rq_fail q1 q2 q3 h)
  | inr w =>
    rw [er] at q
    obtain ⟨q1, q2, q3, q4⟩ := q
    have hw := hU p w.1 w.2 er
    rw [q2]
    exact wp_mono (rp6_ok hS hU 40 FU w.1 M1 w.2 (RC.fr q1 hL) (EvR.fr q1 hE) q3 q4 (by omega) (hw.2 hp) (by omega) (by decide)) (fun r M' h => rq_tr q1 h)
theorem trf_product (hT : TRf (T x1)) : TRf (f_X11_product T x1) := by
  intro M h
  unfold f_X11_product f_X11_product_0
  rw [wp_bd]
  exact wp_mono (hT M h) (fun r M1 q => wp_mono (rp6_f 1999 _ (by rw [f19 q]; exact h)) (fun r M' z => q.tr z))
theorem ru6_f {M : Mem} (n : Nat) (v : Int32) (h : ¬ M 174 19 = -1) : wp (f_X11_sum_6 T (n + 1) x1 v M) (fun _ M' => Fr rd8 M M') := by
  unfold f_X11_sum_6 f_X11_sum_82
  rw [fine_f h, bd_e, if_pos rfl, wp_s]
  exact Fr.rf
theorem ru6_ok {S : Nat → PR} (hS : TR t L ev lo (f_X11_product T x1) S) (hU : Ups L S) : ∀ (k n : Nat) (v : Int32) (M : Mem) (p : Nat), RC M t L → EvR M ev → M 174 18 = nI p → M 174 19 = -1 → lo ≤ p → p ≤ L → L ≤ p + k → k < n → wp (f_X11_sum_6 T n x1 v M) (RQ M (sumL (lkp t L) S k v p))
  | 0, n + 1, v, M, p, hL, hE, h8, h9, hlo, hp, hk, _ => by
    have l80 := hL.le
    unfold f_X11_sum_6 f_X11_sum_82
    obtain ⟨x, ex, hx⟩ := here_ok hL h8 (by omega)
    have hh : lkp t L p = 300 := lkp_hi (by omega)
    rw [fine_t h9, bd_e, if_neg (by decide), ex, bd_e, if_neg (show ¬ x = 43 from fun z => by have := (hx.eq (c := 43) (by decide)).mp z; omega), ex, bd_e, if_neg (show ¬ x = 45 from fun z => by have := (hx.eq (c := 45) (by decide)).mp z; omega), wp_s]
    exact ⟨Fr.rf, rfl, h8, h9⟩
  | k + 1, n + 1, v, M, p, hL, hE, h8, h9, hlo, hp, hk, hn => by
    have l80 := hL.le
    unfold f_X11_sum_6
    obtain ⟨x, ex, hx⟩ := here_ok hL h8 (by omega)
    rw [fine_t h9, bd_e, if_neg (by decide), ex, bd_e]
    have go : ∀ c : Nat, (c = 43 ∨ c = 45) → lkp t L p = c → x = nI c → wp (f_X11_sum_31 T (f_X11_sum_6 T n) x1 v M) (RQ M (match S (p + 1) with
        | .inl f => .inl f
        | .inr w => sumL (lkp t L) S k (if c = 43 then v + w.1 else v - w.1) w.2)) := by
      intro c hc e hxc
      have hlt : p < L := lkp_lo (t := t) (fun e => by omega)
      unfold f_X11_sum_31
      rw [ex, bd_e]
      have go2 : ∀ t0 : Int32, t0 = b2i (c = 43) → wp (f_X11_sum_45 T (f_X11_sum_6 T n) x1 v t0 M) (RQ M (match S (p + 1) with
          | .inl f => .inl f
          | .inr w => sumL (lkp t L) S k (if c = 43 then v + w.1 else v - w.1) w.2)) := by
        intro t0 ht0
        unfold f_X11_sum_45 f_X11_sum_78
        rw [wp_ml, wp_bd, h8, nI_1]
        refine wp_mono (hS _ (p + 1) (RC.fr r18 hL) (EvR.fr r18 hE) (up_self _ _ _ _) (by rw [up_col _ _ _ (by decide)]; exact h9) (by omega) (by omega)) (fun r M1 q => ?_)
        cases er : S (p + 1) with
        | inl f =>
          rw [er] at q
          obtain ⟨q1, q2, q3⟩ := q
          have h6' := rq_nf q2 q3
          obtain ⟨n', rfl⟩ : ∃ n', n = n' + 1 := ⟨n - 1, by omega⟩
          have fin : ∀ (y : Int32), wp (f_X11_sum_6 T (n' + 1) x1 y M1) (RQ M (.inl f)) := fun y => wp_mono (ru6_f n' y h6') (fun r M' h => rq_fail (r18.tr q1) q2 q3 h)
          simp only [wp_if]
          exact ⟨fun _ => fin _, fun _ => fin _⟩
        | inr w =>
          rw [er] at q
          obtain ⟨q1, q2, q3, q4⟩ := q
          have hw := hU (p + 1) w.1 w.2 er
          have next : ∀ y : Int32, wp (f_X11_sum_6 T n x1 y M1) (RQ M (sumL (lkp t L) S k y w.2)) := fun y => wp_mono (ru6_ok hS hU k n y M1 w.2 (RC.fr (r18.tr q1) hL) (EvR.fr (r18.tr q1) hE) q3 q4 (by omega) (hw.2 (by omega)) (by omega) (by omega)) (fun r M' h => rq_tr (r18.tr q1) h)
          rw [q2, ht0]
          rcases hc with hc | hc
          · subst hc
            rw [b2i_t rfl, if_neg (by decide)]
            simp only [if_true]
            exact next _
          · subst hc
            rw [b2i_f (by decide), if_pos rfl]
            simp only [show ¬ (45 = 43) by decide, if_false]
            exact next _
      rcases hc with hc | hc
      · subst hc
        rw [if_pos (show x = 43 from hxc)]
        exact go2 1 (by rw [b2i_t rfl])
      · subst hc
        rw [if_neg (by rw [hxc]; decide)]
        exact go2 0 (by rw [b2i_f (by decide)])
    unfold sumL
    by_cases e : lkp t L p = 43
    · have hxe := (hx.eq (c := 43) (by decide)).mpr e
      rw [if_pos (show x = 43 from hxe), if_pos e]
      have := go 43 (Or.inl rfl) e hxe
      simp only [if_true] at this
      exact this
    · rw [if_neg (show ¬ x = 43 from fun z => e ((hx.eq (c := 43) (by decide)).mp z)), if_neg e, ex, bd_e]
      by_cases e2 : lkp t L p = 45
      · have hxe := (hx.eq (c := 45) (by decide)).mpr e2
        rw [if_pos (show x = 45 from hxe), if_pos e2]
        have := go 45 (Or.inr rfl) e2 hxe
        simp only [show ¬ (45 = 43) by decide, if_false] at this
        exact this
      · rw [if_neg (show ¬ x = 45 from fun z => e2 ((hx.eq (c := 45) (by decide)).mp z)), if_neg e2]
        unfold f_X11_sum_82
        exact wp_s.mpr ⟨Fr.rf, rfl, h8, h9⟩
theorem tr_sum {S : Nat → PR} (hL40 : L ≤ 40) (hS : TR t L ev lo (f_X11_product T x1) S) (hU : Ups L S) : TR t L ev lo (f_X11_sum T x1) (sumP (lkp t L) S) := by
  intro M p hL hE h8 h9 hlo hp
  unfold f_X11_sum f_X11_sum_0 sumP
  rw [wp_bd]
  refine wp_mono (hS M p hL hE h8 h9 hlo hp) (fun r M1 q => ?_)
  cases er : S p with
  | inl f =>
    rw [er] at q
    obtain ⟨q1, q2, q3⟩ := q
    exact wp_mono (ru6_f 1999 _ (rq_nf q2 q3)) (fun r M' h => rq_fail q1 q2 q3 h)
  | inr w =>
    rw [er] at q
    obtain ⟨q1, q2, q3, q4⟩ := q
    have hw := hU p w.1 w.2 er
    rw [q2]
    exact wp_mono (ru6_ok hS hU 40 FU w.1 M1 w.2 (RC.fr q1 hL) (EvR.fr q1 hE) q3 q4 (by omega) (hw.2 hp) (by omega) (by decide)) (fun r M' h => rq_tr q1 h)
theorem trf_sum (hT : TRf (f_X11_product T x1)) : TRf (f_X11_sum T x1) := by
  intro M h
  unfold f_X11_sum f_X11_sum_0
  rw [wp_bd]
  exact wp_mono (hT M h) (fun r M1 q => wp_mono (ru6_f 1999 _ (by rw [f19 q]; exact h)) (fun r M' z => q.tr z))
theorem tr_held {S : Nat → PR} (hS : TR t L ev lo (f_X11_sum T x1) S) (hU : Ups L S) : TR t L ev lo (f_X11_held T x1) (expr (lkp t L) S) := by
  intro M p hL hE h8 h9 hlo hp
  have l80 := hL.le
  unfold f_X11_held f_X11_held_0 expr
  rw [wp_bd]
  refine wp_mono (hS M p hL hE h8 h9 hlo hp) (fun r M1 q => ?_)
  cases er : S p with
  | inl f =>
    rw [er] at q
    obtain ⟨q1, q2, q3⟩ := q
    have hn := rq_nf q2 q3
    rw [pass_f hn, bd_e, if_pos rfl, pass_f hn, bd_e, if_pos rfl, pass_f hn, bd_e, if_pos rfl]
    exact wp_s.mpr ⟨q1, q2, q3⟩
  | inr w =>
    rw [er] at q
    obtain ⟨q1, q2, q3, q4⟩ := q
    have hw := hU p w.1 w.2 er
    have hwL := hw.2 hp
    have hL1 := RC.fr q1 hL
    have hE1 := EvR.fr q1 hE
    have sec : w.2 < L → wp (f_X11_sum T x1 (up M1 174 18 (nI (w.2 + 1)))) (RQ M (S (w.2 + 1))) := fun hlt => wp_mono (hS _ (w.2 + 1) (RC.fr r18 hL1) (EvR.fr r18 hE1) (up_self _ _ _ _) (by rw [up_col _ _ _ (by decide)]; exact q4) (by omega) (by omega)) (fun r M' h => rq_tr (q1.tr r18) h)
    rw [show f_X11_passes 60 M1 = _ from pass_ok (c := 60) hL1 q3 q4 (by omega) (by decide), q2]
    by_cases e1 : lkp t L w.2 = 60
    · have hlt : w.2 < L := lkp_lo (t := t) (fun e => by omega)
      rw [if_pos e1, bd_e, if_neg (by decide), wp_bd]
      simp only [e1, show isCm 60 = true from rfl, if_true]
      refine wp_mono (sec hlt) (fun r2 M2 z => ?_)
      unfold f_X11_held_29
      cases er2 : S (w.2 + 1) with
      | inl f =>
        rw [er2] at z
        rw [wp_if]
        exact ⟨fun _ => wp_s.mpr z, fun _ => wp_s.mpr z⟩
      | inr y =>
        rw [er2] at z
        obtain ⟨z1, z2, z3, z4⟩ := z
        rw [z2]
        by_cases hh : w.1 < y.1
        · rw [if_pos hh]; exact wp_s.mpr ⟨z1, by unfold cmpV; rw [if_pos rfl, b2i_t hh], z3, z4⟩
        · rw [if_neg hh]; exact wp_s.mpr ⟨z1, by unfold cmpV; rw [if_pos rfl, b2i_f hh], z3, z4⟩
    · rw [if_neg e1, bd_e, if_pos rfl, show f_X11_passes 62 M1 = _ from pass_ok (c := 62) hL1 q3 q4 (by omega) (by decide)]
      by_cases e2 : lkp t L w.2 = 62
      · have hlt : w.2 < L := lkp_lo (t := t) (fun e => by omega)
        rw [if_pos e2, bd_e, if_neg (by decide), wp_bd]
        simp only [e2, show isCm 62 = true from rfl, if_true]
        refine wp_mono (sec hlt) (fun r2 M2 z => ?_)
        unfold f_X11_held_53
        cases er2 : S (w.2 + 1) with
        | inl f =>
          rw [er2] at z
          rw [wp_if]
          exact ⟨fun _ => wp_s.mpr z, fun _ => wp_s.mpr z⟩
        | inr y =>
          rw [er2] at z
          obtain ⟨z1, z2, z3, z4⟩ := z
          rw [z2]
          by_cases hh : y.1 < w.1
          · rw [if_pos hh]; exact wp_s.mpr ⟨z1, by unfold cmpV; rw [if_neg (by decide), if_pos rfl, b2i_t hh], z3, z4⟩
          · rw [if_neg hh]; exact wp_s.mpr ⟨z1, by unfold cmpV; rw [if_neg (by decide), if_pos rfl, b2i_f hh], z3, z4⟩
      · rw [if_neg e2, bd_e, if_pos rfl, show f_X11_passes 61 M1 = _ from pass_ok (c := 61) hL1 q3 q4 (by omega) (by decide)]
        by_cases e3 : lkp t L w.2 = 61
        · have hlt : w.2 < L := lkp_lo (t := t) (fun e => by omega)
          rw [if_pos e3, bd_e, if_neg (by decide), wp_bd]
          simp only [e3, show isCm 61 = true from rfl, if_true]
          refine wp_mono (sec hlt) (fun r2 M2 z => ?_)
          unfold f_X11_held_77
          cases er2 : S (w.2 + 1) with
          | inl f =>
            rw [er2] at z
            rw [wp_if]
            exact ⟨fun _ => wp_s.mpr z, fun _ => wp_s.mpr z⟩
          | inr y =>
            rw [er2] at z
            obtain ⟨z1, z2, z3, z4⟩ := z
            rw [z2]
            by_cases hh : w.1 = y.1
            · rw [if_pos hh]; exact wp_s.mpr ⟨z1, by unfold cmpV; rw [if_neg (by decide), if_neg (by decide), b2i_t hh], z3, z4⟩
            · rw [if_neg hh]; exact wp_s.mpr ⟨z1, by unfold cmpV; rw [if_neg (by decide), if_neg (by decide), b2i_f hh], z3, z4⟩
        · rw [if_neg e3, bd_e, if_pos rfl]
          have hn : ¬ isCm (lkp t L w.2) = true := by unfold isCm; simp [e1, e2, e3]
          simp only [hn]
          exact wp_s.mpr ⟨q1, rfl, q3, q4⟩
theorem trf_held (hT : TRf (f_X11_sum T x1)) : TRf (f_X11_held T x1) := by
  intro M h
  unfold f_X11_held f_X11_held_0
  rw [wp_bd]
  refine wp_mono (hT M h) (fun r M1 q => ?_)
  have hn : ¬ M1 174 19 = -1 := by rw [f19 q]; exact h
  rw [pass_f hn, bd_e, if_pos rfl, pass_f hn, bd_e, if_pos rfl, pass_f hn, bd_e, if_pos rfl]
  exact wp_s.mpr q
theorem tr_exB {B : Nat → PR} (hL40 : L ≤ 40) (hT : TR t L ev lo (T x1) (sgn (lkp t L) B 40)) (hB : Ups L B) : TR t L ev lo (f_X11_held T x1) (exB (lkp t L) B) :=
  tr_held (tr_sum hL40 (tr_product hL40 hT (sgn_up hB 40)) (prodP_up (sgn_up hB 40))) (sumP_up (prodP_up (sgn_up hB 40)))
theorem trf_exB (hT : TRf (T x1)) : TRf (f_X11_held T x1) := trf_held (trf_sum (trf_product hT))
theorem th141 {M : Mem} {p c : Nat} (hE : EvR M ev) (h8 : M 174 18 = nI p) (h9 : M 174 19 = -1) (hc : isLt c = true) : wp (f_X11_thing_141 T (nI c) M) (RQ M (.inr (ev c, p + 1))) := by
  unfold f_X11_thing_141 f_X11_thing_167
  have e23 : up M 174 18 (M 174 18 + 1) 174 23 = M 174 23 := up_col _ _ _ (by decide)
  have post : RQ M (.inr (ev c, p + 1)) (ev c) (up M 174 18 (M 174 18 + 1)) := ⟨r18, rfl, by rw [up_self, h8, nI_1], by rw [up_col _ _ _ (by decide)]; exact h9⟩
  rw [wp_ml, e23]
  rcases hE with ⟨h1, h2⟩ | ⟨h1, h2⟩
  · rw [if_pos h1, wp_s, ← h2 c]
    exact post
  · rw [if_neg h1, h2 _ r18 c hc, bd_e, wp_s]
    exact post
theorem th78 {M : Mem} {p : Nat} {x : Int32} (hL : RC M t L) (hE : EvR M ev) (h8 : M 174 18 = nI p) (h9 : M 174 19 = -1) (hp : p ≤ L) (hx : Sg x (lkp t L p)) : wp (f_X11_thing_78 T x M) (RQ M (prim (lkp t L) ev p)) := by
  have l80 := hL.le
  unfold f_X11_thing_78 prim
  rw [show f_X11_in x 48 57 M = some (b2i (48 ≤ lkp t L p ∧ lkp t L p ≤ 57), M) from in_sg (lo := 48) (hi := 57) hx (by decide) (by decide) M, bd_e]
  by_cases h : isDg (lkp t L p) = true
  · have h2 := isDg_i.mp h
    rw [b2i_t (by omega), if_neg (by decide), if_pos h, wp_bd]
    have hn := number_ok (D := 3) (by decide) (by decide) hL h8 h9 hp
    unfold numP at hn
    rw [if_pos h] at hn
    exact wp_mono hn (fun r M' q => wp_s.mpr q)
  · have h2 : ¬ (48 ≤ lkp t L p ∧ lkp t L p ≤ 57) := fun z => h (isDg_i.mpr ⟨by omega, by omega⟩)
    rw [b2i_f h2, if_pos rfl, if_neg h]
    have q : ∀ k : Nat, k < 256 → (x = nI k ↔ lkp t L p = k) := fun k hk => hx.eq hk
    by_cases e1 : lkp t L p = 115
    · have hxe := (q 115 (by decide)).mpr e1
      rw [if_pos (show x = 115 from hxe), hxe, e1, if_pos (by decide)]
      exact th141 hE h8 h9 (by decide)
    rw [if_neg (show ¬ x = 115 from fun z => e1 ((q 115 (by decide)).mp z))]
    by_cases e2 : lkp t L p = 122
    · have hxe := (q 122 (by decide)).mpr e2
      rw [if_pos (show x = 122 from hxe), hxe, e2, if_pos (by decide)]
      exact th141 hE h8 h9 (by decide)
    rw [if_neg (show ¬ x = 122 from fun z => e2 ((q 122 (by decide)).mp z))]
    by_cases e3 : lkp t L p = 114
    · have hxe := (q 114 (by decide)).mpr e3
      rw [if_pos (show x = 114 from hxe), hxe, e3, if_pos (by decide)]
      exact th141 hE h8 h9 (by decide)
    rw [if_neg (show ¬ x = 114 from fun z => e3 ((q 114 (by decide)).mp z))]
    by_cases e4 : lkp t L p = 105
    · have hxe := (q 105 (by decide)).mpr e4
      rw [if_pos (show x = 105 from hxe), hxe, e4, if_pos (by decide)]
      exact th141 hE h8 h9 (by decide)
    rw [if_neg (show ¬ x = 105 from fun z => e4 ((q 105 (by decide)).mp z))]
    by_cases e5 : lkp t L p = 99
    · have hxe := (q 99 (by decide)).mpr e5
      rw [if_pos (show x = 99 from hxe), hxe, e5, if_pos (by decide)]
      exact th141 hE h8 h9 (by decide)
    rw [if_neg (show ¬ x = 99 from fun z => e5 ((q 99 (by decide)).mp z))]
    by_cases e6 : lkp t L p = 111
    · have hxe := (q 111 (by decide)).mpr e6
      rw [if_pos (show x = 111 from hxe), hxe, e6, if_pos (by decide)]
      exact th141 hE h8 h9 (by decide)
    rw [if_neg (show ¬ x = 111 from fun z => e6 ((q 111 (by decide)).mp z)), if_neg (by unfold isLt; simp [e1, e2, e3, e4, e5, e6]), fault_t h9, bd_e, wp_s, h8]
    exact ⟨r19, by omega, up_self _ _ _ _⟩
theorem tr_thing {d : Nat} (hL40 : L ≤ 40) (hx1 : x1 = nI d) (hd : d ≤ 4) {hi : Nat} (hlh : hi ≤ lo + 1) (hT : TR t L ev hi (T x1) (sgn (lkp t L) (base (lkp t L) ev (4 - d)) 40)) (hE : d < 4 → TR t L ev hi (f_X11_held T (nI (d + 1))) (exB (lkp t L) (base (lkp t L) ev (4 - (d + 1))))) : TR t L ev lo (b_X11_thing T x1) (sgn (lkp t L) (base (lkp t L) ev (4 - d)) 40) := by
  intro M p hL hEv h8 h9 hlo hp
  have l80 := hL.le
  unfold b_X11_thing f_X11_thing_0
  rw [show f_X11_passes 45 M = _ from pass_ok (c := 45) hL h8 h9 (by omega) (by decide)]
  by_cases e45 : lkp t L p = 45
  · have hlt : p < L := lkp_lo (t := t) (fun e => by omega)
    rw [if_pos e45, bd_e, if_neg (by decide), wp_bd]
    have es : sgn (lkp t L) (base (lkp t L) ev (4 - d)) 40 p = ng true (sgn (lkp t L) (base (lkp t L) ev (4 - d)) 40 (p + 1)) := by
      rw [sgn_more 40 39 (p + 1) (by omega) (by omega)]
      conv => lhs; unfold sgn
      rw [if_pos e45]
      cases sgn (lkp t L) (base (lkp t L) ev (4 - d)) 39 (p + 1) with
      | inl f => rfl
      | inr w => rfl
    rw [es]
    refine wp_mono (hT _ (p + 1) (RC.fr r18 hL) (EvR.fr r18 hEv) (up_self _ _ _ _) (by rw [up_col _ _ _ (by decide)]; exact h9) (by omega) (by omega)) (fun r M1 q => ?_)
    cases er : sgn (lkp t L) (base (lkp t L) ev (4 - d)) 40 (p + 1) with
    | inl f =>
      rw [er] at q
      exact wp_s.mpr (rq_tr r18 q)
    | inr w =>
      rw [er] at q
      obtain ⟨q1, q2, q3, q4⟩ := q
      rw [q2]
      exact wp_s.mpr ⟨r18.tr q1, rfl, q3, q4⟩
  · have es : sgn (lkp t L) (base (lkp t L) ev (4 - d)) 40 p = base (lkp t L) ev (4 - d) p := by
      conv => lhs; unfold sgn
      rw [if_neg e45]
    obtain ⟨x, ex, hx⟩ := here_ok hL h8 (by omega)
    rw [if_neg e45, bd_e, if_pos rfl, fine_t h9, bd_e, if_neg (by decide), ex, bd_e, es]
    by_cases e40 : lkp t L p = 40
    · have hlt : p < L := lkp_lo (t := t) (fun e => by omega)
      rw [if_pos (show x = 40 from (hx.eq (c := 40) (by decide)).mpr e40), hx1]
      by_cases hd4 : d < 4
      · rw [if_pos (show nI d < 4 from nI_lt (b := 4) hd4 (by decide)), wp_ml, h8, nI_1, wp_bd, nI_1]
        have hb : base (lkp t L) ev (4 - d) p = match exB (lkp t L) (base (lkp t L) ev (4 - (d + 1))) (p + 1) with
            | .inl f => .inl f
            | .inr w => if lkp t L w.2 = 41 then .inr (w.1, w.2 + 1) else .inl w.2 := by
          rw [show 4 - d = (4 - (d + 1)) + 1 by omega]
          conv => lhs; unfold base
          rw [if_pos e40]
          rfl
        rw [hb]
        refine wp_mono (hE hd4 _ (p + 1) (RC.fr r18 hL) (EvR.fr r18 hEv) (up_self _ _ _ _) (by rw [up_col _ _ _ (by decide)]; exact h9) (by omega) (by omega)) (fun r M1 q => ?_)
        unfold f_X11_thing_76
        cases er : exB (lkp t L) (base (lkp t L) ev (4 - (d + 1))) (p + 1) with
        | inl f =>
          rw [er] at q
          obtain ⟨q1, q2, q3⟩ := q
          have hn := rq_nf q2 q3
          rw [pass_f hn, bd_e, if_pos rfl, fault_f hn, bd_e]
          exact wp_s.mpr ⟨r18.tr q1, q2, q3⟩
        | inr w =>
          rw [er] at q
          obtain ⟨q1, q2, q3, q4⟩ := q
          have hw := expr_up (sumP_up (prodP_up (sgn_up (base_up (4 - (d + 1))) 40))) (p + 1) w.1 w.2 er
          have hw2 := hw.2 (by omega)
          rw [show f_X11_passes 41 M1 = _ from pass_ok (c := 41) (RC.fr (r18.tr q1) hL) q3 q4 (by omega) (by decide)]
          by_cases e41 : lkp t L w.2 = 41
          · rw [if_pos e41, bd_e, if_neg (by decide)]
            simp only [e41, if_true]
            exact wp_s.mpr ⟨(r18.tr q1).tr r18, q2, up_self _ _ _ _, by rw [up_col _ _ _ (by decide)]; exact q4⟩
          · rw [if_neg e41, bd_e, if_pos rfl, fault_t q4, bd_e, q3]
            simp only [e41, if_false]
            exact wp_s.mpr ⟨(r18.tr q1).tr r19, by omega, up_self _ _ _ _⟩
      · rw [if_neg (show ¬ nI d < 4 from nI_nlt (b := 4) (by omega) (by omega)), show 4 - d = 0 by omega]
        exact th78 hL hEv h8 h9 hp hx
    · rw [if_neg (show ¬ x = 40 from fun z => e40 ((hx.eq (c := 40) (by decide)).mp z))]
      have hb : base (lkp t L) ev (4 - d) p = prim (lkp t L) ev p := by
        cases 4 - d with
        | zero => rfl
        | succ n => unfold base; rw [if_neg e40]
      rw [hb]
      exact th78 hL hEv h8 h9 hp hx
theorem trf_thing : TRf (b_X11_thing T x1) := by
  intro M h
  unfold b_X11_thing f_X11_thing_0
  rw [pass_f h, bd_e, if_pos rfl, fine_f h, bd_e, if_pos rfl, wp_s]
  exact Fr.rf
end LawS
theorem tr_rt {t : Nat → Nat} {L : Nat} {ev : Nat → Int32} (hL40 : L ≤ 40) : ∀ (k d : Nat), d ≤ 4 → TR t L ev (L + 1 - k) (f_X11_thing k (nI d)) (sgn (lkp t L) (base (lkp t L) ev (4 - d)) 40)
  | 0, d, _ => by
    intro M p _ _ _ _ h1 h2
    omega
  | k + 1, d, hd => tr_thing (T := f_X11_thing k) (x1 := nI d) (lo := L + 1 - (k + 1)) (hi := L + 1 - k) hL40 rfl hd (by omega) (tr_rt hL40 k d hd) (fun h => tr_exB hL40 (tr_rt hL40 k (d + 1) (by omega)) (base_up _))
theorem tr_all {t : Nat → Nat} {L : Nat} {ev : Nat → Int32} (hL40 : L ≤ 40) : TR t L ev 0 (f_X11_held (f_X11_thing RU) 0) (exB (lkp t L) (base (lkp t L) ev 4)) := by
  have h := tr_exB (x1 := 0) hL40 (tr_rt (t := t) (L := L) (ev := ev) hL40 RU 0 (by decide)) (base_up 4)
  rw [show L + 1 - RU = 0 by show L + 1 - 100 = 0; omega] at h
  exact h
