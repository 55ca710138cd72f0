/-! order: both agree -/
theorem st_order {N : Nat} {M : Mem} (hN : N < 512) (h : Cpl N M) : Both N f_X10_order f_X11_order M := by
  obtain ⟨⟨C, σ, hI⟩, hR⟩ := h
  obtain ⟨a1, a2, a3, a4, a5, a6, a7, a8, a9, -⟩ := id hI
  have c2 := a1.2.1
  have hB : σ.2.2.2.2 < 2 ^ 29 := by omega
  obtain ⟨L, l80, e1, e2, ht⟩ := a9.tl
  have hO0 : OtI (txN M) C.2.1 [] := ⟨List.nodup_nil, (fun g hg => by cases hg), (fun j g e => by cases e)⟩
  obtain ⟨ok1, ok2⟩ := ot_ok (t := txN M) (c := C.2.1) L 0 [] hO0 rfl
  have hF1 : Fr (fun i k => i = 1 ∧ k = 2) M (up M 1 2 80) := Fr.up (S := fun i k => i = 1 ∧ k = 2) Fr.rf ⟨rfl, rfl⟩
  have hT1 : TX (up M 1 2 80) (txN M) L 80 := ⟨l80, by decide, by rw [up_col _ _ _ (by decide)]; exact e1, up_self _ _ _ _, fun k hk => ⟨(ht k hk).1, (hF1 2 k (by omega)).trans (ht k hk).2.1⟩⟩
  have hM1 : CfC (up M 1 2 80) C := a5.eq2 c2 (fun i k q => hF1 i k (by unfold cHo at q; omega))
  have fo : f_X10_faultOfOrder M = some ((match ot (txN M) C.2.1 L 0 [] with
      | .inl f => nI f
      | .inr _ => if L = 0 then 0 else -1), up M 1 2 80) := by
    unfold f_X10_faultOfOrder f_X10_faultOfOrder_0
    have := foo13 a1 hM1 hT1 L 0 FU [] (by omega) (by show L < 2000; omega) (fun g hg => by cases hg)
    rw [show bI (lb []) = 0 from by decide] at this
    exact this
  -- the reference, behind the class
  have pre : ∀ Mc : Mem, Fr (fun i k => scr i k ∨ (i = 1 ∧ k = 1)) M Mc → Mc 1 1 = 0 → Fr scr (Mz M) (up (up Mc 174 14 0) 174 11 0) := by
    intro Mc hc h11 i k hn
    rw [up_at, up_at]
    by_cases g2 : i = 174 ∧ k = 11
    · rw [if_pos g2]
      unfold Mz
      rw [g2.1, g2.2, up_self]
    · rw [if_neg g2]
      have g14 : ¬ (i = 174 ∧ k = 14) := fun z => hn (by rw [z.1, z.2]; unfold scr scr0; omega)
      rw [if_neg g14]
      by_cases g1 : i = 1 ∧ k = 1
      · unfold Mz
        rw [g1.1, g1.2, up_row _ _ _ (by decide), up_self]; exact h11
      · rw [Mz_at M i k g1 g2]
        exact hc i k (fun z => z.elim hn g1)
  have pre0 : ∀ Mc : Mem, Fr (fun i k => scr0 i k ∨ (i = 1 ∧ k = 1)) M Mc → Mc 1 1 = 0 → Fr scr0 (Mz M) (up (up Mc 174 14 0) 174 11 0) := by
    intro Mc hc h11 i k hn
    rw [up_at, up_at]
    by_cases g2 : i = 174 ∧ k = 11
    · rw [if_pos g2]
      unfold Mz
      rw [g2.1, g2.2, up_self]
    · rw [if_neg g2]
      have g14 : ¬ (i = 174 ∧ k = 14) := fun z => hn (by rw [z.1, z.2]; unfold scr0; omega)
      rw [if_neg g14]
      by_cases g1 : i = 1 ∧ k = 1
      · unfold Mz
        rw [g1.1, g1.2, up_row _ _ _ (by decide), up_self]; exact h11
      · rw [Mz_at M i k g1 g2]
        exact hc i k (fun z => z.elim hn g1)
  have run : ∀ (Mc : Mem) (Q : Int32 → Mem → Prop), (∀ i k, 174 ≤ i → Mc i k = M i k) → (∀ f M', ot (txN M) C.2.1 L 0 [] = .inl f → Fr orF (up (up Mc 174 14 0) 174 11 0) M' → Q (-1 - nI f) M') → (∀ l' M' n', ot (txN M) C.2.1 L 0 [] = .inr l' → Ar (M' 192) l' → Fr orF (up (up Mc 174 14 0) 174 11 0) M' → wp (f_X11_order_19 (n' + 1) (nI L) (bI (lb l')) (nI L) M') Q) → wp (f_X11_order Mc) Q := by
    intro Mc Q ge q1 q2
    unfold f_X11_order f_X11_order_0
    rw [wp_ml, wp_vl, up_col _ _ _ (by decide), ge 174 11 (by decide), e2, wp_ml]
    have key := ref19 (t := txN M) (M0 := up (up Mc 174 14 0) 174 11 0) (Q := Q) a1 l80 L 0 FU (up (up Mc 174 14 0) 174 11 0) [] (by omega) (by show L < 2000; omega) rfl hO0 (by rw [up_col _ _ _ (by decide), up_col _ _ _ (by decide), ge 174 3 (by decide)]; exact a6.2.1) (fun j hj => ⟨(ht j hj).1, by rw [up_row _ _ _ (by decide), up_row _ _ _ (by decide), ge 183 j (by decide)]; exact (ht j hj).2.2⟩) (fun j g e => by cases e) Fr.rf q1 q2
    rw [show bI (lb []) = 0 from by decide] at key
    exact key
  unfold Both f_X10_order f_X10_order_0
  rw [fo, bd_e]
  cases eo : ot (txN M) C.2.1 L 0 [] with
  | inl f =>
    have hf := ok2 f eo
    show wp (if nI f = -1 then _ else _) _
    rw [if_neg (nI_neq (by omega))]
    unfold f_X10_order_21
    rw [wp_ml, if_neg (nI_neq (by omega)), wp_s]
    have hc : Fr (fun i k => scr0 i k ∨ (i = 1 ∧ k = 1)) M (up (up M 1 2 80) 1 1 0) := Fr.up (hF1.mn (fun i k z => Or.inl (by unfold scr0; omega))) (Or.inr ⟨rfl, rfl⟩)
    refine run _ _ (fun i k hi => by rw [up_row _ _ _ (by omega), up_row _ _ _ (by omega)]) (fun f' M' ef hF' => ?_) (fun l' M' n' el => by rw [eo] at el; cases el)
    rw [eo] at ef
    cases ef
    refine ⟨rfl, z_same hI hN hR ((pre0 _ hc (up_self _ _ _ _)).tr (hF'.mn (fun i k z => s0_9x (by unfold orF at z; omega))))⟩
  | inr l =>
    obtain ⟨hO, hlen⟩ := ok1 l eo
    rw [Nat.zero_add] at hlen
    have h6 := nd_len c2 hO.1 hO.2.1
    by_cases hL0 : L = 0
    · show wp (if (if L = 0 then (0 : Int32) else -1) = -1 then _ else _) _
      rw [if_pos hL0, if_neg (by decide)]
      unfold f_X10_order_21
      rw [wp_ml, if_neg (show ¬ (0 : Int32) = -1 by decide), wp_s]
      have hc : Fr (fun i k => scr0 i k ∨ (i = 1 ∧ k = 1)) M (up (up M 1 2 80) 1 1 0) := Fr.up (hF1.mn (fun i k z => Or.inl (by unfold scr0; omega))) (Or.inr ⟨rfl, rfl⟩)
      refine run _ _ (fun i k hi => by rw [up_row _ _ _ (by omega), up_row _ _ _ (by omega)]) (fun f' M' ef => by rw [eo] at ef; cases ef) (fun l' M' n' el hA hF' => ?_)
      unfold f_X11_order_19
      rw [if_neg (nI_nlt (Nat.le_refl _) (by omega)), if_pos (show nI L = 0 by rw [hL0]; rfl), wp_s]
      exact ⟨show (-1 : Int32) = -1 - 0 by decide, z_same hI hN hR ((pre0 _ hc (up_self _ _ _ _)).tr (hF'.mn (fun i k z => s0_9x (by unfold orF at z; omega))))⟩
    · have hnL : ¬ nI L = 0 := fun w => hL0 ((nI_eq (b := 0) (by omega) (by decide)).mp w)
      show wp (if (if L = 0 then (0 : Int32) else -1) = -1 then _ else _) _
      rw [if_neg hL0, if_pos rfl]
      unfold f_X5_take f_X5_take_0
      have esz : (if up M 1 2 80 1 1 < (6 : Int32) then up M 1 2 80 1 1 else 6) = nI L := by
        rw [hT1.2.2.1]
        by_cases z : L < 6
        · rw [if_pos (show nI L < 6 from nI_lt (b := 6) z (by decide))]
        · have : L = 6 := by omega
          subst this; rfl
      rw [wp_bd, wp_vl, esz, wp_ml]
      have hF2 : Fr (fun i k => i = 124 ∧ k = 1) (up M 1 2 80) (up (up M 1 2 80) 124 1 (nI L)) := Fr.up (S := fun i k => i = 124 ∧ k = 1) Fr.rf ⟨rfl, rfl⟩
      refine wp_mono (take15 c2 hO hlen L 0 FU _ (by omega) (by show L < 2000; omega) (hT1.fr (fun i k hi => hF2 i k (by omega))) (up_self _ _ _ _) (fun k g e => by rw [List.take_zero] at e; cases e)) (fun _ M3 w => ?_)
      obtain ⟨w1, w2⟩ := w
      unfold f_X10_order_21
      rw [wp_ml, if_pos rfl]
      have hF4 : Fr (fun i k => (i = 1 ∧ (k = 1 ∨ k = 2)) ∨ i = 124 ∨ i = 125) M (up M3 1 1 0) := Fr.up (((hF1.mn (fun i k z => by omega)).tr (hF2.mn (fun i k z => by omega))).tr (w2.mn (fun i k z => by omega))) (by omega)
      have h11 : up M3 1 1 0 1 1 = 0 := up_self _ _ _ _
      have hq4 : OrC 124 (up M3 1 1 0) l := w1.eq (by rw [up_row _ _ _ (by decide)]) (fun k => by rw [up_row _ _ _ (by decide)])
      generalize up M3 1 1 0 = M4 at hF4 h11 hq4 ⊢
      have hM4 : CfC M4 C := a5.eq2 c2 (fun i k q => hF4 i k (by unfold cHo at q; omega))
      have hI4 : IsC C M4 26 σ := IsC.eq (fun i k b1 b2 _ => hF4 i k (by omega)) a7
      have hl6 : ∀ g, g ∈ l → g < 6 := fun g hg => by have := hO.2.1 g hg; omega
      have hpos : 0 < l.length := by omega
      have hne : l ≠ [] := fun z => by rw [z] at hpos; exact absurd hpos (Nat.lt_irrefl 0)
      rw [bits_spec hq4 hl6, bd_e]
      have hlb : ∀ g, C.2.1 ≤ g → lb l g = false := fun g hg => decide_eq_false (fun z => by have := hO.2.1 g z; omega)
      have hthx : ThoX C σ (bI (lb l)) ↔ ∀ g, g ∈ l → σ.1 g = 0 := by
        constructor
        · rintro ⟨p, ep, hp⟩ g hg
          have := bI_inj.mp ep g (hl6 g hg)
          unfold lb at this
          rw [decide_eq_true hg] at this
          exact hp.2.1 g this.symm
        · intro hh
          refine ⟨lb l, rfl, hlb, fun g hg => hh g (of_decide_eq_true hg), l.head hne, decide_eq_true (List.head_mem hne)⟩
      have hc0 : ∀ {Mc : Mem}, Fr obS M4 Mc → Fr (fun i k => scr0 i k ∨ (i = 1 ∧ k = 1)) M Mc := fun hF => (hF4.mn (fun i k z => by unfold scr0; omega)).tr (hF.mn (fun i k z => Or.inl (s0_tr (by unfold obS at z; omega))))
      -- what the reference does with a good order
      have ref2 : ∀ (Mc : Mem) (Q : Int32 → Mem → Prop), (∀ i k, 174 ≤ i → Mc i k = M i k) → Fr (fun i k => scr i k ∨ (i = 1 ∧ k = 1)) M Mc → Mc 1 1 = 0 → (¬ (∀ g, g ∈ l → σ.1 g = 0) → ∀ M', Fr (fun i k => i = 192 ∨ (i = 174 ∧ k = 37)) (up (up Mc 174 14 0) 174 11 0) M' → Q (-100) M') → ((∀ g, g ∈ l → σ.1 g = 0) → ∀ M', Fr scr0 (up (up Mc 174 14 0) 174 11 0) M' → InvE N C σ M' → StR M' C → OrR M' l → wp (bd (f_X11_goDay M') fun r14 M15 => if r14 = 1000000 then some ((-200), M15) else ml (up M15 174 13 0) fun M18 => f_X11_order_149 FU (nI L) r14 0 M18) Q) → wp (f_X11_order Mc) Q := by
        intro Mc Q ge hc hz q1 q2
        refine run Mc Q ge (fun f' M' ef => by rw [eo] at ef; cases ef) (fun l' M' n' el hA hF' => ?_)
        rw [eo] at el
        cases el
        have hFm : Fr (fun i k => i = 192 ∨ (i = 174 ∧ k = 37)) (up (up Mc 174 14 0) 174 11 0) (up M' 174 37 (nI L)) := Fr.up (hF'.mn (fun i k z => Or.inl z)) (Or.inr ⟨rfl, rfl⟩)
        have hInv : InvE N C σ (up M' 174 37 (nI L)) := hI.mz.sc ((pre Mc hc hz).tr (hFm.mn (fun i k z => Or.inl (by
          rcases z with z | z
          · exact s0_9x (by omega)
          · exact s0_74 (by omega)))))
        unfold f_X11_order_19
        rw [if_neg (nI_nlt (Nat.le_refl _) (by omega)), if_neg hnL, wp_ml]
        have ro := ro_loop a1 hInv.2.2.2.2.2.1 hInv.2.2.2.2.2.2.2.1 a2 (lb l) C.2.1 0 FU (by omega) (by show C.2.1 < 2000; omega) (fun j hj => absurd hj (Nat.not_lt_zero j))
        have hiff : (∀ j, j < C.2.1 → lb l j = true → σ.1 j = 0) ↔ ∀ g, g ∈ l → σ.1 g = 0 := ⟨fun hh g hg => hh g (hO.2.1 g hg) (decide_eq_true hg), fun hh j _ hj => hh j (of_decide_eq_true hj)⟩
        rw [nI_0] at ro
        unfold f_X11_areOutside f_X11_areOutside_0
        by_cases z : ∀ g, g ∈ l → σ.1 g = 0
        · rw [ro.1 (hiff.mpr z), bd_e, if_neg (by decide), wp_bd]
          refine wp_mono (ly_st hInv) (fun _ Md y => ?_)
          have hFd : Fr scr0 (up (up Mc 174 14 0) 174 11 0) Md := (hFm.mn (fun i k z => by
            rcases z with z | z
            · exact s0_9x (by omega)
            · exact s0_74 (by omega))).tr (ly_s0 y.2)
          refine q2 z Md hFd (hInv.s0 (ly_s0 y.2)) y.1 ⟨by omega, ?_, fun k g eg => ?_⟩
          · rw [y.2 174 37 (by unfold lyS; omega), up_self, hlen]
          · rw [y.2 192 k (by unfold lyS; omega), up_row _ _ _ (by decide)]; exact hA k g eg
        · rw [ro.2 (fun w => z (hiff.mp w)), bd_e, if_pos rfl, wp_s]
          exact q1 z _ hFm
      by_cases hx : ∀ g, g ∈ l → σ.1 g = 0
      · rw [(c_out a1 hM4 hI4 a2 _).1 (hthx.mpr hx), bd_e, if_neg (by decide), wp_bd, show (0 : Int32) = b2i (false = true) from rfl]
        refine wp_mono (begin_spec (lis := false) hI4 a2) (fun _ M5 q => ?_)
        rw [show b2i (false = true) = (0 : Int32) from rfl]
        obtain ⟨q1, q2, q3, q4⟩ := q
        have f45 : Fr obS M4 M5 := q4.mn (fun i k w => by unfold bgS at w; unfold obS; omega)
        have hM5 : CfC M5 C := CfC.eq c2 (fun i k hi => q4 i k (by unfold bgS; omega)) hM4
        have hH5 : HS C σ.2.2.2.2 false S1 M5 := ⟨q1, q2, fun _ _ _ => rfl, fun w => by cases w⟩
        have hq5 : OrC 124 M5 l := hq4.eq (q4 124 1 (by unfold bgS; omega)) (fun k => q4 125 k (by unfold bgS; omega))
        rw [wp_bd]
        show wp (f_X9_walk 124 (nI 0) (nI 400) M5) _
        refine wp_mono (walk_spec (L := 400) a1 hO.2.1 hx hO.1 hpos (Nat.le_refl _) hB hM5 hH5 hq5 (q3 400 S1 l)) (fun r M6 y => ?_)
        obtain ⟨y1, y2, y3⟩ := y
        have f46 : Fr obS M4 M6 := f45.tr (y1.mn (fun i k z => by unfold trS at z; unfold obS; omega))
        have ge6 : ∀ i k, 174 ≤ i → M6 i k = M i k := fun i k hi => (f46 i k (by unfold obS; omega)).trans (hF4 i k (by omega))
        have z6 : M6 1 1 = 0 := (f46 1 1 (by unfold obS; omega)).trans h11
        rcases wk_yes (Nat.le_refl _) y3 with ⟨v, rfl, v2, v3, v4⟩ | ⟨rfl, v2⟩
        · rw [if_neg (by decide), wp_bd]
          refine wp_mono (clearRow_spec M6) (fun _ M7 u => ?_)
          have hq7 : OrC 124 M7 l := hq5.eq ((u.2 124 1 (by unfold rcS; omega)).trans (y1 124 1 (by unfold trS; omega))) (fun k => (u.2 125 k (by unfold rcS; omega)).trans (y1 125 k (by unfold trS; omega)))
          have hI7 : IsC C M7 165 (od C σ l v) := IsC.eq (fun i k b1 b2 _ => u.2 i k (by unfold rcS; omega)) v4
          have h26 : M7 26 0 = nI σ.2.2.2.2 := by rw [u.2 26 0 (by unfold rcS; omega), f46 26 0 (by unfold obS; omega)]; exact hI4.2.2.2.2.1
          refine order97 (σ := σ) (τ := od C σ l v) a1 hO.2.1 l.length 0 FU M7 (by omega) (by show l.length < 2000; omega) hq7 hI7 h26 (by rw [List.take_zero]; exact u.1) (fun M8 s1 s2 => ?_)
          have f68 : Fr rcS M6 M8 := u.2.tr s2
          have hI8 : IsC C M8 165 (od C σ l v) := IsC.eq (fun i k b1 b2 _ => f68 i k (by unfold rcS; omega)) v4
          rw [ci_waited hI8, bd_e, sumB_tb, wp_bd]
          refine wp_mono (tell_spec _ s1 (by rw [oRw_len]; omega)) (fun _ M9 t => ?_)
          have f69 : Fr rcS M6 M9 := f68.tr t.2
          have hH9 : HS C σ.2.2.2.2 false S1 M9 := ⟨(f69 128 5 (by unfold rcS; omega)).trans ((y1 128 5 (by unfold trS; omega)).trans q1), (f69 128 3 (by unfold rcS; omega)).trans ((y1 128 3 (by unfold trS; omega)).trans q2), fun _ _ _ => rfl, fun w => by cases w⟩
          rw [gone_spec a1 a2 hO.2.1 hH9 (IsC.eq (fun i k b1 b2 _ => f69 i k (by unfold rcS; omega)) v4), bd_e, wp_s]
          have hc9 : Fr (fun i k => scr i k ∨ (i = 1 ∧ k = 1)) M M9 := ((hc0 f46).mn (fun i k z => z.imp Or.inl id)).tr ((rc_scr f69).mn (fun i k z => Or.inl z))
          have z9 : M9 1 1 = 0 := (f69 1 1 (by unfold rcS; omega)).trans z6
          refine ref2 M9 _ (fun i k hi => (f69 i k (by unfold rcS; omega)).trans (ge6 i k hi)) hc9 z9 (fun z => absurd hx z) (fun _ Ma g1 g2 g3 g4 => ?_)
          rw [wp_bd]
          refine wp_mono (goDay_spec a1 a2 hO.2.1 hne hB g2.2.2.2.2.2.1 g3 g4 g2.2.2.2.2.2.2.2.1) (fun r Mb k => ?_)
          obtain ⟨k1, k2⟩ := k
          rcases k2 with ⟨v', k3, rfl, k4⟩ | ⟨k3, _⟩
          · have : v' = v := Option.some.inj (k3.symm.trans v2)
            subst this
            rw [if_neg (show ¬ nI v' = 1000000 from fun t => by have := (nI_eq (b := 1000000) (by omega) (by decide)).mp t; omega), wp_ml, ← hlen]
            have hqb : OrR Mb l := g4.fr k1
            have hRb : IsR C (Mb 175) σ := IsR.eq c2 (fun j _ => k1 175 j (by unfold mnS; omega)) g2.2.2.2.2.2.2.2.1
            refine order149 (σ := σ) (τ := od C σ l v') a1 hO.2.1 l.length 0 FU _ (by omega) (by show l.length < 2000; omega) (hqb.eq (by rw [up_col _ _ _ (by decide)]) (fun j => by rw [up_row _ _ _ (by decide)])) (by rw [up_row _ _ _ (by decide)]; exact k4) (by rw [up_row _ _ _ (by decide)]; exact hRb.2.2.2.2) (by rw [List.take_zero]; exact (rowr0 Mb).1) (fun Md d1 d2 => ?_)
            have fbd : Fr rrS Mb Md := (rowr0 Mb).2.tr d2
            rw [waitedR_spec a1 hO.2.1 hx hO.1 a2 (hqb.eq (fbd 174 37 (by unfold rrS; omega)) (fun j => fbd 192 j (by unfold rrS; omega))) (IsR.eq c2 (fun j _ => fbd 191 j (by unfold rrS; omega)) k4) (IsR.eq c2 (fun j _ => fbd 175 j (by unfold rrS; omega)) hRb), bd_e, wp_bd]
            refine wp_mono (tellr_spec _ d1 (by rw [oRw_len]; omega)) (fun _ Me ee => ?_)
            rw [wp_s]
            have fbe : Fr rrS Mb Me := fbd.tr ee.2
            have fa : Fr scr0 (up (up M9 174 14 0) 174 11 0) Mb := g1.tr (mn_scr k1)
            have lo : ∀ i k, i < 174 → ¬ scr0 i k → Me i k = M9 i k := fun i k hi hn => by rw [fbe i k (by unfold rrS; omega), fa i k hn, up_row _ _ _ (by omega), up_row _ _ _ (by omega)]
            refine ⟨rfl, q_row (l := oRw σ (od C σ l v') l ++ [nI (sumB (lb l) (od C σ l v').2.2.1)]) hI.mz hN (((pre M9 hc9 z9).tr (s0_scr fa)).tr (rr_scr fbe)) (by rw [List.length_append, oRw_len, List.length_singleton]; omega) (t.1.fr (lo 0 16 (by decide) (by unfold scr0; omega)) (funext fun k => lo 173 k (by decide) (by unfold scr0; omega))) ee.1⟩
          · rw [v2] at k3; cases k3
        · rw [if_pos rfl, wp_s]
          refine ref2 M6 _ ge6 ((hc0 f46).mn (fun i k z => z.imp Or.inl id)) z6 (fun z => absurd hx z) (fun _ Ma g1 g2 g3 g4 => ?_)
          rw [wp_bd]
          refine wp_mono (goDay_spec a1 a2 hO.2.1 hne hB g2.2.2.2.2.2.1 g3 g4 g2.2.2.2.2.2.2.2.1) (fun r Mb k => ?_)
          obtain ⟨k1, k2⟩ := k
          rcases k2 with ⟨v', k3, rfl, k4⟩ | ⟨k3, rfl, _⟩
          · have h1 := v2 v' k3
            have h2 := (dv_some.mp k3).1
            omega
          · rw [if_pos rfl, wp_s]
            exact ⟨rfl, z_same hI hN hR (((pre0 M6 (hc0 f46) z6).tr g1).tr (mn_scr k1))⟩
      · rw [(c_out a1 hM4 hI4 a2 _).2 (fun z => hx (hthx.mp z)), bd_e, if_pos rfl, wp_s]
        refine ref2 M4 _ (fun i k hi => hF4 i k (by omega)) ((hc0 Fr.rf).mn (fun i k z => z.imp Or.inl id)) h11 (fun _ M' hF' => ?_) (fun z => absurd z hx)
        refine ⟨rfl, z_same hI hN hR ((pre0 M4 (hc0 Fr.rf) h11).tr (hF'.mn (fun i k z => ?_)))⟩
        rcases z with z | z
        · exact s0_9x (by omega)
        · exact s0_74 (by omega)
