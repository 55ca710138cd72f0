/-! an order told -/
def ot (t : Nat → Nat) (c : Nat) : Nat → Nat → List Nat → Nat ⊕ List Nat
  | 0, _, l => .inr l
  | m + 1, k, l => if 97 ≤ t k ∧ t k < 97 + c ∧ ¬ (t k - 97) ∈ l then ot t c m (k + 1) (l ++ [t k - 97]) else .inl k
def OtI (t : Nat → Nat) (c : Nat) (l : List Nat) : Prop := l.Nodup ∧ (∀ g, g ∈ l → g < c) ∧ ∀ j g, l[j]? = some g → t j = 97 + g
theorem oti_s {t : Nat → Nat} {c k : Nat} {l : List Nat} (h : OtI t c l) (hk : l.length = k) (hh : 97 ≤ t k ∧ t k < 97 + c ∧ ¬ (t k - 97) ∈ l) : OtI t c (l ++ [t k - 97]) := by
  obtain ⟨h1, h2, h3⟩ := h
  refine ⟨?_, fun g hg => ?_, fun j g e => ?_⟩
  · rw [List.nodup_append]
    refine ⟨h1, by simp, fun a ha b hb e => ?_⟩
    rw [List.mem_singleton] at hb
    subst hb
    subst e
    exact hh.2.2 ha
  · rw [mem_app1] at hg
    rcases hg with hg | hg
    · exact h2 g hg
    · omega
  · by_cases z : j < l.length
    · rw [List.getElem?_append_left z] at e; exact h3 j g e
    · rw [List.getElem?_append_right (by omega)] at e
      by_cases y : j = l.length
      · subst y
        simp at e
        rw [hk]
        omega
      · rw [List.getElem?_eq_none (by rw [List.length_singleton]; omega)] at e; cases e
theorem ot_ok {t : Nat → Nat} {c : Nat} : ∀ (m k : Nat) (l : List Nat), OtI t c l → l.length = k → (∀ l', ot t c m k l = .inr l' → OtI t c l' ∧ l'.length = k + m) ∧ ∀ f, ot t c m k l = .inl f → f < k + m
  | 0, k, l, h, hk => ⟨fun l' e => by cases e; exact ⟨h, hk⟩, fun f e => by cases e⟩
  | m + 1, k, l, h, hk => by
    unfold ot
    by_cases z : 97 ≤ t k ∧ t k < 97 + c ∧ ¬ (t k - 97) ∈ l
    · rw [if_pos z]
      obtain ⟨a, b⟩ := ot_ok m (k + 1) (l ++ [t k - 97]) (oti_s h hk z) (by rw [List.length_append, List.length_singleton]; omega)
      exact ⟨fun l' e => ⟨(a l' e).1, by have := (a l' e).2; omega⟩, fun f e => by have := b f e; omega⟩
    · rw [if_neg z]
      exact ⟨fun l' e => (by cases e), fun f e => by cases e; omega⟩
theorem nd_len {c : Nat} {l : List Nat} (hc : c ≤ 6) (h1 : l.Nodup) (h2 : ∀ g, g ∈ l → g < c) : l.length ≤ c := by
  have := List.Nodup.length_le_of_subset (l₂ := List.range c) h1 (fun g hg => List.mem_range.mpr (h2 g hg))
  rw [List.length_range] at this
  exact this
theorem lb_snoc {l : List Nat} {g : Nat} (hg : g < 6) : obit g (bI (lb l)) = bI (lb (l ++ [g])) := by
  rw [bI_set hg]
  refine bI_ext (fun j _ => ?_)
  unfold lb
  by_cases z : j = g
  · rw [if_pos z, decide_eq_true (by rw [z]; simp)]
  · rw [if_neg z, decide_eq_decide, mem_app1]
    exact ⟨Or.inl, fun w => w.elim id (fun w => absurd w z)⟩
theorem lb_bit {l : List Nat} {g : Nat} (hg : g < 6) : bit (bI (lb l)) (nI g) ↔ g ∈ l := by
  rw [bit_bI _ (by omega)]
  unfold lb
  rw [decide_eq_true_iff]
  exact ⟨fun h => h.2, fun h => ⟨hg, h⟩⟩
section OrdC
variable {C : Cf} {M : Mem} {t : Nat → Nat} {L : Nat}
theorem let_at (hT : TX M t L 80) {k : Nat} (hk : k < L) : f_X8_letterAt (nI k) M = some (if 97 ≤ t k ∧ t k ≤ 102 then nI (t k - 97) else -1, M) := by
  have h80 := hT.1
  have := tx_let hT (p := k) (by omega)
  rw [show lkp t (min L 80) k = t k by unfold lkp; rw [if_pos (by omega)]] at this
  exact this
theorem foo13 (hC : COk C) (hM : CfC M C) (hT : TX M t L 80) : ∀ (m k n : Nat) (l : List Nat), k + m = L → m < n → (∀ g, g ∈ l → g < C.2.1) → f_X10_faultOfOrder_13 n (bI (lb l)) (nI k) M = some ((match ot t C.2.1 m k l with
    | .inl f => nI f
    | .inr _ => if L = 0 then 0 else -1), M)
  | 0, k, n + 1, l, he, _, hl => by
    have h80 := hT.1
    unfold f_X10_faultOfOrder_13 f_X10_faultOfOrder_81 ot
    rw [hT.2.2.1, if_neg (nI_nlt (by omega) (by omega))]
    by_cases z : L = 0
    · subst z; rfl
    · rw [if_neg (show ¬ nI L = 0 from fun w => z ((nI_eq (b := 0) (by omega) (by decide)).mp w))]
      show some (-1, M) = some (if L = 0 then 0 else -1, M)
      rw [if_neg z]
  | m + 1, k, n + 1, l, he, hn, hl => by
    have h80 := hT.1
    have c2 := hC.2.1
    unfold f_X10_faultOfOrder_13 f_X10_faultOfOrder_52 ot
    rw [hT.2.2.1, if_pos (nI_lt (by omega) (by omega)), let_at hT (by omega), bd_e]
    by_cases z : 97 ≤ t k ∧ t k < 97 + C.2.1
    · rw [if_pos (show 97 ≤ t k ∧ t k ≤ 102 by omega), hasG_t hC hM (show t k - 97 < C.2.1 by omega), bd_e, if_neg (by decide), has_spec, bd_e]
      by_cases y : (t k - 97) ∈ l
      · rw [b2i_t ((lb_bit (by omega)).mpr y), if_neg (by decide), if_neg (fun w => w.2.2 y)]
      · rw [b2i_f (fun w => y ((lb_bit (by omega)).mp w)), if_pos rfl, if_pos ⟨z.1, z.2, y⟩]
        show f_X10_faultOfOrder_13 n (obit (t k - 97) (bI (lb l))) (nI k + 1) M = _
        rw [lb_snoc (by omega), nI_1]
        exact foo13 hC hM hT m (k + 1) n _ (by omega) (by omega) (fun g hg => by
          rw [mem_app1] at hg
          rcases hg with hg | hg
          · exact hl g hg
          · omega)
    · rw [if_neg (show ¬ (97 ≤ t k ∧ t k < 97 + C.2.1 ∧ ¬ (t k - 97) ∈ l) from fun w => z ⟨w.1, w.2.1⟩)]
      by_cases y : 97 ≤ t k ∧ t k ≤ 102
      · rw [if_pos y, hasG_f hM (Or.inr (nI_nlt (by omega) (by omega))), bd_e, if_pos rfl]
      · rw [if_neg y, hasG_f hM (Or.inl (by decide)), bd_e, if_pos rfl]
end OrdC
theorem take15 {t : Nat → Nat} {L c : Nat} {l : List Nat} (hc : c ≤ 6) (hO : OtI t c l) (hlen : l.length = L) : ∀ (m k n : Nat) (M : Mem), k + m = L → m < n → TX M t L 80 → M 124 1 = nI L → Ar (M 125) (l.take k) → wp (f_X5_take_15 124 n (nI k) M) (fun _ M' => OrC 124 M' l ∧ Fr (fun i _ => i = 125) M M')
  | 0, k, n + 1, M, he, _, hT, h1, hA => by
    have h6 := nd_len hc hO.1 hO.2.1
    unfold f_X5_take_15
    rw [h1, if_neg (nI_nlt (by omega) (by omega)), wp_s]
    rw [List.take_of_length_le (by omega)] at hA
    exact ⟨⟨by omega, by rw [h1, hlen], hA⟩, Fr.rf⟩
  | m + 1, k, n + 1, M, he, hn, hT, h1, hA => by
    have h6 := nd_len hc hO.1 hO.2.1
    obtain ⟨g, g1, g2, g3, g4⟩ := get_some (l := l) (k := k) (by omega)
    have hg := hO.2.1 g g2
    have tk := hO.2.2 k g g1
    have elt : f_X8_letterAt (nI k) M = some (nI g, M) := by
      have := let_at hT (k := k) (by omega)
      rw [tk, if_pos (by omega), show 97 + g - 97 = g by omega] at this
      exact this
    unfold f_X5_take_15
    rw [h1, if_pos (nI_lt (by omega) (by omega)), elt, bd_e]
    have e : (if (0 : Int32) < nI g then nI g else 0) = nI g := by
      by_cases z : 0 < g
      · rw [if_pos (nIp z (by omega))]
      · have : g = 0 := by omega
        subst this; rfl
    rw [e, wp_vl, gd_t (nI_inb (show k < 6 by omega) (by decide)), nI_clamp (by omega), wp_ml, wp_vl, nI_1]
    have hF : Fr (fun i _ => i = 125) M (up M 125 k (nI g)) := Fr.up (S := fun i _ => i = 125) Fr.rf rfl
    refine wp_mono (take15 hc hO hlen m (k + 1) n _ (by omega) (by omega) (hT.fr (fun i j hi => hF i j (by omega))) ((hF 124 1 (by omega)).trans h1) ?_) (fun _ M' w => ⟨w.1, hF.tr w.2⟩)
    rw [g3, upS]
    have := Ar_snoc hA g
    rw [List.length_take, Nat.min_eq_left (by omega)] at this
    exact this
def orF : Nat → Nat → Prop := fun i _ => i = 192
theorem ref19 {t : Nat → Nat} {C : Cf} {L : Nat} {Q : Int32 → Mem → Prop} {M0 : Mem} (hC : COk C) (hL : L ≤ 80) : ∀ (m k n : Nat) (M : Mem) (l : List Nat), k + m = L → m < n → l.length = k → OtI t C.2.1 l → M 174 3 = nI C.2.1 → (∀ j, j < 80 → t j < 256 ∧ M 183 j = sB (t j)) → Ar (M 192) l → Fr orF M0 M → (∀ f M', ot t C.2.1 m k l = .inl f → Fr orF M0 M' → Q (-1 - nI f) M') → (∀ l' M' n', ot t C.2.1 m k l = .inr l' → Ar (M' 192) l' → Fr orF M0 M' → wp (f_X11_order_19 (n' + 1) (nI L) (bI (lb l')) (nI L) M') Q) → wp (f_X11_order_19 n (nI L) (bI (lb l)) (nI k) M) Q
  | 0, k, n + 1, M, l, he, _, hk, hO, h3, ht, hA, hF, q1, q2 => by
    have : k = L := by omega
    subst this
    exact q2 l M n rfl hA hF
  | m + 1, k, n + 1, M, l, he, hn, hk, hO, h3, ht, hA, hF, q1, q2 => by
    have c2 := hC.2.1
    obtain ⟨t1, t2⟩ := ht k (by omega)
    unfold ot at q1 q2
    unfold f_X11_order_19 f_X11_order_63
    rw [if_pos (nI_lt (by omega) (by omega)), gd_t (nI_inb (show k < 80 by omega) (by decide)), nI_clamp (show k < 2 ^ 31 by omega), t2, h3, show (97 : Int32) + nI C.2.1 = nI (97 + C.2.1) from nI_add 97 _, nI_sub1 (by omega), in_spec, bd_e]
    have hin : (¬ sB (t k) < 97 ∧ ¬ nI (97 + C.2.1 - 1) < sB (t k)) ↔ 97 ≤ t k ∧ t k < 97 + C.2.1 := by
      by_cases z : t k < 128
      · rw [sB_lo z, show (97 : Int32) = nI 97 from rfl, nI_ltI (by omega) (by omega), nI_ltI (by omega) (by omega)]
        omega
      · constructor
        · rintro ⟨w, _⟩
          exfalso
          apply w
          have key : ∀ x, x < 256 → 128 ≤ x → sB x < 97 := by decide +kernel
          exact key (t k) t1 (by omega)
        · intro w; omega
    by_cases z : 97 ≤ t k ∧ t k < 97 + C.2.1
    · have es : sB (t k) - 97 = nI (t k - 97) := by
        rw [sB_lo (by omega)]
        exact pk_sub (b := 97) z.1
      rw [b2i_t (hin.mpr z), if_neg (by decide), gd_t (nI_inc (show k < 80 by omega) (by decide)), t2, es, mhas_spec, bd_e]
      by_cases y : (t k - 97) ∈ l
      · rw [b2i_t ((lb_bit (by omega)).mpr y), if_neg (by decide), wp_s]
        rw [if_neg (fun w => w.2.2 y)] at q1
        exact q1 k M rfl hF
      · have hO' := oti_s hO hk ⟨z.1, z.2, y⟩
        have h6 := nd_len c2 hO'.1 hO'.2.1
        rw [List.length_append, List.length_singleton] at h6
        rw [if_pos ⟨z.1, z.2, y⟩] at q1 q2
        rw [b2i_f (fun w => y ((lb_bit (by omega)).mp w)), if_pos rfl, gd_t (nI_inc (show k < 80 by omega) (by decide)), gd_t (nI_inc (show k < 6 by omega) (by decide)), t2, es, wp_ml, gd_t (nI_inc (show k < 6 by omega) (by decide)), up_self, wp_vl, wp_vl, nI_1]
        show wp (f_X11_order_19 n (nI L) (obit (t k - 97) (bI (lb l))) (nI (k + 1)) _) Q
        rw [lb_snoc (by omega)]
        have hF2 : Fr orF M (up M 192 k (nI (t k - 97))) := Fr.up (S := orF) Fr.rf rfl
        refine ref19 hC hL m (k + 1) n _ (l ++ [t k - 97]) (by omega) (by omega) (by rw [List.length_append, List.length_singleton]; omega) hO' ((hF2 174 3 (by unfold orF; omega)).trans h3) (fun j hj => ⟨(ht j hj).1, (hF2 183 j (by unfold orF; omega)).trans (ht j hj).2⟩) ?_ (hF.tr hF2) q1 q2
        rw [upS, ← hk]
        exact Ar_snoc hA _
    · rw [b2i_f (fun w => z (hin.mp w)), if_pos rfl, wp_s]
      rw [if_neg (fun w => z ⟨w.1, w.2.1⟩)] at q1
      exact q1 k M rfl hF
def oRw (σ τ : Sm) (l : List Nat) : List Int32 := l.map (fun g => pI (τ.2.2.2.1 g) + 1 - nI σ.2.2.2.2)
theorem oRw_app (σ τ : Sm) (a b : List Nat) : oRw σ τ (a ++ b) = oRw σ τ a ++ oRw σ τ b := by unfold oRw; rw [List.map_append]
theorem oRw_len (σ τ : Sm) (l : List Nat) : (oRw σ τ l).length = l.length := by unfold oRw; rw [List.length_map]
theorem order97 {C : Cf} {σ τ : Sm} {l : List Nat} {x2 : Int32} {Q : Int32 → Mem → Prop} (hC : COk C) (hl : ∀ g, g ∈ l → g < C.2.1) : ∀ (m k n : Nat) (M : Mem), k + m = l.length → m < n → OrC 124 M l → IsC C M 165 τ → M 26 0 = nI σ.2.2.2.2 → RwC M (oRw σ τ (l.take k)) → (∀ M', RwC M' (oRw σ τ l) → Fr rcS M M' → wp (bd (f_X7_waitedBy 165 x2 M') fun r25 M26 => bd (f_X10_tell r25 M26) fun _ M29 => bd (f_X9_minutesGone M29) fun r31 M32 => some (r31, M32)) Q) → wp (f_X10_order_97 n x2 (nI k) M) Q
  | 0, k, n + 1, M, he, _, hq, hI, h26, hR, hk => by
    have h6 := hq.1
    unfold f_X10_order_97
    rw [hq.2.1, if_neg (nI_nlt (by omega) (by omega))]
    rw [List.take_of_length_le (by omega)] at hR
    exact hk M hR Fr.rf
  | m + 1, k, n + 1, M, he, hn, hq, hI, h26, hR, hk => by
    have h6 := hq.1
    have c2 := hC.2.1
    obtain ⟨g, g1, g2, g3, g4⟩ := get_some (l := l) (k := k) (by omega)
    have hg := hl g g2
    unfold f_X10_order_97
    rw [hq.2.1, if_pos (nI_lt (by omega) (by omega)), gd_t (nI_inb (show k < 6 by omega) (by decide)), nI_clamp (by omega), hq.2.2 k g g1, gd_t (nI_inb (show g < 6 by omega) (by decide)), nI_clamp (by omega), wp_vl, show M 169 g = pI (τ.2.2.2.1 g) from hI.2.2.2.1 g (by omega), h26, wp_bd]
    refine wp_mono (tell_spec _ hR (by rw [oRw_len, List.length_take]; omega)) (fun _ M1 w => ?_)
    rw [wp_vl, nI_1]
    refine order97 hC hl m (k + 1) n M1 (by omega) (by omega) (hq.eq (w.2 124 1 (by unfold rcS; omega)) (fun j => w.2 125 j (by unfold rcS; omega))) (IsC.eq (fun i j a b _ => w.2 i j (by unfold rcS; omega)) hI) ((w.2 26 0 (by unfold rcS; omega)).trans h26) ?_ (fun M' u1 u2 => hk M' u1 (w.2.tr u2))
    rw [g3, oRw_app]
    exact w.1
theorem order149 {C : Cf} {σ τ : Sm} {l : List Nat} {x3 : Int32} {Q : Int32 → Mem → Prop} (hC : COk C) (hl : ∀ g, g ∈ l → g < C.2.1) : ∀ (m k n : Nat) (M : Mem), k + m = l.length → m < n → OrR M l → IsR C (M 191) τ → M 175 24 = nI σ.2.2.2.2 → RwR M (oRw σ τ (l.take k)) → (∀ M', RwR M' (oRw σ τ l) → Fr rrS M M' → wp (bd (f_X11_waitedByOrder M') fun r20 M21 => bd (f_X11_tell r20 M21) fun _ M24 => some (x3, M24)) Q) → wp (f_X11_order_149 n (nI l.length) x3 (nI k) M) Q
  | 0, k, n + 1, M, he, _, hq, hI, h24, hR, hk => by
    have h6 := hq.1
    unfold f_X11_order_149
    rw [if_neg (nI_nlt (by omega) (by omega))]
    rw [List.take_of_length_le (by omega)] at hR
    exact hk M hR Fr.rf
  | m + 1, k, n + 1, M, he, hn, hq, hI, h24, hR, hk => by
    have h6 := hq.1
    have c2 := hC.2.1
    obtain ⟨g, g1, g2, g3, g4⟩ := get_some (l := l) (k := k) (by omega)
    have hg := hl g g2
    unfold f_X11_order_149
    rw [if_pos (nI_lt (by omega) (by omega)), gd_t (nI_inb (show k < 6 by omega) (by decide)), nI_clamp (show k < 2 ^ 31 by omega), hq.2.2 k g g1, la18, gd_t (nI_inb (show 18 + g < 25 by omega) (by decide)), nI_clamp (show 18 + g < 2 ^ 31 by omega), wp_vl, gd_t (by decide), hI.2.2.2.1 g hg, c24, h24, wp_vl, wp_bd]
    refine wp_mono (tellr_spec _ hR (by rw [oRw_len, List.length_take]; omega)) (fun _ M1 w => ?_)
    rw [wp_vl, nI_1]
    refine order149 hC hl m (k + 1) n M1 (by omega) (by omega) (hq.eq (w.2 174 37 (by unfold rrS; omega)) (fun j => w.2 192 j (by unfold rrS; omega))) (IsR.eq c2 (fun j _ => w.2 191 j (by unfold rrS; omega)) hI) ((w.2 175 24 (by unfold rrS; omega)).trans h24) ?_ (fun M' u1 u2 => hk M' u1 (w.2.tr u2))
    rw [g3, oRw_app]
    exact w.1
