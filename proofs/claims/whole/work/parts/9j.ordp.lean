/-! a day by an order, purely -/
def offs (C : Cf) : List Nat → Sm → Sm × List Nat
  | [], τ => (τ, [])
  | g :: l, τ => if bar C τ g = 0 then offs C l (off C τ g) else (τ, g :: l)
def odS (C : Cf) : Nat → Sm × List Nat → Sm × List Nat
  | 0, p => p
  | n + 1, p => odS C n (minute C (offs C p.2 p.1).1, (offs C p.2 p.1).2)
theorem offs_t {C : Cf} {g : Nat} {l : List Nat} {τ : Sm} (h : bar C τ g = 0) : offs C (g :: l) τ = offs C l (off C τ g) := if_pos h
theorem offs_f {C : Cf} {g : Nat} {l : List Nat} {τ : Sm} (h : ¬ bar C τ g = 0) : offs C (g :: l) τ = (τ, g :: l) := if_neg h
theorem dS_add (C : Cf) : ∀ (a b : Nat) (p : Sm × List Nat), odS C (a + b) p = odS C b (odS C a p)
  | 0, b, p => by rw [Nat.zero_add]; rfl
  | a + 1, b, p => by
    rw [show a + 1 + b = (a + b) + 1 by omega]
    exact dS_add C a b _
theorem dS_1 (C : Cf) (p : Sm × List Nat) : odS C 1 p = (minute C (offs C p.2 p.1).1, (offs C p.2 p.1).2) := rfl
theorem dS_s (C : Cf) (n : Nat) (p : Sm × List Nat) : odS C (n + 1) p = odS C 1 (odS C n p) := dS_add C n 1 p
theorem dS_nil (C : Cf) : ∀ (n : Nat) (τ : Sm), odS C n (τ, []) = (mn C n τ, [])
  | 0, _ => rfl
  | n + 1, τ => dS_nil C n (minute C τ)
theorem dS_go {C : Cf} {g n : Nat} {l : List Nat} {τ : Sm} (h : bar C τ g = 0) : odS C (n + 1) (τ, g :: l) = odS C (n + 1) (off C τ g, l) := by
  show odS C n (minute C (offs C (g :: l) τ).1, (offs C (g :: l) τ).2) = odS C n (minute C (offs C l (off C τ g)).1, (offs C l (off C τ g)).2)
  rw [offs_t h]
theorem dS_no {C : Cf} {g n : Nat} {l : List Nat} {τ : Sm} (h : ¬ bar C τ g = 0) : odS C (n + 1) (τ, g :: l) = odS C n (minute C τ, g :: l) := by
  show odS C n (minute C (offs C (g :: l) τ).1, (offs C (g :: l) τ).2) = _
  rw [offs_f h]
theorem dS_wait {C : Cf} {g : Nat} {l : List Nat} : ∀ (j n : Nat) (τ : Sm), (∀ i, i < j → ¬ bar C (mn C i τ) g = 0) → odS C (j + n) (τ, g :: l) = odS C n (mn C j τ, g :: l)
  | 0, n, τ, _ => by rw [Nat.zero_add]; rfl
  | j + 1, n, τ, h => by
    rw [show j + 1 + n = (j + n) + 1 by omega, dS_no (show ¬ bar C τ g = 0 from h 0 (by omega))]
    exact dS_wait j n (minute C τ) (fun i hi => h (i + 1) (by omega))
theorem offs_inv {C : Cf} (hC : COk C) : ∀ (l : List Nat) {τ : Sm}, Ok C τ → (∀ g, g ∈ l → g < C.2.1) → Ok C (offs C l τ).1 ∧ (offs C l τ).1.2.2.2.2 = τ.2.2.2.2 ∧ (offs C l τ).1.2.2.1 = τ.2.2.1 ∧ ∀ g, g ∈ (offs C l τ).2 → g ∈ l
  | [], τ, h, _ => ⟨h, rfl, rfl, fun g hg => hg⟩
  | g :: l, τ, h, hl => by
    by_cases hb : bar C τ g = 0
    · rw [offs_t hb]
      have hg := hl g (List.mem_cons_self)
      obtain ⟨a, b, c, d⟩ := offs_inv hC l (ok_off hC h hg hb) (fun k hk => hl k (List.mem_cons_of_mem _ hk))
      have e := off_eq (σ := τ) hC hg
      refine ⟨a, b.trans ?_, c.trans ?_, fun k hk => List.mem_cons_of_mem _ (d k hk)⟩
      · rw [e]
      · rw [e]
    · rw [offs_f hb]
      exact ⟨h, rfl, rfl, fun k hk => hk⟩
theorem dS_inv {C : Cf} (hC : COk C) : ∀ (n : Nat) {τ : Sm} {l : List Nat}, Ok C τ → (∀ g, g ∈ l → g < C.2.1) → Ok C (odS C n (τ, l)).1 ∧ (odS C n (τ, l)).1.2.2.2.2 = τ.2.2.2.2 + n ∧ (∀ g, (odS C n (τ, l)).1.2.2.1 g ≤ τ.2.2.1 g + n) ∧ ∀ g, g ∈ (odS C n (τ, l)).2 → g ∈ l
  | 0, τ, l, h, _ => ⟨h, rfl, fun g => Nat.le_refl _, fun g hg => hg⟩
  | n + 1, τ, l, h, hl => by
    obtain ⟨a, b, c, d⟩ := offs_inv hC l h hl
    obtain ⟨a', b', c', d'⟩ := dS_inv hC n (τ := minute C (offs C l τ).1) (l := (offs C l τ).2) (ok_minute hC a) (fun g hg => hl g (d g hg))
    refine ⟨a', ?_, fun g => ?_, fun g hg => d g (d' g hg)⟩
    · show (odS C n (minute C (offs C l τ).1, (offs C l τ).2)).1.2.2.2.2 = _
      rw [b', minute_now, b]; omega
    · show (odS C n (minute C (offs C l τ).1, (offs C l τ).2)).1.2.2.1 g ≤ _
      have h1 := c' g
      have h2 := minute_wt C (offs C l τ).1 g
      rw [c] at h2
      split at h2 <;> omega
/-- who is outside stays so till it is sent off -/
theorem run_out {C : Cf} : ∀ (k : Nat) (p : Sm × (Nat → Bool)) (g : Nat), p.1.1 g = 0 → (run C k p).1.1 g = 0
  | 0, _, _, h => h
  | k + 1, p, g, h => by
    unfold run
    cases e : first C p.1 with
    | none => exact h
    | some j =>
      refine run_out k _ g ?_
      obtain ⟨f1, f2, f3, f4⟩ := first_some e
      show (put C p.1 j _).1 g = 0
      rw [put_at]
      by_cases z : g = j
      · subst z; exact absurd h (ins_t.mp f2).1
      · rw [fs_n _ _ z]; exact h
theorem minute_out {C : Cf} {σ : Sm} {g : Nat} (h : σ.1 g = 0) : (minute C σ).1 g = 0 := by
  rw [minute_at]
  exact run_out 36 (dec σ, fun _ => false) g h
theorem mn_out {C : Cf} : ∀ (k : Nat) {σ : Sm} {g : Nat}, σ.1 g = 0 → (mn C k σ).1 g = 0
  | 0, _, _, h => h
  | k + 1, σ, g, h => mn_out k (σ := minute C σ) (minute_out h)
/-- where all are after so many minutes of the day; whether all of the order are through then -/
def od (C : Cf) (σ : Sm) (l : List Nat) (n : Nat) : Sm := (odS C n (σ, l)).1
def thr (l : List Nat) (τ : Sm) : Bool := l.all (fun g => τ.1 g == 10)
theorem thr_t {l : List Nat} {τ : Sm} : thr l τ = true ↔ ∀ g, g ∈ l → τ.1 g = 10 := by
  unfold thr
  rw [List.all_eq_true]
  exact ⟨fun h g hg => beq_iff_eq.mp (h g hg), fun h g hg => beq_iff_eq.mpr (h g hg)⟩
def dnb (C : Cf) (σ : Sm) (l : List Nat) (n : Nat) : Bool := (odS C n (σ, l)).2.isEmpty && thr l (od C σ l n)
theorem dnb_t {C : Cf} {σ : Sm} {l : List Nat} {n : Nat} : dnb C σ l n = true ↔ (odS C n (σ, l)).2 = [] ∧ ∀ g, g ∈ l → (od C σ l n).1 g = 10 := by
  unfold dnb
  rw [Bool.and_eq_true, thr_t, List.isEmpty_iff]
def odv (C : Cf) (σ : Sm) (l : List Nat) : Option Nat := fstF (dnb C σ l) 401 0
theorem fstF_least {p : Nat → Bool} {h : Nat} : ∀ {k g : Nat}, fstF p k g = some h → ∀ j, g ≤ j → j < h → p j = false
  | 0, _, e => by cases e
  | k + 1, g, e => by
    unfold fstF at e
    by_cases hp : p g = true
    · rw [if_pos hp] at e
      cases e
      intro j h1 h2; omega
    · rw [if_neg hp] at e
      intro j h1 h2
      by_cases z : j = g
      · subst z; exact Bool.eq_false_iff.mpr hp
      · exact fstF_least e j (by omega) h2
theorem fstF_is {p : Nat → Bool} {k h : Nat} (hk : h < k) (hp : p h = true) (hl : ∀ j, j < h → p j = false) : fstF p k 0 = some h := by
  cases e : fstF p k 0 with
  | none =>
    have := (fstF_none.mp e) h (Nat.zero_le _) (by omega)
    rw [hp] at this; cases this
  | some j =>
    obtain ⟨_, h2, h3⟩ := fstF_some e
    by_cases z : j = h
    · subst z; rfl
    · by_cases q : j < h
      · rw [hl j q] at h3; cases h3
      · have := fstF_least e h (Nat.zero_le _) (by omega)
        rw [hp] at this; cases this
theorem dv_some {C : Cf} {σ : Sm} {l : List Nat} {n : Nat} : odv C σ l = some n ↔ n ≤ 400 ∧ dnb C σ l n = true ∧ ∀ j, j < n → dnb C σ l j = false := by
  constructor
  · intro e
    obtain ⟨_, h2, h3⟩ := fstF_some e
    exact ⟨by omega, h3, fun j hj => fstF_least e j (Nat.zero_le _) hj⟩
  · rintro ⟨h1, h2, h3⟩
    exact fstF_is (by omega) h2 h3
theorem dv_none {C : Cf} {σ : Sm} {l : List Nat} : odv C σ l = none ↔ ∀ j, j ≤ 400 → dnb C σ l j = false := by
  unfold odv
  rw [fstF_none]
  exact ⟨fun h j hj => h j (Nat.zero_le _) (by omega), fun h j _ hj => h j (by omega)⟩
/-- the state that is come to when those of p have set off in turn -/
def Rch (C : Cf) (σ : Sm) (L : Nat) (p : List Nat) (τ : Sm) : Prop :=
  σ.2.2.2.2 ≤ τ.2.2.2.2 ∧ τ.2.2.2.2 ≤ σ.2.2.2.2 + 400 ∧ Ok C τ ∧ (∀ g, ¬ g ∈ p → σ.1 g = 0 → τ.1 g = 0) ∧ ∀ r n, n ≤ L → τ.2.2.2.2 < σ.2.2.2.2 + n → odS C n (σ, p ++ r) = odS C (σ.2.2.2.2 + n - τ.2.2.2.2) (τ, r)
/-- .. and all of them before the day's end -/
def RcN (C : Cf) (σ : Sm) (L : Nat) (p : List Nat) (τ : Sm) : Prop :=
  (∀ q g, p = q ++ [g] → τ.1 g ≠ 10) ∧ ∀ r n, n ≤ L → σ.2.2.2.2 + n ≤ τ.2.2.2.2 → p ++ r ≠ [] → (odS C n (σ, p ++ r)).2 ≠ []
/-- what is asked of each minute held up to then -/
def RcS (C : Cf) (σ : Sm) (L : Nat) (S : Nat → Sm → Bool) (p : List Nat) (τ : Sm) : Prop :=
  ∀ r n, 1 ≤ n → n ≤ L → σ.2.2.2.2 + n ≤ τ.2.2.2.2 → S n (od C σ (p ++ r) n) = true
theorem rch_0 {C : Cf} {σ : Sm} {L : Nat} (hO : Ok C σ) : Rch C σ L [] σ := ⟨Nat.le_refl _, Nat.le_add_right _ _, hO, fun g _ h => h, fun r n _ hn => by
  show odS C n (σ, r) = odS C (σ.2.2.2.2 + n - σ.2.2.2.2) (σ, r)
  rw [show σ.2.2.2.2 + n - σ.2.2.2.2 = n by omega]⟩
theorem rcn_0 {C : Cf} {σ : Sm} {L : Nat} : RcN C σ L [] σ := ⟨fun q g e => by
  have := congrArg List.length e
  simp at this, fun r n _ hn hr => by
  have : n = 0 := by omega
  subst this
  exact hr⟩
theorem rcs_0 {C : Cf} {σ : Sm} {L : Nat} {S : Nat → Sm → Bool} : RcS C σ L S [] σ := fun r n h1 _ hn => by omega
theorem Rch.le {C : Cf} {σ τ : Sm} {L L' : Nat} {p : List Nat} (hL : L' ≤ L) (h : Rch C σ L p τ) : Rch C σ L' p τ := ⟨h.1, h.2.1, h.2.2.1, h.2.2.2.1, fun r n hn => h.2.2.2.2 r n (by omega)⟩
theorem RcN.le {C : Cf} {σ τ : Sm} {L L' : Nat} {p : List Nat} (hL : L' ≤ L) (h : RcN C σ L p τ) : RcN C σ L' p τ := ⟨h.1, fun r n hn => h.2 r n (by omega)⟩
/-- one more waits for j minutes -/
theorem rch_w {C : Cf} {σ τ : Sm} {L j n : Nat} {p r : List Nat} {g : Nat} (h : Rch C σ L p τ) (hb : ∀ i, i < j → ¬ bar C (mn C i τ) g = 0) (hn : n ≤ L) (h1 : τ.2.2.2.2 < σ.2.2.2.2 + n) (h2 : σ.2.2.2.2 + n ≤ τ.2.2.2.2 + j) : odS C n (σ, p ++ g :: r) = (mn C (σ.2.2.2.2 + n - τ.2.2.2.2) τ, g :: r) := by
  rw [h.2.2.2.2 (g :: r) n hn h1]
  have := dS_wait (C := C) (g := g) (l := r) (σ.2.2.2.2 + n - τ.2.2.2.2) 0 τ (fun i hi => hb i (by omega))
  rw [Nat.add_zero] at this
  rw [this]; rfl
theorem app1 (p r : List Nat) (g : Nat) : p ++ [g] ++ r = p ++ g :: r := by simp
theorem mem_app1 {p : List Nat} {g k : Nat} : k ∈ p ++ [g] ↔ k ∈ p ∨ k = g := by simp
/-- .. and sets off -/
theorem rch_off {C : Cf} {σ τ : Sm} {L j : Nat} {p : List Nat} {g : Nat} (hC : COk C) (hg : g < C.2.1) (h : Rch C σ L p τ) (hb : ∀ i, i < j → ¬ bar C (mn C i τ) g = 0) (hj : bar C (mn C j τ) g = 0) (h4 : τ.2.2.2.2 + j ≤ σ.2.2.2.2 + 400) : Rch C σ L (p ++ [g]) (off C (mn C j τ) g) := by
  have e : (off C (mn C j τ) g).2.2.2.2 = τ.2.2.2.2 + j := by rw [off_eq hC hg]; exact mn_now C j τ
  have h0 := h.1
  refine ⟨by rw [e]; omega, by rw [e]; exact h4, ok_off hC (ok_mn hC j h.2.2.1) hg hj, fun k hk h0 => ?_, fun r n hn hlt => ?_⟩
  · rw [mem_app1] at hk
    rw [off_eq hC hg]
    show fs (mn C j τ).1 g _ k = 0
    rw [fs_n _ _ (fun z => hk (Or.inr z))]
    exact mn_out j (h.2.2.2.1 k (fun z => hk (Or.inl z)) h0)
  · rw [e] at hlt ⊢
    rw [app1, h.2.2.2.2 (g :: r) n hn (by omega), show σ.2.2.2.2 + n - τ.2.2.2.2 = j + (σ.2.2.2.2 + n - (τ.2.2.2.2 + j)) by omega, dS_wait j _ τ hb]
    obtain ⟨m, hm⟩ : ∃ m, σ.2.2.2.2 + n - (τ.2.2.2.2 + j) = m + 1 := ⟨σ.2.2.2.2 + n - (τ.2.2.2.2 + j) - 1, by omega⟩
    rw [hm, dS_go hj]
theorem rcn_off {C : Cf} {σ τ : Sm} {L j : Nat} {p : List Nat} {g : Nat} (hC : COk C) (hg : g < C.2.1) (h : Rch C σ L p τ) (hN : RcN C σ L p τ) (hb : ∀ i, i < j → ¬ bar C (mn C i τ) g = 0) : RcN C σ L (p ++ [g]) (off C (mn C j τ) g) := by
  have e : (off C (mn C j τ) g).2.2.2.2 = τ.2.2.2.2 + j := by rw [off_eq hC hg]; exact mn_now C j τ
  have h0 : 0 < C.1 := hC.2.2.2.1 (by omega)
  refine ⟨fun q k hk => ?_, fun r n hn hle _ => ?_⟩
  · have : g = k := by
      have := congrArg List.getLast? hk
      simp at this
      exact this
    subst this
    rw [off_eq hC hg]
    show fs (mn C j τ).1 g (frm C g) g ≠ 10
    rw [fs_s]
    have := frm_ok (C := C) (g := g) h0
    have := hC.1
    omega
  · rw [e] at hle
    rw [app1]
    by_cases q : σ.2.2.2.2 + n ≤ τ.2.2.2.2
    · exact hN.2 (g :: r) n hn q (by simp)
    · rw [rch_w h hb hn (by omega) hle]
      simp
theorem rcs_off {C : Cf} {σ τ : Sm} {L j : Nat} {S : Nat → Sm → Bool} {p : List Nat} {g : Nat} (hC : COk C) (hg : g < C.2.1) (h : Rch C σ L p τ) (hS : RcS C σ L S p τ) (hb : ∀ i, i < j → ¬ bar C (mn C i τ) g = 0) (hj : ∀ i, 1 ≤ i → i ≤ j → S (τ.2.2.2.2 + i - σ.2.2.2.2) (mn C i τ) = true) : RcS C σ L S (p ++ [g]) (off C (mn C j τ) g) := by
  have e : (off C (mn C j τ) g).2.2.2.2 = τ.2.2.2.2 + j := by rw [off_eq hC hg]; exact mn_now C j τ
  intro r n h1 hn hle
  rw [e] at hle
  rw [app1]
  by_cases q : σ.2.2.2.2 + n ≤ τ.2.2.2.2
  · exact hS (g :: r) n h1 hn q
  · unfold od
    rw [rch_w h hb hn (by omega) hle]
    have := hj (σ.2.2.2.2 + n - τ.2.2.2.2) (by omega) (by omega)
    rw [show τ.2.2.2.2 + (σ.2.2.2.2 + n - τ.2.2.2.2) - σ.2.2.2.2 = n by omega] at this
    exact this
