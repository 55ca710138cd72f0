/-! one is not through sooner than its stays take -/
def pre (C : Cf) (g k : Nat) : Nat := foldF (fun r a => a + Sy C g r) k 0 0
theorem pre_0 (C : Cf) (g : Nat) : pre C g 0 = 0 := rfl
theorem pre_s (C : Cf) (g k : Nat) : pre C g (k + 1) = pre C g k + Sy C g k := foldF_sn k 0
theorem pre_le (C : Cf) (g : Nat) : ∀ (m k : Nat), pre C g k ≤ pre C g (k + m)
  | 0, k => Nat.le_refl _
  | m + 1, k => by
    have h1 := pre_le C g m k
    have h2 := pre_s C g (k + m)
    rw [show k + (m + 1) = k + m + 1 by omega]
    omega
theorem pre_whl (C : Cf) (g : Nat) : pre C g C.1 = whl C g := rfl
theorem pre_w {C : Cf} {g k : Nat} (h : k ≤ C.1) : pre C g k ≤ whl C g := by
  have := pre_le C g (C.1 - k) k
  rw [show k + (C.1 - k) = C.1 by omega, pre_whl] at this
  exact this
/-- what is still ahead behind the room a - 1 -/
def rest (C : Cf) (g a : Nat) : Nat := if C.2.2.2.1 g = true then pre C g (a - 1) else whl C g - pre C g a
theorem rest_nx {C : Cf} {g a : Nat} (hC : COk C) (h : 0 < a ∧ a ≤ C.1) : rest C g a = if nx C g a = 10 then 0 else Sy C g (nx C g a - 1) + rest C g (nx C g a) := by
  have c1 := hC.1
  unfold rest nx
  by_cases hb : C.2.2.2.1 g = true
  · rw [if_pos hb, if_pos hb]
    by_cases h1 : a = 1
    · rw [if_pos h1, if_pos rfl, h1]; rfl
    · rw [if_neg h1, if_neg (show ¬ a - 1 = 10 by omega), if_pos hb]
      have := pre_s C g (a - 1 - 1)
      rw [show a - 1 - 1 + 1 = a - 1 by omega] at this
      omega
  · rw [if_neg hb, if_neg hb]
    by_cases h1 : a = C.1
    · rw [if_pos h1, if_pos rfl, h1, pre_whl]; omega
    · rw [if_neg h1, if_neg (show ¬ a + 1 = 10 by omega), if_neg hb]
      have e := pre_s C g a
      have l := pre_w (C := C) (g := g) (k := a + 1) (by omega)
      rw [show a + 1 - 1 = a by omega]
      omega
theorem rest_frm {C : Cf} {g : Nat} (h : 0 < C.1) : Sy C g (frm C g - 1) + rest C g (frm C g) = whl C g := by
  unfold rest frm
  by_cases hb : C.2.2.2.1 g = true
  · rw [if_pos hb, if_pos hb]
    have := pre_s C g (C.1 - 1)
    rw [show C.1 - 1 + 1 = C.1 by omega, pre_whl] at this
    omega
  · rw [if_neg hb, if_neg hb]
    have e := pre_s C g 0
    have l := pre_w (C := C) (g := g) (k := 0 + 1) (by omega)
    rw [pre_0] at e
    show Sy C g 0 + (whl C g - pre C g (0 + 1)) = whl C g
    omega
/-- what one still has to stay -/
def rem (C : Cf) (σ : Sm) (g : Nat) : Nat := if σ.1 g = 0 then whl C g else if σ.1 g = 10 then 0 else σ.2.1 g + rest C g (σ.1 g)
theorem rem_0 {C : Cf} {σ : Sm} {g : Nat} (h : σ.1 g = 0) : rem C σ g = whl C g := if_pos h
theorem rem_10 {C : Cf} {σ : Sm} {g : Nat} (h : σ.1 g = 10) : rem C σ g = 0 := by unfold rem; rw [h]; rfl
theorem rem_i {C : Cf} {σ : Sm} {g : Nat} (h0 : σ.1 g ≠ 0) (h1 : σ.1 g ≠ 10) : rem C σ g = σ.2.1 g + rest C g (σ.1 g) := by unfold rem; rw [if_neg h0, if_neg h1]
theorem put_left (C : Cf) (σ : Sm) (g a : Nat) : (put C σ g a).2.1 = fs σ.2.1 g (if a = 10 then 0 else Sy C g (a - 1)) := by
  unfold put
  by_cases h : a = 10
  · rw [if_pos h, if_pos h]
  · rw [if_neg h, if_neg h]; rfl
theorem rem_other {C : Cf} {σ : Sm} {j a g : Nat} (h : g ≠ j) : rem C (put C σ j a) g = rem C σ g := by
  unfold rem
  rw [put_at, put_left, fs_n _ _ h, fs_n _ _ h]
theorem rem_step {C : Cf} {σ : Sm} {j : Nat} (hC : COk C) (hO : OkM C σ) (hf : first C σ = some j) (g : Nat) : rem C (step C σ j) g = rem C σ g := by
  obtain ⟨f1, f2, f3, f4⟩ := first_some hf
  unfold step
  by_cases z : g = j
  · subst z
    have hi := ins_le hO f2
    have c1 := hC.1
    have hn := rest_nx (g := g) hC hi
    rw [rem_i (ins_t.mp f2).1 (ins_t.mp f2).2, f3, hn]
    by_cases q : nx C g (σ.1 g) = 10
    · rw [if_pos q, rem_10 (by rw [put_at, fs_s]; exact q)]
    · rw [if_neg q, rem_i (by rw [put_at, fs_s]; rcases nx_ok (g := g) hi with w | w <;> omega) (by rw [put_at, fs_s]; exact q), put_at, put_left, fs_s, fs_s, if_neg q]
      omega
  · exact rem_other z
theorem rem_run {C : Cf} (hC : COk C) (g : Nat) : ∀ (k : Nat) {p : Sm × (Nat → Bool)}, OkM C p.1 → rem C (run C k p).1 g = rem C p.1 g
  | 0, _, _ => rfl
  | k + 1, p, h => by
    unfold run
    cases e : first C p.1 with
    | none => rfl
    | some j => exact (rem_run hC g k (okm_step hC h e)).trans (rem_step hC h e g)
theorem rem_dec (C : Cf) (σ : Sm) (g : Nat) : rem C σ g ≤ rem C (dec σ) g + 1 := by
  unfold rem dec
  show (if σ.1 g = 0 then whl C g else if σ.1 g = 10 then 0 else σ.2.1 g + rest C g (σ.1 g)) ≤ (if σ.1 g = 0 then whl C g else if σ.1 g = 10 then 0 else σ.2.1 g - 1 + rest C g (σ.1 g)) + 1
  split
  · omega
  · split <;> omega
theorem rem_minute {C : Cf} {σ : Sm} (hC : COk C) (hO : Ok C σ) (g : Nat) : rem C σ g ≤ rem C (minute C σ) g + 1 := by
  have h1 := rem_run hC g 36 (p := (dec σ, fun _ => false)) (okm_dec hO.toM)
  have h2 := rem_dec C σ g
  have h3 : rem C (minute C σ) g = rem C (run C 36 (dec σ, fun _ => false)).1 g := rfl
  rw [h3, h1]
  exact h2
theorem rem_off {C : Cf} {σ : Sm} {j : Nat} (hC : COk C) (hj : j < C.2.1) (hb : bar C σ j = 0) (g : Nat) : rem C (off C σ j) g = rem C σ g := by
  have h0 : 0 < C.1 := hC.2.2.2.1 (by omega)
  have c1 := hC.1
  unfold off
  by_cases z : g = j
  · subst z
    have hf := frm_ok (C := C) (g := g) h0
    rw [rem_0 (bar_0 hb).1, rem_i (by rw [put_at, fs_s]; omega) (by rw [put_at, fs_s]; omega), put_at, put_left, fs_s, fs_s, if_neg (by omega), rest_frm h0]
  · exact rem_other z
theorem rem_offs {C : Cf} (hC : COk C) (g : Nat) : ∀ (l : List Nat) {τ : Sm}, (∀ j, j ∈ l → j < C.2.1) → rem C (offs C l τ).1 g = rem C τ g
  | [], _, _ => rfl
  | j :: l, τ, hl => by
    by_cases hb : bar C τ j = 0
    · rw [offs_t hb, rem_offs hC g l (fun k hk => hl k (List.mem_cons_of_mem _ hk))]
      exact rem_off hC (hl j List.mem_cons_self) hb g
    · rw [offs_f hb]
theorem rem_dS {C : Cf} (hC : COk C) (g : Nat) : ∀ (n : Nat) {τ : Sm} {l : List Nat}, Ok C τ → (∀ j, j ∈ l → j < C.2.1) → rem C τ g ≤ rem C (odS C n (τ, l)).1 g + n
  | 0, _, _, _, _ => Nat.le_refl _
  | n + 1, τ, l, h, hl => by
    obtain ⟨a, b, c, d⟩ := offs_inv hC l h hl
    have h1 := rem_dS hC g n (τ := minute C (offs C l τ).1) (l := (offs C l τ).2) (ok_minute hC a) (fun j hj => hl j (d j hj))
    have h2 := rem_minute hC a g
    have h3 := rem_offs hC g l (τ := τ) hl
    show _ ≤ rem C (odS C n (minute C (offs C l τ).1, (offs C l τ).2)).1 g + (n + 1)
    omega
/-- who is outside is not through before its stays have gone by -/
theorem not_thr {C : Cf} {τ : Sm} {l : List Nat} {g n : Nat} (hC : COk C) (hO : Ok C τ) (hl : ∀ j, j ∈ l → j < C.2.1) (h0 : τ.1 g = 0) (hn : n < whl C g) : (odS C n (τ, l)).1.1 g ≠ 10 := by
  intro z
  have := rem_dS hC g n hO hl
  rw [rem_0 h0, rem_10 z] at this
  omega
