/-! orders, one behind another, purely -/
def ga (l : List Nat) (i : Nat) : Nat := l.getD i 0
def sw (l : List Nat) (i j : Nat) : List Nat := (l.set i (ga l j)).set j (ga l i)
def plc (l : List Nat) : Nat → Option Nat
  | 0 => none
  | i + 1 => if ga l (i + 1) < ga l i then plc l i else some i
def nxq (l : List Nat) (p : Nat) : Nat → Nat
  | 0 => 0
  | k + 1 => if p + 1 < k + 1 ∧ ga l (k + 1) < ga l p then nxq l p k else k + 1
def rvq : Nat → List Nat → Nat → Nat → List Nat
  | 0, l, _, _ => l
  | n + 1, l, lo, hi => if lo < hi then rvq n (sw l lo hi) (lo + 1) (hi - 1) else l
def nxo (l : List Nat) : Option (Nat × List Nat) := match plc l (l.length - 1) with
  | none => none
  | some p => some (p, rvq 6 (sw l p (nxq l p (l.length - 1))) (p + 1) (l.length - 1))
theorem ga_some {l : List Nat} {k g : Nat} (h : l[k]? = some g) : ga l k = g := by
  unfold ga
  rw [List.getD_eq_getElem?_getD, h]; rfl
theorem ga_at {l : List Nat} {k : Nat} (h : k < l.length) : l[k]? = some (ga l k) := by
  unfold ga
  rw [List.getD_eq_getElem?_getD, List.getElem?_eq_getElem h]; rfl
theorem ga_mem {l : List Nat} {k : Nat} (h : k < l.length) : ga l k ∈ l := List.mem_of_getElem? (ga_at h)
theorem ga_get {l : List Nat} {k : Nat} (h : k < l.length) : ga l k = l[k] := ga_some (List.getElem?_eq_getElem h)
theorem sw_len (l : List Nat) (i j : Nat) : (sw l i j).length = l.length := by unfold sw; simp
theorem sw_perm {l : List Nat} {i j : Nat} (hi : i < l.length) (hj : j < l.length) : (sw l i j).Perm l := by
  unfold sw
  rw [ga_get hi, ga_get hj]
  exact List.set_set_perm hi hj
theorem sw_take {l : List Nat} {i j p : Nat} (hi : p ≤ i) (hj : p ≤ j) : (sw l i j).take p = l.take p := by
  unfold sw
  rw [List.take_set_of_le hj, List.take_set_of_le hi]
theorem rvq_ok : ∀ (f : Nat) {l : List Nat} {lo hi p : Nat}, hi < l.length → p ≤ lo → (rvq f l lo hi).Perm l ∧ (rvq f l lo hi).take p = l.take p
  | 0, l, _, _, p, _, _ => ⟨List.Perm.refl l, rfl⟩
  | f + 1, l, lo, hi, p, h, hp => by
    unfold rvq
    by_cases z : lo < hi
    · rw [if_pos z]
      obtain ⟨a, b⟩ := rvq_ok f (l := sw l lo hi) (lo := lo + 1) (hi := hi - 1) (p := p) (by rw [sw_len]; omega) (by omega)
      exact ⟨a.trans (sw_perm (by omega) h), b.trans (sw_take hp (by omega))⟩
    · rw [if_neg z]; exact ⟨List.Perm.refl l, rfl⟩
theorem plc_some {l : List Nat} {p : Nat} : ∀ {k : Nat}, plc l k = some p → p < k ∧ ¬ ga l (p + 1) < ga l p
  | 0, e => by cases e
  | k + 1, e => by
    unfold plc at e
    by_cases z : ga l (k + 1) < ga l k
    · rw [if_pos z] at e
      have := plc_some e
      exact ⟨by omega, this.2⟩
    · rw [if_neg z] at e
      cases e
      exact ⟨by omega, z⟩
theorem nxq_ok {l : List Nat} {p : Nat} : ∀ {k : Nat}, p + 1 ≤ k → p + 1 ≤ nxq l p k ∧ nxq l p k ≤ k
  | 0, h => by omega
  | k + 1, h => by
    unfold nxq
    by_cases z : p + 1 < k + 1 ∧ ga l (k + 1) < ga l p
    · rw [if_pos z]
      have := nxq_ok (l := l) (p := p) (k := k) (by omega)
      omega
    · rw [if_neg z]; omega
theorem nxo_ok {l l' : List Nat} {p : Nat} (h : nxo l = some (p, l')) : l'.Perm l ∧ p + 1 < l.length ∧ l'.take p = l.take p := by
  unfold nxo at h
  cases e : plc l (l.length - 1) with
  | none => rw [e] at h; cases h
  | some q =>
    rw [e] at h
    simp only [Option.some.injEq, Prod.mk.injEq] at h
    obtain ⟨h1, h2⟩ := h
    subst h1
    have hp := plc_some e
    have hn := nxq_ok (l := l) (p := q) (k := l.length - 1) (by omega)
    obtain ⟨a, b⟩ := rvq_ok 6 (l := sw l q (nxq l q (l.length - 1))) (lo := q + 1) (hi := l.length - 1) (p := q) (by rw [sw_len]; omega) (by omega)
    rw [← h2]
    exact ⟨a.trans (sw_perm (by omega) (by omega)), by omega, b.trans (sw_take (Nat.le_refl _) (by omega))⟩
def fz {β : Type} : List Nat → (List Nat → β) → β
  | [], k => k []
  | x :: t, k => match x with
    | 0 => fz t (fun t => k (0 :: t))
    | 1 => fz t (fun t => k (1 :: t))
    | 2 => fz t (fun t => k (2 :: t))
    | 3 => fz t (fun t => k (3 :: t))
    | 4 => fz t (fun t => k (4 :: t))
    | 5 => fz t (fun t => k (5 :: t))
    | n + 6 => fz t (fun t => k ((n + 6) :: t))
theorem fz_eq {β : Type} : ∀ (l : List Nat) (k : List Nat → β), fz l k = k l
  | [], _ => rfl
  | x :: t, k => by
    unfold fz
    split <;> rw [fz_eq t]
def ends : Nat → List Nat → Bool
  | 0, _ => false
  | n + 1, l => match nxo l with
    | none => true
    | some x => ends n x.2
def endsF : Nat → List Nat → Bool
  | 0, _ => false
  | n + 1, l => fz l (fun l => match nxo l with
    | none => true
    | some x => endsF n x.2)
theorem ends_eq : ∀ (n : Nat) (l : List Nat), endsF n l = ends n l
  | 0, _ => rfl
  | n + 1, l => by
    unfold endsF ends
    rw [fz_eq]
    cases nxo l with
    | none => rfl
    | some x => exact ends_eq n x.2
def pb (b0 b1 b2 b3 b4 b5 : Bool) (g : Nat) : Bool := match g with
  | 0 => b0
  | 1 => b1
  | 2 => b2
  | 3 => b3
  | 4 => b4
  | 5 => b5
  | _ => false
def fl (p : Nat → Bool) (k : Nat) : List Nat := (List.range k).filter p
set_option maxRecDepth 100000 in
theorem ends_all : ∀ b0 b1 b2 b3 b4 b5 : Bool, endsF 720 (fl (pb b0 b1 b2 b3 b4 b5) 6) = true := by decide +kernel
theorem fl_pb (p : Nat → Bool) : fl p 6 = fl (pb (p 0) (p 1) (p 2) (p 3) (p 4) (p 5)) 6 := by
  unfold fl
  apply List.filter_congr
  intro g hg
  have hg := List.mem_range.mp hg
  match g, hg with
  | 0, _ => rfl
  | 1, _ => rfl
  | 2, _ => rfl
  | 3, _ => rfl
  | 4, _ => rfl
  | 5, _ => rfl
  | k + 6, h => omega
theorem ends_fl (p : Nat → Bool) : ends 720 (fl p 6) = true := by rw [fl_pb, ← ends_eq]; exact ends_all _ _ _ _ _ _
def chain : Nat → List Nat → List (List Nat)
  | 0, _ => []
  | n + 1, l => l :: (match nxo l with
    | none => []
    | some x => chain n x.2)
theorem fl_mem {p : Nat → Bool} {k g : Nat} : g ∈ fl p k ↔ g < k ∧ p g = true := by
  unfold fl
  rw [List.mem_filter, List.mem_range]
theorem fl_nodup (p : Nat → Bool) (k : Nat) : (fl p k).Nodup := List.Nodup.sublist List.filter_sublist List.nodup_range
theorem fl_s (p : Nat → Bool) (k : Nat) : fl p (k + 1) = if p k = true then fl p k ++ [k] else fl p k := by
  unfold fl
  rw [List.range_succ, List.filter_append]
  by_cases h : p k = true
  · rw [if_pos h, List.filter_cons_of_pos h]; rfl
  · rw [if_neg h, List.filter_cons_of_neg h, List.filter_nil, List.append_nil]
theorem fl_len (p : Nat → Bool) (k : Nat) : (fl p k).length ≤ k := by
  have := List.length_filter_le p (List.range k)
  rw [List.length_range] at this
  exact this
/-! arrays that hold a row of numbers -/
def Ar (f : Nat → Int32) (l : List Nat) : Prop := ∀ k g, l[k]? = some g → f k = nI g
theorem Ar_ga {f : Nat → Int32} {l : List Nat} (h : Ar f l) {k : Nat} (hk : k < l.length) : f k = nI (ga l k) := h k _ (ga_at hk)
theorem Ar_sw {f : Nat → Int32} {l : List Nat} (h : Ar f l) {i j : Nat} (hi : i < l.length) (hj : j < l.length) : Ar (upd (upd f i (f j)) j (f i)) (sw l i j) := by
  intro k g e
  unfold sw at e
  rw [List.getElem?_set] at e
  by_cases z : j = k
  · rw [if_pos z, if_pos (by rw [List.length_set]; omega)] at e
    subst z
    rw [pk_us, Ar_ga h hi, Option.some.inj e]
  · rw [if_neg z, List.getElem?_set] at e
    rw [pk_un (fun w => z w.symm)]
    by_cases y : i = k
    · rw [if_pos y, if_pos (by omega)] at e
      subst y
      rw [pk_us, Ar_ga h hj, Option.some.inj e]
    · rw [if_neg y] at e
      rw [pk_un (fun w => y w.symm)]
      exact h k g e
theorem Ar_snoc {f : Nat → Int32} {l : List Nat} (h : Ar f l) (x : Nat) : Ar (upd f l.length (nI x)) (l ++ [x]) := by
  intro k g e
  by_cases z : k = l.length
  · subst z
    rw [List.getElem?_append_right (Nat.le_refl _)] at e
    simp at e
    rw [pk_us, e]
  · rw [pk_un z]
    by_cases y : k < l.length
    · rw [List.getElem?_append_left y] at e; exact h k g e
    · rw [List.getElem?_eq_none (by rw [List.length_append, List.length_singleton]; omega)] at e; cases e
theorem addm1 (x : Int32) : x + (-1) = x - 1 := (Int32.sub_eq_add_neg x 1).symm
