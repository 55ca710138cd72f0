/-! the cells that stand behind the constructors: their kinds, lengths, references; the memory M holds what changes -/
abbrev Mem : Type := Nat → Nat → Int32
def kinds : List Nat := [10, 8, 13, 1, 14, 14, 14, 14, 14, 17, 14, 14, 14, 14, 14, 14, 17, 14, 14, 14, 14, 14, 14, 3, 13, 4, 7, 14, 14, 14, 14, 7, 14, 14, 14, 14, 7, 14, 14, 14, 14, 7, 14, 14, 14, 14, 6, 16, 7, 14, 14, 14, 14, 7, 14, 14, 14, 14, 7, 14, 14, 14, 14, 7, 14, 14, 14, 14, 7, 14, 14, 14, 14, 7, 14, 14, 14, 14, 7, 14, 14, 14, 14, 7, 14, 14, 14, 14, 7, 14, 14, 14, 14, 7, 14, 14, 14, 14, 7, 14, 14, 14, 14, 7, 14, 14, 14, 14, 16, 14, 7, 14, 14, 14, 14, 7, 14, 14, 14, 14, 0, 14, 14, 14, 5, 14, 5, 14, 9, 16, 7, 14, 14, 14, 14, 7, 14, 14, 14, 14, 7, 14, 14, 14, 14, 7, 14, 14, 14, 14, 7, 14, 14, 14, 14, 7, 14, 14, 14, 14, 7, 14, 14, 14, 14, 7, 14, 14, 14, 14, 2, 14, 14, 14, 11, 14, 15, 14, 14, 14, 15, 14, 14, 12, 14, 14, 12, 14, 14, 14, 14, 14, 14, 14, 14, 14, 14, 14, 14, 14, 14, 14, 15, 14]
def lens : List Nat := [0, 0, 80, 0, 6, 6, 6, 6, 6, 6, 6, 6, 6, 6, 6, 6, 6, 6, 6, 6, 6, 6, 6, 0, 40, 0, 0, 6, 6, 6, 6, 0, 6, 6, 6, 6, 0, 6, 6, 6, 6, 0, 6, 6, 6, 6, 0, 12, 0, 6, 6, 6, 6, 0, 6, 6, 6, 6, 0, 6, 6, 6, 6, 0, 6, 6, 6, 6, 0, 6, 6, 6, 6, 0, 6, 6, 6, 6, 0, 6, 6, 6, 6, 0, 6, 6, 6, 6, 0, 6, 6, 6, 6, 0, 6, 6, 6, 6, 0, 6, 6, 6, 6, 0, 6, 6, 6, 6, 2, 2, 0, 6, 6, 6, 6, 0, 6, 6, 6, 6, 0, 12, 12, 12, 0, 6, 0, 6, 0, 7, 0, 6, 6, 6, 6, 0, 6, 6, 6, 6, 0, 6, 6, 6, 6, 0, 6, 6, 6, 6, 0, 6, 6, 6, 6, 0, 6, 6, 6, 6, 0, 6, 6, 6, 6, 0, 6, 6, 6, 6, 0, 6, 6, 12, 0, 25, 6, 6, 6, 6, 6, 36, 6, 80, 16, 60, 40, 36, 300, 25, 240, 25, 6, 6, 6, 6, 6, 6, 6, 6, 36, 50, 2, 2]
def rfL : List (List (Option Nat)) := [[some 1, some 3, some 25, some 26, some 31, some 36, some 41, some 46, some 108, some 109, some 120, some 124, some 126, some 128, some 170, some 173], [some 2], [], [none, none, none, some 4, some 5, some 6, some 7, some 8, some 9, some 16, some 23], [], [], [], [], [], [some 10, some 11, some 12, some 13, some 14, some 15], [], [], [], [], [], [], [some 17, some 18, some 19, some 20, some 21, some 22], [], [], [], [], [], [], [some 24, none, some 24], [], [some 1, some 3], [none, none, none, none, some 27, some 28, some 29, some 30], [], [], [], [], [none, none, none, none, some 32, some 33, some 34, some 35], [], [], [], [], [none, none, none, none, some 37, some 38, some 39, some 40], [], [], [], [], [none, none, none, none, some 42, some 43, some 44, some 45], [], [], [], [], [some 47], [some 48, some 53, some 58, some 63, some 68, some 73, some 78, some 83, some 88, some 93, some 98, some 103], [none, none, none, none, some 49, some 50, some 51, some 52], [], [], [], [], [none, none, none, none, some 54, some 55, some 56, some 57], [], [], [], [], [none, none, none, none, some 59, some 60, some 61, some 62], [], [], [], [], [none, none, none, none, some 64, some 65, some 66, some 67], [], [], [], [], [none, none, none, none, some 69, some 70, some 71, some 72], [], [], [], [], [none, none, none, none, some 74, some 75, some 76, some 77], [], [], [], [], [none, none, none, none, some 79, some 80, some 81, some 82], [], [], [], [], [none, none, none, none, some 84, some 85, some 86, some 87], [], [], [], [], [none, none, none, none, some 89, some 90, some 91, some 92], [], [], [], [], [none, none, none, none, some 94, some 95, some 96, some 97], [], [], [], [], [none, none, none, none, some 99, some 100, some 101, some 102], [], [], [], [], [none, none, none, none, some 104, some 105, some 106, some 107], [], [], [], [], [some 110, some 115], [], [none, none, none, none, some 111, some 112, some 113, some 114], [], [], [], [], [none, none, none, none, some 116, some 117, some 118, some 119], [], [], [], [], [some 121, some 122, some 123], [], [], [], [some 125], [], [some 127], [], [some 3, some 120, some 129, none, none, none, some 165], [some 130, some 135, some 140, some 145, some 150, some 155, some 160], [none, none, none, none, some 131, some 132, some 133, some 134], [], [], [], [], [none, none, none, none, some 136, some 137, some 138, some 139], [], [], [], [], [none, none, none, none, some 141, some 142, some 143, some 144], [], [], [], [], [none, none, none, none, some 146, some 147, some 148, some 149], [], [], [], [], [none, none, none, none, some 151, some 152, some 153, some 154], [], [], [], [], [none, none, none, none, some 156, some 157, some 158, some 159], [], [], [], [], [none, none, none, none, some 161, some 162, some 163, some 164], [], [], [], [], [none, none, none, none, some 166, some 167, some 168, some 169], [], [], [], [], [some 3, some 171, some 172], [], [], [], [some 175, none, some 176, none, some 177, some 178, some 179, some 180, some 181, some 182, some 183, none, some 184, none, none, none, none, none, none, none, some 185, some 186, none, none, none, none, some 187, some 188, none, some 189, none, none, none, some 190, none, some 191, some 192, none, some 193, none, none, none, some 194, some 195, none, some 196, some 197, some 198, some 199, none, none, some 200, none, none, none, none, none, none, some 201, some 202, some 203], [], [], [], [], [], [], [], [], [], [], [], [], [], [], [], [], [], [], [], [], [], [], [], [], [], [], [], [], []]
def stIds : List Nat := [26, 31, 36, 41, 48, 53, 58, 63, 68, 73, 78, 83, 88, 93, 98, 103, 110, 115, 130, 135, 140, 145, 150, 155, 160, 165]
def KD (i : Nat) : Nat := kinds.getD i 0
def LN (i : Nat) : Nat := lens.getD i 0
def rfS (i k : Nat) : Option Nat := (rfL.getD i []).getD k none
/-- which row of signs the rule is read from; which row the reference reads -/
def dS (x : Int32) : Nat := if x = 0 then 24 else 2
def dR (x : Int32) : Nat := if x = 1 then 183 else 186
def RFd (i : Nat) (r : Nat → Int32) (k : Nat) : Option Nat := if i = 23 ∧ k = 2 then some (dS (r 2)) else if i = 174 ∧ k = 15 then (if r 15 = 0 then none else some (dR (r 15))) else rfS i k
def lay (X : Mm) (M : Mem) : Mm := (List.range 204).map (fun i => (KD i, LN i, M i, RFd i (M i))) ++ X
def up (M : Mem) (i k : Nat) (v : Int32) : Mem := fun j => if j = i then upd (M j) k v else M j
def upR (M : Mem) (i : Nat) (r : Nat → Int32) : Mem := fun j => if j = i then r else M j
theorem kd_lt {i c : Nat} (h : kinds[i]? = some c) : i < 204 ∧ KD i = c := by
  refine ⟨(List.getElem?_eq_some_iff.mp h).1, ?_⟩
  unfold KD
  rw [List.getD_eq_getElem?_getD, h]
  rfl
theorem lay_get {X : Mm} {M : Mem} {i : Nat} (h : i < 204) : (lay X M)[i]? = some (KD i, LN i, M i, RFd i (M i)) := by
  unfold lay
  rw [List.getElem?_append_left (by simpa using h), List.getElem?_map, List.getElem?_range h]
  rfl
theorem lay_hi {X : Mm} {M : Mem} {i : Nat} (h : 204 ≤ i) : (lay X M)[i]? = X[i - 204]? := by
  unfold lay
  rw [List.getElem?_append_right (by simpa using h)]
  simp
theorem lay_len (X : Mm) (M : Mem) : (lay X M).length = 204 + X.length := by simp [lay]
theorem lay_set {X : Mm} {M : Mem} {i : Nat} {r : Nat → Int32} (hi : i < 204) (h : RFd i r = RFd i (M i)) : (lay X M).set i (KD i, LN i, r, RFd i (M i)) = lay X (upR M i r) := by
  apply List.ext_getElem?
  intro j
  rw [List.getElem?_set, lay_len]
  by_cases hij : i = j
  · subst hij
    rw [if_pos rfl, if_pos (by omega), lay_get hi]
    simp [upR, h]
  · rw [if_neg hij]
    by_cases h2 : j < 204
    · rw [lay_get h2, lay_get h2]
      simp [upR, Ne.symm hij]
    · rw [lay_hi (by omega), lay_hi (by omega)]
theorem upR_upd (M : Mem) (i k : Nat) (v : Int32) : upR M i (upd (M i) k v) = up M i k v := by
  funext j
  unfold upR up
  by_cases h : j = i
  · subst h; simp
  · simp [h]
theorem RFd_upd {i k c : Nat} {r : Nat → Int32} {v : Int32} (hk : kinds[i]? = some c) (hr : c < 12 → isRf c k = false) : RFd i (upd r k v) = RFd i r := by
  funext f
  unfold RFd
  by_cases h1 : i = 23 ∧ f = 2
  · rw [if_pos h1, if_pos h1]
    obtain ⟨rfl, rfl⟩ := h1
    have hc : c = 3 := by
      have : kinds[23]? = some 3 := rfl
      rw [this] at hk
      exact (Option.some.inj hk).symm
    subst hc
    have h9 := hr (by decide)
    by_cases h2 : k = 2
    · subst h2; exact absurd h9 (by decide)
    · simp [upd, Ne.symm h2]
  · rw [if_neg h1, if_neg h1]
    by_cases h2 : i = 174 ∧ f = 15
    · rw [if_pos h2, if_pos h2]
      obtain ⟨rfl, rfl⟩ := h2
      have hc : c = 11 := by
        have : kinds[174]? = some 11 := rfl
        rw [this] at hk
        exact (Option.some.inj hk).symm
      subst hc
      have h9 := hr (by decide)
      by_cases h3 : k = 15
      · subst h3; exact absurd h9 (by decide)
      · simp [upd, Ne.symm h3]
    · rw [if_neg h2, if_neg h2]
theorem RFd_arr {i c : Nat} {r r' : Nat → Int32} (hk : kinds[i]? = some c) (hr : 12 ≤ c) : RFd i r' = RFd i r := by
  funext f
  unfold RFd
  by_cases h1 : i = 23 ∧ f = 2
  · obtain ⟨rfl, rfl⟩ := h1
    have : kinds[23]? = some 3 := rfl
    rw [this] at hk
    have := Option.some.inj hk
    omega
  · rw [if_neg h1, if_neg h1]
    by_cases h2 : i = 174 ∧ f = 15
    · obtain ⟨rfl, rfl⟩ := h2
      have : kinds[174]? = some 11 := rfl
      rw [this] at hk
      have := Option.some.inj hk
      omega
    · rw [if_neg h2, if_neg h2]
/-! the states -/
def isSt (s : Nat) : Prop := s ∈ stIds
theorem st_all : ∀ s ∈ stIds, kinds[s]? = some 7 ∧ (rfS s 4 = some (s + 1) ∧ rfS s 5 = some (s + 2) ∧ rfS s 6 = some (s + 3) ∧ rfS s 7 = some (s + 4)) ∧ (kinds[s + 1]? = some 14 ∧ kinds[s + 2]? = some 14 ∧ kinds[s + 3]? = some 14 ∧ kinds[s + 4]? = some 14) ∧ (LN (s + 1) = 6 ∧ LN (s + 2) = 6 ∧ LN (s + 3) = 6 ∧ LN (s + 4) = 6) ∧ s ≠ 23 ∧ s ≠ 174 := by decide
theorem st_k {s : Nat} (h : isSt s) : kinds[s]? = some 7 := (st_all s h).1
theorem RFd_st {s : Nat} (h : isSt s) (r : Nat → Int32) (k : Nat) : RFd s r k = rfS s k := by
  unfold RFd
  rw [if_neg (fun q => (st_all s h).2.2.2.2.1 q.1), if_neg (fun q => (st_all s h).2.2.2.2.2 q.1)]
theorem st_r4 {s : Nat} (h : isSt s) {r : Nat → Int32} : RFd s r 4 = some (s + 1) := (RFd_st h r 4).trans (st_all s h).2.1.1
theorem st_r5 {s : Nat} (h : isSt s) {r : Nat → Int32} : RFd s r 5 = some (s + 2) := (RFd_st h r 5).trans (st_all s h).2.1.2.1
theorem st_r6 {s : Nat} (h : isSt s) {r : Nat → Int32} : RFd s r 6 = some (s + 3) := (RFd_st h r 6).trans (st_all s h).2.1.2.2.1
theorem st_r7 {s : Nat} (h : isSt s) {r : Nat → Int32} : RFd s r 7 = some (s + 4) := (RFd_st h r 7).trans (st_all s h).2.1.2.2.2
theorem st_k1 {s : Nat} (h : isSt s) : kinds[s + 1]? = some 14 := (st_all s h).2.2.1.1
theorem st_k2 {s : Nat} (h : isSt s) : kinds[s + 2]? = some 14 := (st_all s h).2.2.1.2.1
theorem st_k3 {s : Nat} (h : isSt s) : kinds[s + 3]? = some 14 := (st_all s h).2.2.1.2.2.1
theorem st_k4 {s : Nat} (h : isSt s) : kinds[s + 4]? = some 14 := (st_all s h).2.2.1.2.2.2
theorem st_n1 {s : Nat} (h : isSt s) : LN (s + 1) = 6 := (st_all s h).2.2.2.1.1
theorem st_n2 {s : Nat} (h : isSt s) : LN (s + 2) = 6 := (st_all s h).2.2.2.1.2.1
theorem st_n3 {s : Nat} (h : isSt s) : LN (s + 3) = 6 := (st_all s h).2.2.2.1.2.2.1
theorem st_n4 {s : Nat} (h : isSt s) : LN (s + 4) = 6 := (st_all s h).2.2.2.1.2.2.2
/-! orders, the rows of states, the rows of rows -/
def isOr (q : Nat) : Prop := q = 124 ∨ q = 126
theorem or_k {q : Nat} (h : isOr q) : kinds[q]? = some 5 := by rcases h with rfl | rfl <;> rfl
theorem or_r0 {q : Nat} (h : isOr q) {r : Nat → Int32} : RFd q r 0 = some (q + 1) := by rcases h with rfl | rfl <;> rfl
theorem or_k1 {q : Nat} (h : isOr q) : kinds[q + 1]? = some 14 := by rcases h with rfl | rfl <;> rfl
theorem or_n1 {q : Nat} (h : isOr q) : LN (q + 1) = 6 := by rcases h with rfl | rfl <;> rfl
theorem past_all : ∀ j, j < 12 → rfS 47 j = some (48 + 5 * j) ∧ 48 + 5 * j ∈ stIds := by decide
theorem kept_all : ∀ j, j < 2 → rfS 108 j = some (110 + 5 * j) ∧ 110 + 5 * j ∈ stIds := by decide
theorem aft_all : ∀ j, j < 7 → rfS 129 j = some (130 + 5 * j) ∧ 130 + 5 * j ∈ stIds := by decide
theorem told_all : ∀ j, j < 6 → rfS 9 j = some (10 + j) ∧ kinds[10 + j]? = some 14 ∧ LN (10 + j) = 6 := by decide
theorem stay_all : ∀ j, j < 6 → rfS 16 j = some (17 + j) ∧ kinds[17 + j]? = some 14 ∧ LN (17 + j) = 6 := by decide
theorem RFd_lit {i : Nat} (h1 : i ≠ 23) (h2 : i ≠ 174) (r : Nat → Int32) (k : Nat) : RFd i r k = rfS i k := by
  unfold RFd
  rw [if_neg (fun q => h1 q.1), if_neg (fun q => h2 q.1)]
theorem past_r {j : Nat} (h : j < 12) {r : Nat → Int32} : RFd 47 r j = some (48 + 5 * j) := (RFd_lit (by decide) (by decide) r j).trans (past_all j h).1
theorem kept_r {j : Nat} (h : j < 2) {r : Nat → Int32} : RFd 108 r j = some (110 + 5 * j) := (RFd_lit (by decide) (by decide) r j).trans (kept_all j h).1
theorem aft_r {j : Nat} (h : j < 7) {r : Nat → Int32} : RFd 129 r j = some (130 + 5 * j) := (RFd_lit (by decide) (by decide) r j).trans (aft_all j h).1
theorem told_r {j : Nat} (h : j < 6) {r : Nat → Int32} : RFd 9 r j = some (10 + j) := (RFd_lit (by decide) (by decide) r j).trans (told_all j h).1
theorem stay_r {j : Nat} (h : j < 6) {r : Nat → Int32} : RFd 16 r j = some (17 + j) := (RFd_lit (by decide) (by decide) r j).trans (stay_all j h).1
theorem dS_k (x : Int32) : kinds[dS x]? = some 13 := by
  unfold dS
  split <;> rfl
theorem dR_k (x : Int32) : kinds[dR x]? = some 12 := by
  unfold dR
  split <;> rfl

section NX6
variable {l : Launch} {D : va_G} {cy : Nat → ClassId} {ad : Nat → Nat} {Y : MRec} {Rm : Room} {Qf : List Frame → Array Value → State → (Nat → Prop) → State → Prop} {n k pc : Nat} {X : Mm} {L L' : List (Nat × Value)} {st : List Value} {M : Mem}
theorem s_getI {idx ci f i : Nat} (hd : decode Y.2.1 pc = .ok (.getfield idx, 3)) (hf : FLk Y.1.cls idx ci f) (hr : isRf ci f = false) (hk : kinds[i]? = some ci) (kk : RunG l D cy ad none Y Rm Qf n k (pc + 3) L (.int (M i f) :: st) (lay X M)) : RunG l D cy ad none Y Rm Qf n k pc L (.ref i :: st) (lay X M) := g_getI hd hf hr (lay_get (kd_lt hk).1) (kd_lt hk).2 kk
theorem s_getR {idx ci f i j : Nat} (hd : decode Y.2.1 pc = .ok (.getfield idx, 3)) (hf : FLk Y.1.cls idx ci f) (hr : isRf ci f = true) (hk : kinds[i]? = some ci) (hj : RFd i (M i) f = some j) (kk : RunG l D cy ad none Y Rm Qf n k (pc + 3) L (.ref j :: st) (lay X M)) : RunG l D cy ad none Y Rm Qf n k pc L (.ref i :: st) (lay X M) := g_getR hd hf hr (lay_get (kd_lt hk).1) (kd_lt hk).2 (by show RunG l D cy ad none Y Rm Qf n k (pc + 3) L (va_rf (RFd i (M i) f) :: st) (lay X M); rw [hj]; exact kk)
theorem s_putI {idx ci f i : Nat} {v : Int32} (hd : decode Y.2.1 pc = .ok (.putfield idx, 3)) (hf : FLk Y.1.cls idx ci f) (hr : tyF ci f = .int ∨ (tyF ci f = .boolean ∧ (v = 0 ∨ v = 1))) (hfi : isFi ci f = false) (hk : kinds[i]? = some ci) (kk : RunG l D cy ad none Y Rm Qf n k (pc + 3) L st (lay X (up M i f v))) : RunG l D cy ad none Y Rm Qf n k pc L (.int v :: .ref i :: st) (lay X M) := by
  have hrf : isRf ci f = false := by
    unfold isRf
    rcases hr with h | h
    · rw [h]
    · rw [h.1]
  refine g_putI hd hf hr hfi (lay_get (kd_lt hk).1) (kd_lt hk).2 ?_
  show RunG l D cy ad none Y Rm Qf n k (pc + 3) L st ((lay X M).set i (KD i, LN i, upd (M i) f v, RFd i (M i)))
  rw [lay_set (kd_lt hk).1 (RFd_upd hk (fun _ => hrf)), upR_upd]
  exact kk
theorem s_iald {i N : Nat} {j : Int32} (hd : decode Y.2.1 pc = .ok (.iaload, 1)) (hk : kinds[i]? = some 14) (hN : LN i = N) (g : 0 ≤ j ∧ j.toNatClampNeg < N) (kk : RunG l D cy ad none Y Rm Qf n k (pc + 1) L (.int (M i j.toNatClampNeg) :: st) (lay X M)) : RunG l D cy ad none Y Rm Qf n k pc L (.int j :: .ref i :: st) (lay X M) := g_iald hd (lay_get (kd_lt hk).1) (kd_lt hk).2 g.1 (by show _ < LN i; rw [hN]; exact g.2) kk
theorem s_bald {i N : Nat} {j : Int32} (hd : decode Y.2.1 pc = .ok (.baload, 1)) (hk : kinds[i]? = some 12) (hN : LN i = N) (g : 0 ≤ j ∧ j.toNatClampNeg < N) (kk : RunG l D cy ad none Y Rm Qf n k (pc + 1) L (.int (M i j.toNatClampNeg) :: st) (lay X M)) : RunG l D cy ad none Y Rm Qf n k pc L (.int j :: .ref i :: st) (lay X M) := g_bald hd (lay_get (kd_lt hk).1) (kd_lt hk).2 g.1 (by show _ < LN i; rw [hN]; exact g.2) kk
theorem s_zald {i N : Nat} {j : Int32} (hd : decode Y.2.1 pc = .ok (.baload, 1)) (hk : kinds[i]? = some 15) (hN : LN i = N) (g : 0 ≤ j ∧ j.toNatClampNeg < N) (kk : RunG l D cy ad none Y Rm Qf n k (pc + 1) L (.int (M i j.toNatClampNeg) :: st) (lay X M)) : RunG l D cy ad none Y Rm Qf n k pc L (.int j :: .ref i :: st) (lay X M) := g_zald hd (lay_get (kd_lt hk).1) (kd_lt hk).2 g.1 (by show _ < LN i; rw [hN]; exact g.2) kk
theorem s_cald {i N : Nat} {j : Int32} (hd : decode Y.2.1 pc = .ok (.caload, 1)) (hk : kinds[i]? = some 13) (hN : LN i = N) (g : 0 ≤ j ∧ j.toNatClampNeg < N) (kk : RunG l D cy ad none Y Rm Qf n k (pc + 1) L (.int (M i j.toNatClampNeg) :: st) (lay X M)) : RunG l D cy ad none Y Rm Qf n k pc L (.int j :: .ref i :: st) (lay X M) := g_cald hd (lay_get (kd_lt hk).1) (kd_lt hk).2 g.1 (by show _ < LN i; rw [hN]; exact g.2) kk
theorem s_aaldS {i N q : Nat} {j : Int32} (hd : decode Y.2.1 pc = .ok (.aaload, 1)) (hk : kinds[i]? = some 16) (hN : LN i = N) (g : 0 ≤ j ∧ j.toNatClampNeg < N) (hj : RFd i (M i) j.toNatClampNeg = some q) (kk : RunG l D cy ad none Y Rm Qf n k (pc + 1) L (.ref q :: st) (lay X M)) : RunG l D cy ad none Y Rm Qf n k pc L (.int j :: .ref i :: st) (lay X M) := g_aaldS hd (lay_get (kd_lt hk).1) (kd_lt hk).2 g.1 (by show _ < LN i; rw [hN]; exact g.2) (by show RunG l D cy ad none Y Rm Qf n k (pc + 1) L (va_rf (RFd i (M i) j.toNatClampNeg) :: st) (lay X M); rw [hj]; exact kk)
theorem s_aaldA {i N q : Nat} {j : Int32} (hd : decode Y.2.1 pc = .ok (.aaload, 1)) (hk : kinds[i]? = some 17) (hN : LN i = N) (g : 0 ≤ j ∧ j.toNatClampNeg < N) (hj : RFd i (M i) j.toNatClampNeg = some q) (kk : RunG l D cy ad none Y Rm Qf n k (pc + 1) L (.ref q :: st) (lay X M)) : RunG l D cy ad none Y Rm Qf n k pc L (.int j :: .ref i :: st) (lay X M) := g_aaldA hd (lay_get (kd_lt hk).1) (kd_lt hk).2 g.1 (by show _ < LN i; rw [hN]; exact g.2) (by show RunG l D cy ad none Y Rm Qf n k (pc + 1) L (va_rf (RFd i (M i) j.toNatClampNeg) :: st) (lay X M); rw [hj]; exact kk)
theorem s_alen {i N : Nat} {v : Int32} (hd : decode Y.2.1 pc = .ok (.arraylength, 1)) (hk : kinds[i]? = some 13) (hN : LN i = N) (hv : Int32.ofNat N = v) (kk : RunG l D cy ad none Y Rm Qf n k (pc + 1) L (.int v :: st) (lay X M)) : RunG l D cy ad none Y Rm Qf n k pc L (.ref i :: st) (lay X M) := g_alen hd (lay_get (kd_lt hk).1) (by show 12 ≤ KD i ∧ KD i < 16; rw [(kd_lt hk).2]; decide) (by show Int32.ofNat (LN i) = v; rw [hN]; exact hv) kk
theorem s_iast {i N : Nat} {j x : Int32} (hd : decode Y.2.1 pc = .ok (.iastore, 1)) (hk : kinds[i]? = some 14) (hN : LN i = N) (g : 0 ≤ j ∧ j.toNatClampNeg < N) (kk : RunG l D cy ad none Y Rm Qf n k (pc + 1) L st (lay X (up M i j.toNatClampNeg x))) : RunG l D cy ad none Y Rm Qf n k pc L (.int x :: .int j :: .ref i :: st) (lay X M) := by
  refine g_iast hd (lay_get (kd_lt hk).1) (kd_lt hk).2 g.1 (by show _ < LN i; rw [hN]; exact g.2) ?_
  show RunG l D cy ad none Y Rm Qf n k (pc + 1) L st ((lay X M).set i (KD i, LN i, upd (M i) j.toNatClampNeg x, RFd i (M i)))
  rw [lay_set (kd_lt hk).1 (RFd_upd hk (fun h => absurd h (by decide))), upR_upd]
  exact kk
theorem s_bast {i N : Nat} {j x : Int32} (hd : decode Y.2.1 pc = .ok (.bastore, 1)) (hk : kinds[i]? = some 12) (hN : LN i = N) (g : 0 ≤ j ∧ j.toNatClampNeg < N) (kk : RunG l D cy ad none Y Rm Qf n k (pc + 1) L st (lay X (up M i j.toNatClampNeg (vp_nar .byte x)))) : RunG l D cy ad none Y Rm Qf n k pc L (.int x :: .int j :: .ref i :: st) (lay X M) := by
  refine g_bast hd (lay_get (kd_lt hk).1) (kd_lt hk).2 g.1 (by show _ < LN i; rw [hN]; exact g.2) ?_
  show RunG l D cy ad none Y Rm Qf n k (pc + 1) L st ((lay X M).set i (KD i, LN i, upd (M i) j.toNatClampNeg (vp_nar .byte x), RFd i (M i)))
  rw [lay_set (kd_lt hk).1 (RFd_upd hk (fun h => absurd h (by decide))), upR_upd]
  exact kk
theorem s_zast {i N : Nat} {j x : Int32} (hd : decode Y.2.1 pc = .ok (.bastore, 1)) (hk : kinds[i]? = some 15) (hN : LN i = N) (g : 0 ≤ j ∧ j.toNatClampNeg < N) (kk : RunG l D cy ad none Y Rm Qf n k (pc + 1) L st (lay X (up M i j.toNatClampNeg (vp_nar .boolean x)))) : RunG l D cy ad none Y Rm Qf n k pc L (.int x :: .int j :: .ref i :: st) (lay X M) := by
  refine g_zast hd (lay_get (kd_lt hk).1) (kd_lt hk).2 g.1 (by show _ < LN i; rw [hN]; exact g.2) ?_
  show RunG l D cy ad none Y Rm Qf n k (pc + 1) L st ((lay X M).set i (KD i, LN i, upd (M i) j.toNatClampNeg (vp_nar .boolean x), RFd i (M i)))
  rw [lay_set (kd_lt hk).1 (RFd_upd hk (fun h => absurd h (by decide))), upR_upd]
  exact kk
theorem s_cast {i N : Nat} {j x : Int32} (hd : decode Y.2.1 pc = .ok (.castore, 1)) (hk : kinds[i]? = some 13) (hN : LN i = N) (g : 0 ≤ j ∧ j.toNatClampNeg < N) (kk : RunG l D cy ad none Y Rm Qf n k (pc + 1) L st (lay X (up M i j.toNatClampNeg (vp_nar .char x)))) : RunG l D cy ad none Y Rm Qf n k pc L (.int x :: .int j :: .ref i :: st) (lay X M) := by
  refine g_cast hd (lay_get (kd_lt hk).1) (kd_lt hk).2 g.1 (by show _ < LN i; rw [hN]; exact g.2) ?_
  show RunG l D cy ad none Y Rm Qf n k (pc + 1) L st ((lay X M).set i (KD i, LN i, upd (M i) j.toNatClampNeg (vp_nar .char x), RFd i (M i)))
  rw [lay_set (kd_lt hk).1 (RFd_upd hk (fun h => absurd h (by decide))), upR_upd]
  exact kk
def cpM (M : Mem) (i0 i1 : Nat) (sp dp w : Int32) : Mem := upR M i1 (va_cpy (M i0) (M i1) sp.toNatClampNeg dp.toNatClampNeg w.toNatClampNeg)
/-- what arraycopy asks: ints (14) or chars (13) -/
abbrev cpOk (M : Mem) (i0 : Nat) (sp dp w : Int32) (N0 N1 : Nat) : Prop := ¬ sp < 0 ∧ ¬ dp < 0 ∧ ¬ w < 0 ∧ sp.toNatClampNeg + w.toNatClampNeg ≤ N0 ∧ dp.toNatClampNeg + w.toNatClampNeg ≤ N1
abbrev chOk (M : Mem) (i0 : Nat) (sp w : Int32) : Prop := ∀ i, i < w.toNatClampNeg → fits .char (.int (M i0 (sp.toNatClampNeg + i))) = true
theorem s_copy {idx i0 i1 N0 N1 : Nat} {sp dp w : Int32} (hd : decode Y.2.1 pc = .ok (.invokestatic idx, 3)) (hlk : Cond.methodLink Y.1.cls idx arraycopyName ∈ wsA) (hw : Cond.native arraycopyName ∈ wsA ∧ Cond.static arraycopyName ∈ wsA ∧ Cond.initialized "java/lang/System" ∈ wsA) (h0 : kinds[i0]? = some 14) (h1 : kinds[i1]? = some 14) (n0 : LN i0 = N0) (n1 : LN i1 = N1) (g : cpOk M i0 sp dp w N0 N1) (hst : (st.map fun v => v.category).sum ≤ 8) (hdp : 1 ≤ Rm.frames) (hdl : 40 ≤ Rm.locals) (kk : RunG l D cy ad none Y Rm Qf n k (pc + 3) L st (lay X (cpM M i0 i1 sp dp w))) : RunG l D cy ad none Y Rm Qf n k pc L (.int w :: .int dp :: .ref i1 :: .int sp :: .ref i0 :: st) (lay X M) := by
  refine g_copy hd hlk hw.1 hw.2.1 hw.2.2 (lay_get (kd_lt h0).1) (lay_get (kd_lt h1).1) (by show KD i0 = KD i1; rw [(kd_lt h0).2, (kd_lt h1).2]) (Or.inl (kd_lt h1).2) g.1 g.2.1 g.2.2.1 (by show _ ≤ LN i0; rw [n0]; exact g.2.2.2.1) (by show _ ≤ LN i1; rw [n1]; exact g.2.2.2.2) hst hdp hdl ?_
  show RunG l D cy ad none Y Rm Qf n k (pc + 3) L st ((lay X M).set i1 (KD i1, LN i1, va_cpy (M i0) (M i1) sp.toNatClampNeg dp.toNatClampNeg w.toNatClampNeg, RFd i1 (M i1)))
  rw [lay_set (kd_lt h1).1 (RFd_arr h1 (by decide))]
  exact kk
theorem s_copyC {idx i0 i1 N0 N1 : Nat} {sp dp w : Int32} (hd : decode Y.2.1 pc = .ok (.invokestatic idx, 3)) (hlk : Cond.methodLink Y.1.cls idx arraycopyName ∈ wsA) (hw : Cond.native arraycopyName ∈ wsA ∧ Cond.static arraycopyName ∈ wsA ∧ Cond.initialized "java/lang/System" ∈ wsA) (h0 : kinds[i0]? = some 13) (h1 : kinds[i1]? = some 13) (n0 : LN i0 = N0) (n1 : LN i1 = N1) (g : cpOk M i0 sp dp w N0 N1) (gc : chOk M i0 sp w) (hst : (st.map fun v => v.category).sum ≤ 8) (hdp : 1 ≤ Rm.frames) (hdl : 40 ≤ Rm.locals) (kk : RunG l D cy ad none Y Rm Qf n k (pc + 3) L st (lay X (cpM M i0 i1 sp dp w))) : RunG l D cy ad none Y Rm Qf n k pc L (.int w :: .int dp :: .ref i1 :: .int sp :: .ref i0 :: st) (lay X M) := by
  refine g_copy hd hlk hw.1 hw.2.1 hw.2.2 (lay_get (kd_lt h0).1) (lay_get (kd_lt h1).1) (by show KD i0 = KD i1; rw [(kd_lt h0).2, (kd_lt h1).2]) (Or.inr ⟨(kd_lt h1).2, gc⟩) g.1 g.2.1 g.2.2.1 (by show _ ≤ LN i0; rw [n0]; exact g.2.2.2.1) (by show _ ≤ LN i1; rw [n1]; exact g.2.2.2.2) hst hdp hdl ?_
  show RunG l D cy ad none Y Rm Qf n k (pc + 3) L st ((lay X M).set i1 (KD i1, LN i1, va_cpy (M i0) (M i1) sp.toNatClampNeg dp.toNatClampNeg w.toNatClampNeg, RFd i1 (M i1)))
  rw [lay_set (kd_lt h1).1 (RFd_arr h1 (by decide))]
  exact kk
/-- the world sees of the rows of references only what RFd tells -/
theorem Wo_law (M : Mem) (x : Int32) (v : Nat) (hv : dS x = v) : Wo cy ad ((lay X M).set 23 (KD 23, LN 23, M 23, va_up (RFd 23 (M 23)) 2 (some v))) = Wo cy ad (lay X (up M 23 2 x)) := by
  unfold Wo
  apply List.ext_getElem?
  intro j
  rw [List.getElem?_mapIdx, List.getElem?_mapIdx, List.getElem?_set, lay_len]
  by_cases h : 23 = j
  · subst h
    rw [if_pos rfl, if_pos (by omega), lay_get (by decide)]
    show some (ad 23, cE cy ad (KD 23, LN 23, M 23, va_up (RFd 23 (M 23)) 2 (some v))) = some (ad 23, cE cy ad (KD 23, LN 23, up M 23 2 x 23, RFd 23 (up M 23 2 x 23)))
    rw [cE_obj (c := (KD 23, LN 23, M 23, va_up (RFd 23 (M 23)) 2 (some v))) (show KD 23 < 12 by decide), cE_obj (c := (KD 23, LN 23, up M 23 2 x 23, RFd 23 (up M 23 2 x 23))) (show KD 23 < 12 by decide)]
    refine congrArg (fun z : List Value => some ((ad 23, Sum.inr (KD 23, z)) : Nat × va_E)) ?_
    unfold flds
    apply List.map_congr_left
    intro k _
    show (if isRf (KD 23) k then va_rf ((va_up (RFd 23 (M 23)) 2 (some v) k).map ad) else .int (M 23 k)) = (if isRf (KD 23) k then va_rf ((RFd 23 (up M 23 2 x 23) k).map ad) else .int (up M 23 2 x 23 k))
    by_cases hk : k = 2
    · subst hk
      rw [if_pos (by decide), if_pos (by decide)]
      simp [va_up, RFd, up, upd, hv]
    · have e1 : up M 23 2 x 23 k = M 23 k := by simp [up, upd, hk]
      have e2 : RFd 23 (up M 23 2 x 23) k = RFd 23 (M 23) k := by simp [RFd, hk]
      rw [e1, e2, va_up_ne _ _ hk]
  · rw [if_neg h]
    by_cases h2 : j < 204
    · rw [lay_get h2, lay_get h2]
      simp [up, Ne.symm h]
    · rw [lay_hi (by omega), lay_hi (by omega)]
theorem Wo_mod (M : Mem) (x : Int32) (v : Nat) (hx : ¬ x = 0) (hv : dR x = v) : Wo cy ad ((lay X M).set 174 (KD 174, LN 174, M 174, va_up (RFd 174 (M 174)) 15 (some v))) = Wo cy ad (lay X (up M 174 15 x)) := by
  unfold Wo
  apply List.ext_getElem?
  intro j
  rw [List.getElem?_mapIdx, List.getElem?_mapIdx, List.getElem?_set, lay_len]
  by_cases h : 174 = j
  · subst h
    rw [if_pos rfl, if_pos (by omega), lay_get (by decide)]
    show some (ad 174, cE cy ad (KD 174, LN 174, M 174, va_up (RFd 174 (M 174)) 15 (some v))) = some (ad 174, cE cy ad (KD 174, LN 174, up M 174 15 x 174, RFd 174 (up M 174 15 x 174)))
    rw [cE_obj (c := (KD 174, LN 174, M 174, va_up (RFd 174 (M 174)) 15 (some v))) (show KD 174 < 12 by decide), cE_obj (c := (KD 174, LN 174, up M 174 15 x 174, RFd 174 (up M 174 15 x 174))) (show KD 174 < 12 by decide)]
    refine congrArg (fun z : List Value => some ((ad 174, Sum.inr (KD 174, z)) : Nat × va_E)) ?_
    unfold flds
    apply List.map_congr_left
    intro k _
    show (if isRf (KD 174) k then va_rf ((va_up (RFd 174 (M 174)) 15 (some v) k).map ad) else .int (M 174 k)) = (if isRf (KD 174) k then va_rf ((RFd 174 (up M 174 15 x 174) k).map ad) else .int (up M 174 15 x 174 k))
    by_cases hk : k = 15
    · subst hk
      rw [if_pos (by decide), if_pos (by decide)]
      simp [va_up, RFd, up, upd, hv, hx]
    · have e1 : up M 174 15 x 174 k = M 174 k := by simp [up, upd, hk]
      have e2 : RFd 174 (up M 174 15 x 174) k = RFd 174 (M 174) k := by simp [RFd, hk]
      rw [e1, e2, va_up_ne _ _ hk]
  · rw [if_neg h]
    by_cases h2 : j < 204
    · rw [lay_get h2, lay_get h2]
      simp [up, Ne.symm h]
    · rw [lay_hi (by omega), lay_hi (by omega)]
theorem g_wo {m1 m2 : Mm} (h : Wo cy ad m1 = Wo cy ad m2) (kk : RunG l D cy ad none Y Rm Qf n k pc L st m2) : RunG l D cy ad none Y Rm Qf n k pc L st m1 := fun p e s m args below meth c A C H locs ls hW hz hS hl => kk p e s m args below meth c A C H locs ls (by unfold Wd at hW ⊢; rw [← h]; exact hW) trivial hS hl
theorem s_putSrc {idx v : Nat} (x : Int32) (hv : dS x = v) (hd : decode Y.2.1 pc = .ok (.putfield idx, 3)) (hf : FLk Y.1.cls idx 3 2) (kk : RunG l D cy ad none Y Rm Qf n k (pc + 3) L st (lay X (up M 23 2 x))) : RunG l D cy ad none Y Rm Qf n k pc L (.ref v :: .ref 23 :: st) (lay X M) := g_putR hd hf (by decide) ⟨by decide, fun a => ⟨rfl, rfl⟩⟩ (by decide) (lay_get (by decide)) rfl (g_wo (Wo_law M x v hv) kk)
theorem s_putRead {idx v : Nat} (x : Int32) (hx : ¬ x = 0) (hv : dR x = v) (hd : decode Y.2.1 pc = .ok (.putfield idx, 3)) (hf : FLk Y.1.cls idx 11 15) (kk : RunG l D cy ad none Y Rm Qf n k (pc + 3) L st (lay X (up M 174 15 x))) : RunG l D cy ad none Y Rm Qf n k pc L (.ref v :: .ref 174 :: st) (lay X M) := g_putR hd hf (by decide) ⟨by decide, fun a => ⟨rfl, rfl⟩⟩ (by decide) (lay_get (by decide)) rfl (g_wo (Wo_mod M x v hx hv) kk)
end NX6
