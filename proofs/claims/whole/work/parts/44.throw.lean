/-! the exception that group, room and row throw: its words -/
def RE : String := "java/util/NoSuchElementException"
def exN : List String := ["java/lang/RuntimeException", "java/lang/Exception"]
theorem ex_all : ∀ w ∈ vx_at0 RX10 157 RE exN, w ∈ lw_tbl := by decide +kernel
theorem ex_ot : ∀ w ∈ Cond.classLink RX10 155 RE :: Cond.initialized RE :: vx_at0 RX10 157 RE exN, vx_ot w = true := by decide +kernel
/-- those of them that a call doesn't carry by itself -/
def xwA : List Cond := [.declares ⟨"java/lang/RuntimeException", "<init>", "()V"⟩, .declares ⟨"java/lang/Exception", "<init>", "()V"⟩, .declares ⟨"java/lang/Throwable", "<init>", "()V"⟩, .castable RE RE]
theorem ex_bad : ∀ w ∈ (vx_at0 RX10 157 RE exN).filter (fun w => !goodWord w), w ∈ xwA := by decide +kernel
theorem xw_warm {s U : State} (hW : s.WarmedH U.vm) (h : ∀ w ∈ xwA, va_Nw w s) : ∀ w ∈ xwA, va_Nw w U := by
  intro w hw
  have h1 := h w hw
  simp only [xwA, List.mem_cons, List.not_mem_nil, or_false] at hw
  rcases hw with rfl | rfl | rfl | rfl
  · exact va_Nw.warmD hW h1
  · exact va_Nw.warmD hW h1
  · exact va_Nw.warmD hW h1
  · exact va_Nw.warmC hW h1
theorem ex_before {args : Array Value} {s : State} (h1 : ∀ w ∈ wsA, w.before args s = true) (h2 : ∀ w ∈ xwA, va_Nw w s) : ∀ w ∈ vx_at0 RX10 157 RE exN, w.before args s = true := by
  refine vx_hat (B := xwA) (fun w hw => ?_) ex_bad (fun w hw => ?_)
  · obtain ⟨a, b⟩ := List.mem_filter.mp hw
    exact h1 w (List.mem_filter.mpr ⟨ex_all w a, b⟩)
  · have h3 := h2 w hw
    simp only [xwA, List.mem_cons, List.not_mem_nil, or_false] at hw
    rcases hw with rfl | rfl | rfl | rfl <;> exact va_Nw.use rfl h3
set_option maxRecDepth 100000 in
theorem ex_link : Cond.classLink RX10 155 RE ∈ wsA ∧ Cond.initialized RE ∈ wsA := ⟨in_t5 62 rfl rfl, by decide +kernel⟩
