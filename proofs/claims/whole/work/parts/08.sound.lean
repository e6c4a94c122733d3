/-! the machine follows the abstract one: simple instructions -/
abbrev xNS : String := "java/util/NoSuchElementException"
def xDW : List Cond := [.declares ⟨"java/lang/RuntimeException", "<init>", "()V"⟩, .declares ⟨"java/lang/Exception", "<init>", "()V"⟩, .declares ⟨"java/lang/Throwable", "<init>", "()V"⟩, .castable xNS xNS]
/-- words of the tables that a call may not carry as they stand -/
def xXw (s : State) : Prop := (∀ c i y, xCR c i = some (y, 3) → (Cond.methodLinkNest (xR c) i (xY y) "OneChairShort").before #[] s = true) ∧ (Cond.arrayOver (.array .int)).before #[] s = true ∧ (Cond.arrayOver (.array .byte)).before #[] s = true ∧ ∀ w ∈ xDW, w.before #[] s = true
def xCtx (p : Program) (R : Room) (s : State) (m : MethodId) (args : Array Value) (meth : Method) (c : Code) (D : va_G) (G : xG) (A : Nat → Prop) (M d : Nat) : Prop :=
  p.tables.exec = Jvm.exec ∧ c.code = xB M ∧ c.maxLocals = xL M ∧ (∀ w ∈ xT, w.before args s = true) ∧ s.vm.findClass (xR (xC M)) = some m.cls ∧ va_K D vwCl (xTys G) s ∧ (∀ q, s.heap.size ≤ q → A q) ∧ (xInit M = true → meth.name = "<init>") ∧ meth.locks = false ∧
  (xAl M).1 ≤ R.cells ∧ (xAl M).2 ≤ R.slots ∧ d + 20 ≤ R.frames ∧ 60 * d + 600 ≤ R.locals ∧ xXw s
def xLk (α0 : Nat → Nat) (lay0 : List (Nat × Nat)) (M : Nat) (α : Nat → Nat) (lay : List (Nat × Nat)) : Prop := (∀ k, k < lay0.length ∨ k = 100000 → α k = α0 k) ∧ lay0.length ≤ lay.length ∧ (xGrow M = false → α = α0 ∧ lay = lay0)
def xAW (p : Program) (l : Launch) (e : Env) (R : Room) (s : State) (m : MethodId) (args : Array Value) (below : List Frame) (meth : Method) (c : Code) (D : va_G) (G : xG) (A : Nat → Prop) (M : Nat) (α0 : Nat → Nat) (lay0 : List (Nat × Nat)) (QW : State → Prop) : xPr := fun pc L S u σ =>
  ∀ (α : Nat → Nat) (H : Heap) (locs : List Loc) (ls : Array Slot), va_P D vwCl (xW G α σ) H → va_D A (xW G α σ) → va_S A s.heap H locs → xLv α ls L → L.length = xL M → u.1 ≤ (xAl M).1 → u.2 ≤ (xAl M).2 → xLk α0 lay0 M α σ.1 →
    W p l e R s m args below meth c H locs u.1 u.2 QW (F0 m pc ls (S.map (xcv α)))
section XS
variable {p : Program} {l : Launch} {e : Env} {R : Room} {s : State} {m : MethodId} {args : Array Value} {below : List Frame} {meth : Method} {c : Code} {D : va_G} {G : xG} {A : Nat → Prop} {M d : Nat} {α0 : Nat → Nat} {lay0 : List (Nat × Nat)} {QW : State → Prop}
variable {CW : Nat → List Value → xSt → xQr → Prop} {scr : Option (Nat × (Nat → Int32))} {Q : xQr} {pc : Nat} {L S : List Value} {u : Nat × Nat} {σ : xSt} {len : Nat}

theorem xs_iconst {n : Int} (C : xCtx p R s m args meth c D G A M d) (hd : decode (xB M) pc = .ok (.iconst n, len)) (h : xI CW scr M (xAW p l e R s m args below meth c D G A M α0 lay0 QW) Q pc L S u σ len (.iconst n)) : xAW p l e R s m args below meth c D G A M α0 lay0 QW pc L S u σ := by
  obtain ⟨hx, hb, hml, hts, hown, hK, hA, hin, hlk, hR1, hR2, hR3, hR4, hXw⟩ := C
  obtain ⟨rfl, k⟩ := h
  intro α H locs ls hP hD hS hl hn h1 h2 hk
  exact lv_iconst hx hb hd rfl (k α H locs ls hP hD hS hl hn h1 h2 hk)
theorem xs_bipush {n : Int} (C : xCtx p R s m args meth c D G A M d) (hd : decode (xB M) pc = .ok (.bipush n, len)) (h : xI CW scr M (xAW p l e R s m args below meth c D G A M α0 lay0 QW) Q pc L S u σ len (.bipush n)) : xAW p l e R s m args below meth c D G A M α0 lay0 QW pc L S u σ := by
  obtain ⟨hx, hb, hml, hts, hown, hK, hA, hin, hlk, hR1, hR2, hR3, hR4, hXw⟩ := C
  obtain ⟨rfl, k⟩ := h
  intro α H locs ls hP hD hS hl hn h1 h2 hk
  exact lv_bipush hx hb hd rfl (k α H locs ls hP hD hS hl hn h1 h2 hk)
theorem xs_sipush {n : Int} (C : xCtx p R s m args meth c D G A M d) (hd : decode (xB M) pc = .ok (.sipush n, len)) (h : xI CW scr M (xAW p l e R s m args below meth c D G A M α0 lay0 QW) Q pc L S u σ len (.sipush n)) : xAW p l e R s m args below meth c D G A M α0 lay0 QW pc L S u σ := by
  obtain ⟨hx, hb, hml, hts, hown, hK, hA, hin, hlk, hR1, hR2, hR3, hR4, hXw⟩ := C
  obtain ⟨rfl, k⟩ := h
  intro α H locs ls hP hD hS hl hn h1 h2 hk
  exact lv_sipush hx hb hd rfl (k α H locs ls hP hD hS hl hn h1 h2 hk)
theorem xK_word {c i : Nat} {v : Int32} {w : Nat} (h : xKR c i = some (v, w)) : Cond.constant (xR c) i v ∈ xT := by
  obtain ⟨h1, h2, h3⟩ := xLook_mem h
  have h4 := List.all_eq_true.mp xKL_ok _ h1
  dsimp only at h4
  rw [h2, h3] at h4
  exact xIs_in h4
theorem xs_ldc {z : Nat} (C : xCtx p R s m args meth c D G A M d) (hd : decode (xB M) pc = .ok (.ldc z, len)) (h : xI CW scr M (xAW p l e R s m args below meth c D G A M α0 lay0 QW) Q pc L S u σ len (.ldc z)) : xAW p l e R s m args below meth c D G A M α0 lay0 QW pc L S u σ := by
  obtain ⟨hx, hb, hml, hts, hown, hK, hA, hin, hlk, hR1, hR2, hR3, hR4, hXw⟩ := C
  obtain ⟨rfl, v, w, hv, k⟩ := h
  intro α H locs ls hP hD hS hl hn h1 h2 hk
  exact lv_ldc hx hb hown (hts _ (xK_word hv)) hd (k α H locs ls hP hD hS hl hn h1 h2 hk)
theorem xs_ldc_w {z : Nat} (C : xCtx p R s m args meth c D G A M d) (hd : decode (xB M) pc = .ok (.ldc_w z, len)) (h : xI CW scr M (xAW p l e R s m args below meth c D G A M α0 lay0 QW) Q pc L S u σ len (.ldc_w z)) : xAW p l e R s m args below meth c D G A M α0 lay0 QW pc L S u σ := by
  obtain ⟨hx, hb, hml, hts, hown, hK, hA, hin, hlk, hR1, hR2, hR3, hR4, hXw⟩ := C
  obtain ⟨rfl, v, w, hv, k⟩ := h
  intro α H locs ls hP hD hS hl hn h1 h2 hk
  exact lv_ldcw hx hb hown (hts _ (xK_word hv)) hd (k α H locs ls hP hD hS hl hn h1 h2 hk)
theorem xs_iload_n {z : Fin 4} (C : xCtx p R s m args meth c D G A M d) (hd : decode (xB M) pc = .ok (.iload_n z, len)) (h : xI CW scr M (xAW p l e R s m args below meth c D G A M α0 lay0 QW) Q pc L S u σ len (.iload_n z)) : xAW p l e R s m args below meth c D G A M α0 lay0 QW pc L S u σ := by
  obtain ⟨hx, hb, hml, hts, hown, hK, hA, hin, hlk, hR1, hR2, hR3, hR4, hXw⟩ := C
  obtain ⟨rfl, x, hv, k⟩ := h
  intro α H locs ls hP hD hS hl hn h1 h2 hk
  exact lv_iload_n hx hb hd rfl (hl.2.2 _ _ hv (fun q => by cases q)).2 (k α H locs ls hP hD hS hl hn h1 h2 hk)
theorem xs_iload {z : Nat} (C : xCtx p R s m args meth c D G A M d) (hd : decode (xB M) pc = .ok (.iload z, len)) (h : xI CW scr M (xAW p l e R s m args below meth c D G A M α0 lay0 QW) Q pc L S u σ len (.iload z)) : xAW p l e R s m args below meth c D G A M α0 lay0 QW pc L S u σ := by
  obtain ⟨hx, hb, hml, hts, hown, hK, hA, hin, hlk, hR1, hR2, hR3, hR4, hXw⟩ := C
  obtain ⟨rfl, x, hv, k⟩ := h
  intro α H locs ls hP hD hS hl hn h1 h2 hk
  exact lv_iload hx hb hd (hl.2.2 _ _ hv (fun q => by cases q)).2 (k α H locs ls hP hD hS hl hn h1 h2 hk)
theorem xs_aload_n {z : Fin 4} (C : xCtx p R s m args meth c D G A M d) (hd : decode (xB M) pc = .ok (.aload_n z, len)) (h : xI CW scr M (xAW p l e R s m args below meth c D G A M α0 lay0 QW) Q pc L S u σ len (.aload_n z)) : xAW p l e R s m args below meth c D G A M α0 lay0 QW pc L S u σ := by
  obtain ⟨hx, hb, hml, hts, hown, hK, hA, hin, hlk, hR1, hR2, hR3, hR4, hXw⟩ := C
  obtain ⟨rfl, x, hv, k⟩ := h
  intro α H locs ls hP hD hS hl hn h1 h2 hk
  exact lv_aload_n hx hb hd rfl (hl.2.2 _ _ hv (fun q => by cases q)).2 (k α H locs ls hP hD hS hl hn h1 h2 hk)
theorem xs_aload {z : Nat} (C : xCtx p R s m args meth c D G A M d) (hd : decode (xB M) pc = .ok (.aload z, len)) (h : xI CW scr M (xAW p l e R s m args below meth c D G A M α0 lay0 QW) Q pc L S u σ len (.aload z)) : xAW p l e R s m args below meth c D G A M α0 lay0 QW pc L S u σ := by
  obtain ⟨hx, hb, hml, hts, hown, hK, hA, hin, hlk, hR1, hR2, hR3, hR4, hXw⟩ := C
  obtain ⟨rfl, x, hv, k⟩ := h
  intro α H locs ls hP hD hS hl hn h1 h2 hk
  exact lv_aload hx hb hd (hl.2.2 _ _ hv (fun q => by cases q)).2 (k α H locs ls hP hD hS hl hn h1 h2 hk)
theorem xs_istore_n {z : Fin 4} (C : xCtx p R s m args meth c D G A M d) (hd : decode (xB M) pc = .ok (.istore_n z, len)) (h : xI CW scr M (xAW p l e R s m args below meth c D G A M α0 lay0 QW) Q pc L S u σ len (.istore_n z)) : xAW p l e R s m args below meth c D G A M α0 lay0 QW pc L S u σ := by
  obtain ⟨hx, hb, hml, hts, hown, hK, hA, hin, hlk, hR1, hR2, hR3, hR4, hXw⟩ := C
  obtain ⟨rfl, x, r, rfl, hz, k⟩ := h
  intro α H locs ls hP hD hS hl hn h1 h2 hk
  obtain ⟨lv, g1, g2, g3⟩ := xLv_has hl
  exact lv_istore_n (nL := L.length) hx hb hd rfl g1 hz rfl (fun ls' hl' => k α H locs ls' hP hD hS (xLv_store (x := .int x) g2 g3 rfl hl hl') (by rw [List.length_set]; exact hn) h1 h2 hk)
theorem xs_astore_n {z : Fin 4} (C : xCtx p R s m args meth c D G A M d) (hd : decode (xB M) pc = .ok (.astore_n z, len)) (h : xI CW scr M (xAW p l e R s m args below meth c D G A M α0 lay0 QW) Q pc L S u σ len (.astore_n z)) : xAW p l e R s m args below meth c D G A M α0 lay0 QW pc L S u σ := by
  obtain ⟨hx, hb, hml, hts, hown, hK, hA, hin, hlk, hR1, hR2, hR3, hR4, hXw⟩ := C
  obtain ⟨rfl, x, r, rfl, hz, k⟩ := h
  intro α H locs ls hP hD hS hl hn h1 h2 hk
  obtain ⟨lv, g1, g2, g3⟩ := xLv_has hl
  exact lv_astore_n (nL := L.length) hx hb hd rfl g1 hz rfl (fun ls' hl' => k α H locs ls' hP hD hS (xLv_store (x := .ref x) g2 g3 rfl hl hl') (by rw [List.length_set]; exact hn) h1 h2 hk)
theorem xs_istore {z : Nat} (C : xCtx p R s m args meth c D G A M d) (hd : decode (xB M) pc = .ok (.istore z, len)) (h : xI CW scr M (xAW p l e R s m args below meth c D G A M α0 lay0 QW) Q pc L S u σ len (.istore z)) : xAW p l e R s m args below meth c D G A M α0 lay0 QW pc L S u σ := by
  obtain ⟨hx, hb, hml, hts, hown, hK, hA, hin, hlk, hR1, hR2, hR3, hR4, hXw⟩ := C
  obtain ⟨rfl, x, r, rfl, hz, k⟩ := h
  intro α H locs ls hP hD hS hl hn h1 h2 hk
  obtain ⟨lv, g1, g2, g3⟩ := xLv_has hl
  exact lv_istore (nL := L.length) hx hb hd g1 hz rfl (fun ls' hl' => k α H locs ls' hP hD hS (xLv_store (x := .int x) g2 g3 rfl hl hl') (by rw [List.length_set]; exact hn) h1 h2 hk)
theorem xs_astore {z : Nat} (C : xCtx p R s m args meth c D G A M d) (hd : decode (xB M) pc = .ok (.astore z, len)) (h : xI CW scr M (xAW p l e R s m args below meth c D G A M α0 lay0 QW) Q pc L S u σ len (.astore z)) : xAW p l e R s m args below meth c D G A M α0 lay0 QW pc L S u σ := by
  obtain ⟨hx, hb, hml, hts, hown, hK, hA, hin, hlk, hR1, hR2, hR3, hR4, hXw⟩ := C
  obtain ⟨rfl, x, r, rfl, hz, k⟩ := h
  intro α H locs ls hP hD hS hl hn h1 h2 hk
  obtain ⟨lv, g1, g2, g3⟩ := xLv_has hl
  exact lv_astore (nL := L.length) hx hb hd g1 hz rfl (fun ls' hl' => k α H locs ls' hP hD hS (xLv_store (x := .ref x) g2 g3 rfl hl hl') (by rw [List.length_set]; exact hn) h1 h2 hk)
theorem xs_iinc {z : Nat} {n : Int} (C : xCtx p R s m args meth c D G A M d) (hd : decode (xB M) pc = .ok (.iinc z n, len)) (h : xI CW scr M (xAW p l e R s m args below meth c D G A M α0 lay0 QW) Q pc L S u σ len (.iinc z n)) : xAW p l e R s m args below meth c D G A M α0 lay0 QW pc L S u σ := by
  obtain ⟨hx, hb, hml, hts, hown, hK, hA, hin, hlk, hR1, hR2, hR3, hR4, hXw⟩ := C
  obtain ⟨rfl, x, hv, k⟩ := h
  intro α H locs ls hP hD hS hl hn h1 h2 hk
  obtain ⟨lv, g1, g2, g3⟩ := xLv_has hl
  have hz : z < L.length := (List.getElem?_eq_some_iff.mp hv).1
  obtain ⟨kk, hkk⟩ := List.getElem?_of_mem (g3 z _ hv (fun q => by cases q))
  exact lv_iinc (nL := L.length) hx hb hd g1 hkk rfl hz rfl (fun ls' hl' => k α H locs ls' hP hD hS (xLv_store (x := .int (x + Int32.ofInt n)) g2 g3 rfl hl hl') (by rw [List.length_set]; exact hn) h1 h2 hk)
theorem xs_iadd (C : xCtx p R s m args meth c D G A M d) (hd : decode (xB M) pc = .ok (.iadd, len)) (h : xI CW scr M (xAW p l e R s m args below meth c D G A M α0 lay0 QW) Q pc L S u σ len (.iadd)) : xAW p l e R s m args below meth c D G A M α0 lay0 QW pc L S u σ := by
  obtain ⟨hx, hb, hml, hts, hown, hK, hA, hin, hlk, hR1, hR2, hR3, hR4, hXw⟩ := C
  obtain ⟨rfl, y, x, r, rfl, k⟩ := h
  intro α H locs ls hP hD hS hl hn h1 h2 hk
  exact lv_iadd hx hb hd (k α H locs ls hP hD hS hl hn h1 h2 hk)
theorem xs_isub (C : xCtx p R s m args meth c D G A M d) (hd : decode (xB M) pc = .ok (.isub, len)) (h : xI CW scr M (xAW p l e R s m args below meth c D G A M α0 lay0 QW) Q pc L S u σ len (.isub)) : xAW p l e R s m args below meth c D G A M α0 lay0 QW pc L S u σ := by
  obtain ⟨hx, hb, hml, hts, hown, hK, hA, hin, hlk, hR1, hR2, hR3, hR4, hXw⟩ := C
  obtain ⟨rfl, y, x, r, rfl, k⟩ := h
  intro α H locs ls hP hD hS hl hn h1 h2 hk
  exact lv_isub hx hb hd (k α H locs ls hP hD hS hl hn h1 h2 hk)
theorem xs_imul (C : xCtx p R s m args meth c D G A M d) (hd : decode (xB M) pc = .ok (.imul, len)) (h : xI CW scr M (xAW p l e R s m args below meth c D G A M α0 lay0 QW) Q pc L S u σ len (.imul)) : xAW p l e R s m args below meth c D G A M α0 lay0 QW pc L S u σ := by
  obtain ⟨hx, hb, hml, hts, hown, hK, hA, hin, hlk, hR1, hR2, hR3, hR4, hXw⟩ := C
  obtain ⟨rfl, y, x, r, rfl, k⟩ := h
  intro α H locs ls hP hD hS hl hn h1 h2 hk
  exact lv_imul hx hb hd (k α H locs ls hP hD hS hl hn h1 h2 hk)
theorem xs_iand (C : xCtx p R s m args meth c D G A M d) (hd : decode (xB M) pc = .ok (.iand, len)) (h : xI CW scr M (xAW p l e R s m args below meth c D G A M α0 lay0 QW) Q pc L S u σ len (.iand)) : xAW p l e R s m args below meth c D G A M α0 lay0 QW pc L S u σ := by
  obtain ⟨hx, hb, hml, hts, hown, hK, hA, hin, hlk, hR1, hR2, hR3, hR4, hXw⟩ := C
  obtain ⟨rfl, y, x, r, rfl, k⟩ := h
  intro α H locs ls hP hD hS hl hn h1 h2 hk
  exact lv_iand hx hb hd (k α H locs ls hP hD hS hl hn h1 h2 hk)
theorem xs_ior (C : xCtx p R s m args meth c D G A M d) (hd : decode (xB M) pc = .ok (.ior, len)) (h : xI CW scr M (xAW p l e R s m args below meth c D G A M α0 lay0 QW) Q pc L S u σ len (.ior)) : xAW p l e R s m args below meth c D G A M α0 lay0 QW pc L S u σ := by
  obtain ⟨hx, hb, hml, hts, hown, hK, hA, hin, hlk, hR1, hR2, hR3, hR4, hXw⟩ := C
  obtain ⟨rfl, y, x, r, rfl, k⟩ := h
  intro α H locs ls hP hD hS hl hn h1 h2 hk
  exact lv_ior hx hb hd (k α H locs ls hP hD hS hl hn h1 h2 hk)
theorem xs_ixor (C : xCtx p R s m args meth c D G A M d) (hd : decode (xB M) pc = .ok (.ixor, len)) (h : xI CW scr M (xAW p l e R s m args below meth c D G A M α0 lay0 QW) Q pc L S u σ len (.ixor)) : xAW p l e R s m args below meth c D G A M α0 lay0 QW pc L S u σ := by
  obtain ⟨hx, hb, hml, hts, hown, hK, hA, hin, hlk, hR1, hR2, hR3, hR4, hXw⟩ := C
  obtain ⟨rfl, y, x, r, rfl, k⟩ := h
  intro α H locs ls hP hD hS hl hn h1 h2 hk
  exact lv_ixor hx hb hd (k α H locs ls hP hD hS hl hn h1 h2 hk)
theorem xs_ishl (C : xCtx p R s m args meth c D G A M d) (hd : decode (xB M) pc = .ok (.ishl, len)) (h : xI CW scr M (xAW p l e R s m args below meth c D G A M α0 lay0 QW) Q pc L S u σ len (.ishl)) : xAW p l e R s m args below meth c D G A M α0 lay0 QW pc L S u σ := by
  obtain ⟨hx, hb, hml, hts, hown, hK, hA, hin, hlk, hR1, hR2, hR3, hR4, hXw⟩ := C
  obtain ⟨rfl, y, x, r, rfl, k⟩ := h
  intro α H locs ls hP hD hS hl hn h1 h2 hk
  exact lv_ishl hx hb hd (k α H locs ls hP hD hS hl hn h1 h2 hk)
theorem xs_ishr (C : xCtx p R s m args meth c D G A M d) (hd : decode (xB M) pc = .ok (.ishr, len)) (h : xI CW scr M (xAW p l e R s m args below meth c D G A M α0 lay0 QW) Q pc L S u σ len (.ishr)) : xAW p l e R s m args below meth c D G A M α0 lay0 QW pc L S u σ := by
  obtain ⟨hx, hb, hml, hts, hown, hK, hA, hin, hlk, hR1, hR2, hR3, hR4, hXw⟩ := C
  obtain ⟨rfl, y, x, r, rfl, k⟩ := h
  intro α H locs ls hP hD hS hl hn h1 h2 hk
  exact lv_ishr hx hb hd (k α H locs ls hP hD hS hl hn h1 h2 hk)
theorem xs_iushr (C : xCtx p R s m args meth c D G A M d) (hd : decode (xB M) pc = .ok (.iushr, len)) (h : xI CW scr M (xAW p l e R s m args below meth c D G A M α0 lay0 QW) Q pc L S u σ len (.iushr)) : xAW p l e R s m args below meth c D G A M α0 lay0 QW pc L S u σ := by
  obtain ⟨hx, hb, hml, hts, hown, hK, hA, hin, hlk, hR1, hR2, hR3, hR4, hXw⟩ := C
  obtain ⟨rfl, y, x, r, rfl, k⟩ := h
  intro α H locs ls hP hD hS hl hn h1 h2 hk
  exact lv_iushr hx hb hd rfl (k α H locs ls hP hD hS hl hn h1 h2 hk)
theorem xs_idiv (C : xCtx p R s m args meth c D G A M d) (hd : decode (xB M) pc = .ok (.idiv, len)) (h : xI CW scr M (xAW p l e R s m args below meth c D G A M α0 lay0 QW) Q pc L S u σ len (.idiv)) : xAW p l e R s m args below meth c D G A M α0 lay0 QW pc L S u σ := by
  obtain ⟨hx, hb, hml, hts, hown, hK, hA, hin, hlk, hR1, hR2, hR3, hR4, hXw⟩ := C
  obtain ⟨rfl, y, x, r, rfl, hy, k⟩ := h
  intro α H locs ls hP hD hS hl hn h1 h2 hk
  exact lv_idiv hx hb hd hy (k α H locs ls hP hD hS hl hn h1 h2 hk)
theorem xs_irem (C : xCtx p R s m args meth c D G A M d) (hd : decode (xB M) pc = .ok (.irem, len)) (h : xI CW scr M (xAW p l e R s m args below meth c D G A M α0 lay0 QW) Q pc L S u σ len (.irem)) : xAW p l e R s m args below meth c D G A M α0 lay0 QW pc L S u σ := by
  obtain ⟨hx, hb, hml, hts, hown, hK, hA, hin, hlk, hR1, hR2, hR3, hR4, hXw⟩ := C
  obtain ⟨rfl, y, x, r, rfl, hy, k⟩ := h
  intro α H locs ls hP hD hS hl hn h1 h2 hk
  exact lv_irem hx hb hd hy (k α H locs ls hP hD hS hl hn h1 h2 hk)
theorem xs_ineg (C : xCtx p R s m args meth c D G A M d) (hd : decode (xB M) pc = .ok (.ineg, len)) (h : xI CW scr M (xAW p l e R s m args below meth c D G A M α0 lay0 QW) Q pc L S u σ len (.ineg)) : xAW p l e R s m args below meth c D G A M α0 lay0 QW pc L S u σ := by
  obtain ⟨hx, hb, hml, hts, hown, hK, hA, hin, hlk, hR1, hR2, hR3, hR4, hXw⟩ := C
  obtain ⟨rfl, x, r, rfl, k⟩ := h
  intro α H locs ls hP hD hS hl hn h1 h2 hk
  exact lv_ineg hx hb hd (k α H locs ls hP hD hS hl hn h1 h2 hk)
theorem xs_i2l (C : xCtx p R s m args meth c D G A M d) (hd : decode (xB M) pc = .ok (.i2l, len)) (h : xI CW scr M (xAW p l e R s m args below meth c D G A M α0 lay0 QW) Q pc L S u σ len (.i2l)) : xAW p l e R s m args below meth c D G A M α0 lay0 QW pc L S u σ := by
  obtain ⟨hx, hb, hml, hts, hown, hK, hA, hin, hlk, hR1, hR2, hR3, hR4, hXw⟩ := C
  obtain ⟨rfl, x, r, rfl, k⟩ := h
  intro α H locs ls hP hD hS hl hn h1 h2 hk
  exact lv_i2l hx hb hd rfl (k α H locs ls hP hD hS hl hn h1 h2 hk)
theorem xs_i2b (C : xCtx p R s m args meth c D G A M d) (hd : decode (xB M) pc = .ok (.i2b, len)) (h : xI CW scr M (xAW p l e R s m args below meth c D G A M α0 lay0 QW) Q pc L S u σ len (.i2b)) : xAW p l e R s m args below meth c D G A M α0 lay0 QW pc L S u σ := by
  obtain ⟨hx, hb, hml, hts, hown, hK, hA, hin, hlk, hR1, hR2, hR3, hR4, hXw⟩ := C
  obtain ⟨rfl, x, r, rfl, k⟩ := h
  intro α H locs ls hP hD hS hl hn h1 h2 hk
  exact lv_i2b hx hb hd rfl (k α H locs ls hP hD hS hl hn h1 h2 hk)
theorem xs_i2s (C : xCtx p R s m args meth c D G A M d) (hd : decode (xB M) pc = .ok (.i2s, len)) (h : xI CW scr M (xAW p l e R s m args below meth c D G A M α0 lay0 QW) Q pc L S u σ len (.i2s)) : xAW p l e R s m args below meth c D G A M α0 lay0 QW pc L S u σ := by
  obtain ⟨hx, hb, hml, hts, hown, hK, hA, hin, hlk, hR1, hR2, hR3, hR4, hXw⟩ := C
  obtain ⟨rfl, x, r, rfl, k⟩ := h
  intro α H locs ls hP hD hS hl hn h1 h2 hk
  exact lv_i2s hx hb hd rfl (k α H locs ls hP hD hS hl hn h1 h2 hk)
theorem xs_lcmp (C : xCtx p R s m args meth c D G A M d) (hd : decode (xB M) pc = .ok (.lcmp, len)) (h : xI CW scr M (xAW p l e R s m args below meth c D G A M α0 lay0 QW) Q pc L S u σ len (.lcmp)) : xAW p l e R s m args below meth c D G A M α0 lay0 QW pc L S u σ := by
  obtain ⟨hx, hb, hml, hts, hown, hK, hA, hin, hlk, hR1, hR2, hR3, hR4, hXw⟩ := C
  obtain ⟨rfl, y, x, r, rfl, k⟩ := h
  intro α H locs ls hP hD hS hl hn h1 h2 hk
  exact W.lcmp hx hb hd (k α H locs ls hP hD hS hl hn h1 h2 hk)
theorem xs_dup (C : xCtx p R s m args meth c D G A M d) (hd : decode (xB M) pc = .ok (.dup, len)) (h : xI CW scr M (xAW p l e R s m args below meth c D G A M α0 lay0 QW) Q pc L S u σ len (.dup)) : xAW p l e R s m args below meth c D G A M α0 lay0 QW pc L S u σ := by
  obtain ⟨hx, hb, hml, hts, hown, hK, hA, hin, hlk, hR1, hR2, hR3, hR4, hXw⟩ := C
  obtain ⟨rfl, v, r, rfl, c1, k⟩ := h
  intro α H locs ls hP hD hS hl hn h1 h2 hk
  exact lv_dup hx hb hd (by rw [xcv_cat]; exact c1) (k α H locs ls hP hD hS hl hn h1 h2 hk)
theorem xs_pop (C : xCtx p R s m args meth c D G A M d) (hd : decode (xB M) pc = .ok (.pop, len)) (h : xI CW scr M (xAW p l e R s m args below meth c D G A M α0 lay0 QW) Q pc L S u σ len (.pop)) : xAW p l e R s m args below meth c D G A M α0 lay0 QW pc L S u σ := by
  obtain ⟨hx, hb, hml, hts, hown, hK, hA, hin, hlk, hR1, hR2, hR3, hR4, hXw⟩ := C
  obtain ⟨rfl, v, r, rfl, c1, k⟩ := h
  intro α H locs ls hP hD hS hl hn h1 h2 hk
  exact lv_pop hx hb hd (by rw [xcv_cat]; exact c1) (k α H locs ls hP hD hS hl hn h1 h2 hk)
theorem xs_dup_x1 (C : xCtx p R s m args meth c D G A M d) (hd : decode (xB M) pc = .ok (.dup_x1, len)) (h : xI CW scr M (xAW p l e R s m args below meth c D G A M α0 lay0 QW) Q pc L S u σ len (.dup_x1)) : xAW p l e R s m args below meth c D G A M α0 lay0 QW pc L S u σ := by
  obtain ⟨hx, hb, hml, hts, hown, hK, hA, hin, hlk, hR1, hR2, hR3, hR4, hXw⟩ := C
  obtain ⟨rfl, v, w, r, rfl, c1, c2, k⟩ := h
  intro α H locs ls hP hD hS hl hn h1 h2 hk
  exact lv_dup_x1 hx hb hd (by rw [xcv_cat]; exact c1) (by rw [xcv_cat]; exact c2) (k α H locs ls hP hD hS hl hn h1 h2 hk)
theorem xs_dup2 (C : xCtx p R s m args meth c D G A M d) (hd : decode (xB M) pc = .ok (.dup2, len)) (h : xI CW scr M (xAW p l e R s m args below meth c D G A M α0 lay0 QW) Q pc L S u σ len (.dup2)) : xAW p l e R s m args below meth c D G A M α0 lay0 QW pc L S u σ := by
  obtain ⟨hx, hb, hml, hts, hown, hK, hA, hin, hlk, hR1, hR2, hR3, hR4, hXw⟩ := C
  obtain ⟨rfl, v, w, r, rfl, c1, c2, k⟩ := h
  intro α H locs ls hP hD hS hl hn h1 h2 hk
  exact lv_dup2_11 hx hb hd (by rw [xcv_cat]; exact c1) (by rw [xcv_cat]; exact c2) (k α H locs ls hP hD hS hl hn h1 h2 hk)
theorem xs_goto {off : Int} (C : xCtx p R s m args meth c D G A M d) (hd : decode (xB M) pc = .ok (.goto off, len)) (h : xI CW scr M (xAW p l e R s m args below meth c D G A M α0 lay0 QW) Q pc L S u σ len (.goto off)) : xAW p l e R s m args below meth c D G A M α0 lay0 QW pc L S u σ := by
  obtain ⟨hx, hb, hml, hts, hown, hK, hA, hin, hlk, hR1, hR2, hR3, hR4, hXw⟩ := C
  obtain ⟨rfl, t, ht, k⟩ := h
  intro α H locs ls hP hD hS hl hn h1 h2 hk
  exact lv_goto hx hb hd ht (k α H locs ls hP hD hS hl hn h1 h2 hk)
theorem xs_ifCond {z : Jvm.ClassFile.Cond} {off : Int} (C : xCtx p R s m args meth c D G A M d) (hd : decode (xB M) pc = .ok (.ifCond z off, len)) (h : xI CW scr M (xAW p l e R s m args below meth c D G A M α0 lay0 QW) Q pc L S u σ len (.ifCond z off)) : xAW p l e R s m args below meth c D G A M α0 lay0 QW pc L S u σ := by
  obtain ⟨hx, hb, hml, hts, hown, hK, hA, hin, hlk, hR1, hR2, hR3, hR4, hXw⟩ := C
  obtain ⟨rfl, x, r, rfl, t, ht, k1, k2⟩ := h
  intro α H locs ls hP hD hS hl hn h1 h2 hk
  cases z
  case eq => exact lv_if_eq hx hb hd ht (fun q => k1 q α H locs ls hP hD hS hl hn h1 h2 hk) (fun q => k2 q α H locs ls hP hD hS hl hn h1 h2 hk)
  case ne => exact lv_if_ne hx hb hd ht (fun q => k1 q α H locs ls hP hD hS hl hn h1 h2 hk) (fun q => k2 (fun w => w q) α H locs ls hP hD hS hl hn h1 h2 hk)
  case lt => exact lv_if_lt hx hb hd ht (fun q => k1 q α H locs ls hP hD hS hl hn h1 h2 hk) (fun q => k2 q α H locs ls hP hD hS hl hn h1 h2 hk)
  case ge => exact lv_if_ge hx hb hd ht (fun q => k1 q α H locs ls hP hD hS hl hn h1 h2 hk) (fun q => k2 q α H locs ls hP hD hS hl hn h1 h2 hk)
  case gt => exact lv_if_gt hx hb hd ht (fun q => k1 q α H locs ls hP hD hS hl hn h1 h2 hk) (fun q => k2 q α H locs ls hP hD hS hl hn h1 h2 hk)
  case le => exact lv_if_le hx hb hd ht (fun q => k1 q α H locs ls hP hD hS hl hn h1 h2 hk) (fun q => k2 q α H locs ls hP hD hS hl hn h1 h2 hk)
theorem xs_if_icmp {z : Jvm.ClassFile.Cond} {off : Int} (C : xCtx p R s m args meth c D G A M d) (hd : decode (xB M) pc = .ok (.if_icmp z off, len)) (h : xI CW scr M (xAW p l e R s m args below meth c D G A M α0 lay0 QW) Q pc L S u σ len (.if_icmp z off)) : xAW p l e R s m args below meth c D G A M α0 lay0 QW pc L S u σ := by
  obtain ⟨hx, hb, hml, hts, hown, hK, hA, hin, hlk, hR1, hR2, hR3, hR4, hXw⟩ := C
  obtain ⟨rfl, y, x, r, rfl, t, ht, k1, k2⟩ := h
  intro α H locs ls hP hD hS hl hn h1 h2 hk
  cases z
  case eq => exact lv_icmp_eq hx hb hd ht (fun q => k1 q α H locs ls hP hD hS hl hn h1 h2 hk) (fun q => k2 q α H locs ls hP hD hS hl hn h1 h2 hk)
  case ne => exact lv_icmp_ne hx hb hd ht (fun q => k1 q α H locs ls hP hD hS hl hn h1 h2 hk) (fun q => k2 (fun w => w q) α H locs ls hP hD hS hl hn h1 h2 hk)
  case lt => exact lv_icmp_lt hx hb hd ht (fun q => k1 q α H locs ls hP hD hS hl hn h1 h2 hk) (fun q => k2 q α H locs ls hP hD hS hl hn h1 h2 hk)
  case ge => exact lv_icmp_ge hx hb hd ht (fun q => k1 q α H locs ls hP hD hS hl hn h1 h2 hk) (fun q => k2 q α H locs ls hP hD hS hl hn h1 h2 hk)
  case gt => exact lv_icmp_gt hx hb hd ht (fun q => k1 q α H locs ls hP hD hS hl hn h1 h2 hk) (fun q => k2 q α H locs ls hP hD hS hl hn h1 h2 hk)
  case le => exact lv_icmp_le hx hb hd ht (fun q => k1 q α H locs ls hP hD hS hl hn h1 h2 hk) (fun q => k2 q α H locs ls hP hD hS hl hn h1 h2 hk)
theorem xs_tableswitch {dd lo hi : Int} {offs : Array Int} (C : xCtx p R s m args meth c D G A M d) (hd : decode (xB M) pc = .ok (.tableswitch dd lo hi offs, len)) (h : xI CW scr M (xAW p l e R s m args below meth c D G A M α0 lay0 QW) Q pc L S u σ len (.tableswitch dd lo hi offs)) : xAW p l e R s m args below meth c D G A M α0 lay0 QW pc L S u σ := by
  obtain ⟨hx, hb, hml, hts, hown, hK, hA, hin, hlk, hR1, hR2, hR3, hR4, hXw⟩ := C
  obtain ⟨x, r, rfl, hsz, k1, k2⟩ := h
  intro α H locs ls hP hD hS hl hn h1 h2 hk
  by_cases g1 : x.toInt < lo
  · obtain ⟨t, ht, k⟩ := k1 (Or.inl g1)
    exact lv_tableOut hx hb hd (Or.inl g1) ht (k α H locs ls hP hD hS hl hn h1 h2 hk)
  · by_cases g2 : hi < x.toInt
    · obtain ⟨t, ht, k⟩ := k1 (Or.inr g2)
      exact lv_tableOut hx hb hd (Or.inr g2) ht (k α H locs ls hP hD hS hl hn h1 h2 hk)
    · have hlt : (x.toInt - lo).toNat < offs.size := by omega
      obtain ⟨t, ht, k⟩ := k2 g1 g2 _ (Array.getElem?_eq_getElem hlt)
      exact lv_tableIn hx hb hd g1 g2 (Array.getElem?_eq_getElem hlt) ht (k α H locs ls hP hD hS hl hn h1 h2 hk)
theorem xs_lookupswitch {dd : Int} {ps : Array (Int × Int)} (C : xCtx p R s m args meth c D G A M d) (hd : decode (xB M) pc = .ok (.lookupswitch dd ps, len)) (h : xI CW scr M (xAW p l e R s m args below meth c D G A M α0 lay0 QW) Q pc L S u σ len (.lookupswitch dd ps)) : xAW p l e R s m args below meth c D G A M α0 lay0 QW pc L S u σ := by
  obtain ⟨hx, hb, hml, hts, hown, hK, hA, hin, hlk, hR1, hR2, hR3, hR4, hXw⟩ := C
  obtain ⟨x, r, rfl, hp, t, ht, k⟩ := h
  intro α H locs ls hP hD hS hl hn h1 h2 hk
  exact lv_lookup hx hb hd hp rfl ht (k α H locs ls hP hD hS hl hn h1 h2 hk)
end XS
