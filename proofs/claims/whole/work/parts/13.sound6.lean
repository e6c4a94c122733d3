/-! every step; every method that returns -/
def xCkind (e : Nat × Nat × Nat) : Bool := match e.2.2 with
  | 0 => decide (xHelper e.2.1 = none) && decide (e.2.1 < 242) && decide (xC e.2.1 < 13)
  | 1 => decide (e.1 / 1000 = 13) || (decide (xHelper e.2.1 = none) && decide (e.2.1 < 242) && decide (xC e.2.1 ≠ 13))
  | 2 => decide (xHelper e.2.1 = none) && decide (e.2.1 < 242) && decide (xC e.2.1 ≠ 13) && decide (xRt e.2.1 = none)
  | 3 => decide (xHelper e.2.1 = none) && decide (e.2.1 < 242) && decide (xC e.2.1 ≠ 13) && decide (xRt e.2.1 = none)
  | _ => true
set_option maxRecDepth 100000 in
theorem xCkinds : xCL.all xCkind = true := by decide +kernel
theorem xCk {c i M' kd : Nat} (h : xCR c i = some (M', kd)) : ∃ z, z / 1000 = c ∧ xCkind (z, M', kd) = true := by
  obtain ⟨h1, h2, h3⟩ := xLook_mem h
  exact ⟨_, h2, List.all_eq_true.mp xCkinds _ h1⟩
section XS
variable {p : Program} {l : Launch} {e : Env} {R : Room} {s : State} {m : MethodId} {args : Array Value} {below : List Frame} {meth : Method} {c : Code} {D : va_G} {G : xG} {A : Nat → Prop} {M d : Nat} {α0 : Nat → Nat} {lay0 : List (Nat × Nat)} {QW : State → Prop}
variable {scr : Option (Nat × (Nat → Int32))} {Q : xQr} {pc : Nat} {L S : List Value} {u : Nat × Nat} {σ : xSt}
theorem xstep (hM : xMetI l d) (C : xCtx p R s m args meth c D G A M (d + 1)) (hscr : ∀ n xs, scr = some (n, xs) → va_X (α0 100000) n xs s s.heap ∧ α0 100000 < s.heap.size ∧ ¬ A (α0 100000))
    (hstat : xC M = 13 → ∀ z, decode (xB M) pc = .ok (.invokestatic z, 3) → xStat d M (xAW p l e R s m args below meth c D G A M α0 lay0 QW) z pc L S u σ → xAW p l e R s m args below meth c D G A M α0 lay0 QW pc L S u σ)
    (hthr : xThr M pc = true → Q (some .null) σ → xAW p l e R s m args below meth c D G A M α0 lay0 QW pc L [] (0, 0) σ)
    (hret : ∀ v, decode (xB M) pc = .ok (.ireturn, 1) → (xRt M = some .int ∨ (xRt M = some .boolean ∧ (v = 0 ∨ v = 1))) → Q (some (.int v)) σ → xAW p l e R s m args below meth c D G A M α0 lay0 QW pc L [.int v] u σ)
    (hvret : decode (xB M) pc = .ok (.return_, 1) → xRt M = none → Q none σ → xAW p l e R s m args below meth c D G A M α0 lay0 QW pc L [] u σ)
    (h : xStep (xCall d) scr M (xAW p l e R s m args below meth c D G A M α0 lay0 QW) Q pc L S u σ) : xAW p l e R s m args below meth c D G A M α0 lay0 QW pc L S u σ := by
  unfold xStep at h
  split at h
  case h_2 => exact h.elim
  rename_i i len hd
  cases i
  case iconst => exact xs_iconst C hd h
  case bipush => exact xs_bipush C hd h
  case sipush => exact xs_sipush C hd h
  case ldc => exact xs_ldc C hd h
  case ldc_w => exact xs_ldc_w C hd h
  case iload_n => exact xs_iload_n C hd h
  case iload => exact xs_iload C hd h
  case aload_n => exact xs_aload_n C hd h
  case aload => exact xs_aload C hd h
  case istore_n => exact xs_istore_n C hd h
  case istore => exact xs_istore C hd h
  case astore_n => exact xs_astore_n C hd h
  case astore => exact xs_astore C hd h
  case iinc => exact xs_iinc C hd h
  case iadd => exact xs_iadd C hd h
  case isub => exact xs_isub C hd h
  case imul => exact xs_imul C hd h
  case iand => exact xs_iand C hd h
  case ior => exact xs_ior C hd h
  case ixor => exact xs_ixor C hd h
  case ishl => exact xs_ishl C hd h
  case ishr => exact xs_ishr C hd h
  case iushr => exact xs_iushr C hd h
  case idiv => exact xs_idiv C hd h
  case irem => exact xs_irem C hd h
  case ineg => exact xs_ineg C hd h
  case i2l => exact xs_i2l C hd h
  case i2b => exact xs_i2b C hd h
  case i2s => exact xs_i2s C hd h
  case lcmp => exact xs_lcmp C hd h
  case dup => exact xs_dup C hd h
  case dup_x1 => exact xs_dup_x1 C hd h
  case dup2 => exact xs_dup2 C hd h
  case pop => exact xs_pop C hd h
  case goto => exact xs_goto C hd h
  case ifCond => exact xs_ifCond C hd h
  case if_icmp => exact xs_if_icmp C hd h
  case tableswitch => exact xs_tableswitch C hd h
  case lookupswitch => exact xs_lookupswitch C hd h
  case getfield => exact xs_getfield C hd h
  case putfield => exact xs_putfield C hd h
  case iaload => exact xs_iaload hscr C hd h
  case baload => exact xs_baload C hd h
  case laload => exact xs_laload C hd h
  case aaload => exact xs_aaload C hd h
  case iastore => exact xs_iastore C hd h
  case bastore => exact xs_bastore C hd h
  case lastore => exact xs_lastore C hd h
  case arraylength => exact xs_arraylength hscr C hd h
  case newarray => exact xs_newarray C hd h
  case multianewarray => exact xs_multi C hd h
  case new =>
    obtain ⟨rfl, h'⟩ := id h
    exact xs_new C hd h hthr
  case invokevirtual =>
    refine xs_invokevirtual hM C hd h (fun M' hc => ?_)
    obtain ⟨z, -, z2⟩ := xCk hc
    simp only [xCkind, Bool.and_eq_true, decide_eq_true_eq] at z2
    exact ⟨z2.1.1, z2.1.2, z2.2⟩
  case invokestatic =>
    obtain ⟨rfl, h'⟩ := id h
    by_cases h13 : xC M = 13
    · exact xs_invokestatic hM C hd h (Or.inr (hstat h13 _ hd))
    · refine xs_invokestatic hM C hd h (Or.inl (fun M' hc => ?_))
      obtain ⟨z, z1, z2⟩ := xCk hc
      simp only [xCkind, Bool.and_eq_true, Bool.or_eq_true, decide_eq_true_eq] at z2
      rcases z2 with z2 | z2
      · exact absurd (z1.symm.trans z2) h13
      · exact ⟨z2.1.1, z2.1.2, z2.2⟩
  case invokespecial =>
    refine xs_invokespecial hM C hd h (fun M' kd hc hkd => ?_)
    obtain ⟨z, -, z2⟩ := xCk hc
    rcases hkd with rfl | rfl
    · simp only [xCkind, Bool.and_eq_true, decide_eq_true_eq] at z2
      exact ⟨z2.1.1.1, z2.1.1.2, z2.1.2, z2.2⟩
    · simp only [xCkind, Bool.and_eq_true, decide_eq_true_eq] at z2
      exact ⟨z2.1.1.1, z2.1.1.2, z2.1.2, z2.2⟩
  case ireturn =>
    obtain ⟨rfl, v, rfl, hr, hq⟩ := h
    exact hret v hd hr hq
  case return_ =>
    obtain ⟨rfl, rfl, hr, hq⟩ := h
    exact hvret hd hr hq
  all_goals exact h.elim
end XS
theorem xThr_throws {M pc : Nat} (h : xThr M pc = true) : xThrows M = true := by
  simp only [xThr, xThrows, Bool.or_eq_true, Bool.and_eq_true, decide_eq_true_eq] at h ⊢
  omega
theorem xcat_args {α : Nat → Nat} {As : List Value} (h : ∀ v ∈ As, v.category = 1) : ∀ v ∈ As.map (xcv α), v.category = 1 := by
  intro v hv
  obtain ⟨w, hw, rfl⟩ := List.mem_map.mp hv
  rw [xcv_cat]
  exact h w hw
/-- what holds at a method's entry -/
theorem xctx_of {p : Program} {l : Launch} {e : Env} {s s₁ : State} {m : MethodId} {args : Array Value} {below : List Frame} {meth : Method} {c : Code} {D : va_G} {G : xG} {A : Nat → Prop} {M d : Nat} {ret : Option FieldType} {w0 : Cond} (hM : M < 243) (B : BodyLoose p l (xY M) (headSpec (w0 :: xT) (xRm d M)) (xB M) (xL M) ret e s m args below meth c s₁) (hml : c.maxLocals = xL M) (hK : va_K D vwCl (xTys G) s) (hA : ∀ q, s.heap.size ≤ q → A q) (hX : xXw s) : xCtx p (xRm d M) s m args meth c D G A M d := by
  obtain ⟨w1, w2, w3, w4, w5, w6, w7⟩ := xM_word hM
  refine ⟨B.exec, B.bytes, hml, fun w hw => atoms_spec (ws := w0 :: xT) B.pre w (List.mem_cons_of_mem _ hw), ?_, hK, hA, fun hi => ?_, B.notSynchronized, Nat.le_refl _, Nat.le_refl _, Nat.le_refl _, Nat.le_refl _, hX⟩
  · rw [w5]
    exact findClass_of_methodNamed B.named
  · have h1 : meth.name = (xY M).name := (name_of_methodNamed B.named B.method).1
    rw [h1]
    exact of_decide_eq_true hi
theorem xCls13 (M : Nat) (h : M < 243) (h13 : xC M = 13) : M = 242 ∨ xHelper M ≠ none := by
  have h1 : (List.range 243).all (fun M => !decide (xC M = 13) || decide (M = 242) || decide (xHelper M ≠ none)) = true := by decide +kernel
  have h2 := List.all_eq_true.mp h1 M (List.mem_range.mpr h)
  simp only [Bool.or_eq_true, Bool.not_eq_true', decide_eq_true_eq, decide_eq_false_iff_not] at h2
  rcases h2 with (h2 | h2) | h2
  · exact absurd h13 h2
  · exact Or.inl h2
  · exact Or.inr h2
theorem xmetI_succ {l : Launch} {d : Nat} (hM : xMetI l d) : xMetI l (d + 1) := by
  intro M As σ Q hcall hthr hhelp hM242 hcat D G α sz
  rcases hcall with ⟨-, hlen, hP⟩ | ⟨T, b, Is, o, n, n', hh, -⟩
  case inr => rw [hhelp] at hh; cases hh
  obtain ⟨w1, w2, w3, w4, w5, w6, w7⟩ := xM_word (M := M) (by omega)
  have body : ∀ (QW : State → Prop) (p : Program) (e : Env) (s : State) (m : MethodId) (args : Array Value) (below : List Frame) (meth : Method) (c : Code) (s₁ : State), BodyLoose p l (xY M) (headSpec (xWs M) (xRm (d + 1) M)) (xB M) (xL M) (xRt M) e s m args below meth c s₁ → c.maxLocals = xL M → va_Pc (As.map (xcv α)) (xPre D G α σ sz) args s →
      (∀ (v : Int32) (σ' : xSt) (pc : Nat) (L : List Value) (u : Nat × Nat), decode (xB M) pc = .ok (.ireturn, 1) → (xRt M = some .int ∨ (xRt M = some .boolean ∧ (v = 0 ∨ v = 1))) → Q (some (.int v)) σ' → xAW p l e (xRm (d + 1) M) s m args below meth c D G (va_A (xW G α σ) sz) M α σ.1 QW pc L [.int v] u σ') →
      (∀ (σ' : xSt) (pc : Nat) (L : List Value) (u : Nat × Nat), decode (xB M) pc = .ok (.return_, 1) → xRt M = none → Q none σ' → xAW p l e (xRm (d + 1) M) s m args below meth c D G (va_A (xW G α σ) sz) M α σ.1 QW pc L [] u σ') →
      W p l e (xRm (d + 1) M) s m args below meth c s.heap [] 0 0 QW (entryFrame m args (xL M)) := by
    intro QW p e s m args below meth c s₁ B hml hv h1 h2
    obtain ⟨rfl, rfl, hP0, hK, hD0, hX⟩ := hv
    have hA : ∀ q, s.heap.size ≤ q → va_A (xW G α σ) s.heap.size q := fun q h => Or.inr h
    have C := xctx_of (A := va_A (xW G α σ) s.heap.size) (by omega) B hml hK hA hX
    have k := hP (xAW p l e (xRm (d + 1) M) s m ((As.map (xcv α)).toArray) below meth c D G (va_A (xW G α σ) s.heap.size) M α σ.1 QW) (fun pc L S u σ' hs => xstep hM C (fun n xs hs => by cases hs) (fun h13 => by
        have : M = 242 ∨ xHelper M ≠ none := by
          have h5 := xCls13 M (by omega) h13
          exact h5
        rcases this with h | h
        · omega
        · exact absurd hhelp h) (fun ht => by rw [xThr_throws ht] at hthr; cases hthr) (fun v hd hr hq => h1 v σ' pc L u hd hr hq) (fun hd hr hq => h2 σ' pc L u hd hr hq) hs)
    rw [lg_entry_eq]
    refine k α s.heap [] _ hP0 hD0.self va_S.rf (xLv_entry hcat hlen) (by simp; omega) (Nat.zero_le _) (Nat.zero_le _) ⟨fun _ _ => rfl, Nat.le_refl _, fun _ => ⟨rfl, rfl⟩⟩
  refine ⟨fun hr => ?_, fun hr => ?_⟩
  · refine Met.ofW (cc := xB M) (maxL := xL M) (ret := xRt M) w1 rfl ?_
    intro p e s m args below meth c s₁ B hml hv
    have hsz := hv.2.1
    refine body _ p e s m args below meth c s₁ B hml hv (fun v σ' pc L u hd hrt hq => ?_) (fun σ' pc L u hd hrt hq => ?_)
    · rcases hrt with h | ⟨h, -⟩ <;> rw [hr] at h <;> cases h
    · intro α' H locs ls hP' hD' hS' hl' hn' g1 g2 hk'
      refine W.widen g1 g2 ?_
      exact W.vret (hlocks := B.notSynchronized) B.exec B.bytes (B.returns.trans hr) (fun t ht hW => ⟨⟨(σ', α'), rfl, ⟨hq, hk'⟩, by show va_P D vwCl (xW G α' σ') t.heap; rw [ht]; exact hP', hD'⟩, by have := hS'.F ht; exact this⟩) (fun q h => hS'.2.2 q h) hd
  · refine Met.ofW (cc := xB M) (maxL := xL M) (ret := xRt M) w1 rfl ?_
    intro p e s m args below meth c s₁ B hml hv
    refine body _ p e s m args below meth c s₁ B hml hv (fun v σ' pc L u hd hrt hq => ?_) (fun σ' pc L u hd hrt hq => absurd hrt hr)
    intro α' H locs ls hP' hD' hS' hl' hn' g1 g2 hk'
    refine W.widen g1 g2 ?_
    have hnar : ∃ ty, xRt M = some ty ∧ narrow ty (.int v) = .int v := by
      rcases hrt with h | ⟨h, h0 | h0⟩
      · exact ⟨_, h, rfl⟩
      · subst h0; exact ⟨_, h, by decide +kernel⟩
      · subst h0; exact ⟨_, h, by decide +kernel⟩
    obtain ⟨ty, hty, hnr⟩ := hnar
    exact W.zret (hlocks := B.notSynchronized) B.exec B.bytes (B.returns.trans hty) hnr (fun t ht hW => ⟨⟨v, (σ', α'), rfl, ⟨hq, hk'⟩, by show va_P D vwCl (xW G α' σ') t.heap; rw [ht]; exact hP', hD'⟩, by have := hS'.F ht; exact this⟩) (fun q h => hS'.2.2 q h) hd
theorem xmetI (l : Launch) : ∀ d, xMetI l d
  | 0 => fun _ _ _ _ h => h.elim
  | d + 1 => xmetI_succ (xmetI l d)
