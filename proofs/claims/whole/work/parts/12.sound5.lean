/-! calls of static methods, of constructors; ends -/
section XS
variable {p : Program} {l : Launch} {e : Env} {R : Room} {s : State} {m : MethodId} {args : Array Value} {below : List Frame} {meth : Method} {c : Code} {D : va_G} {G : xG} {A : Nat → Prop} {M d : Nat} {α0 : Nat → Nat} {lay0 : List (Nat × Nat)} {QW : State → Prop}
variable {scr : Option (Nat × (Nat → Int32))} {Q : xQr} {pc : Nat} {L S : List Value} {u : Nat × Nat} {σ : xSt} {len : Nat}
theorem xcalli_of {α : Nat → Nat} {H : Heap} {locs : List Loc} {ls : Array Slot} {M' : Nat} {r : List Value} {stk rest : List Value} {g : JFrame} {a : Array Value} (hg : g = F0 m pc ls stk) (hrest : rest = r.map (xcv α)) (hS : va_S A s.heap H locs) (hA : ∀ q, s.heap.size ≤ q → A q) (hD : va_D A (xW G α σ)) (hok : xCallOK M M' L r u σ) (hl : xLv α ls L) (hn : L.length = xL M) (hk : xLk α0 lay0 M α σ.1)
    (hr : va_Run p l e R s m args below meth c H locs u.1 u.2 (xAl M').1 (xAl M').2 g rest (va_Qi (fun (r0 : Int32) (w : xSt × (Nat → Nat)) => xBack (xAW p l e R s m args below meth c D G A M α0 lay0 QW) M' pc L r u (some (.int r0)) w.1 ∧ xLk α σ.1 M' w.2 w.1.1) (xPost D G (va_A (xW G α σ) H.size)) (va_A (xW G α σ) H.size) a) (va_A (xW G α σ) H.size)) :
    W p l e R s m args below meth c H locs u.1 u.2 QW (F0 m pc ls stk) := by
  subst hg; subst hrest
  have hF := xfree hD hS hA
  exact va_calli hr hS (fun q _ h => hF q h) hF (fun x w t H1 locs1 ht hvm hw hB hz1 hk1 hS1 => xback (H := H) (Or.inr ⟨x, rfl⟩) hok hl hn hk hD hF hw.1 hw.2 (by rw [← ht]; exact hB.1) hB.2 hS1)
theorem xcallv_of {α : Nat → Nat} {H : Heap} {locs : List Loc} {ls : Array Slot} {M' : Nat} {r : List Value} {stk rest : List Value} {g : JFrame} {a : Array Value} (hg : g = F0 m pc ls stk) (hrest : rest = r.map (xcv α)) (hS : va_S A s.heap H locs) (hA : ∀ q, s.heap.size ≤ q → A q) (hD : va_D A (xW G α σ)) (hok : xCallOK M M' L r u σ) (hl : xLv α ls L) (hn : L.length = xL M) (hk : xLk α0 lay0 M α σ.1)
    (hr : va_Run p l e R s m args below meth c H locs u.1 u.2 (xAl M').1 (xAl M').2 g rest (va_Qv (fun (w : xSt × (Nat → Nat)) => xBack (xAW p l e R s m args below meth c D G A M α0 lay0 QW) M' pc L r u none w.1 ∧ xLk α σ.1 M' w.2 w.1.1) (xPost D G (va_A (xW G α σ) H.size)) (va_A (xW G α σ) H.size) a) (va_A (xW G α σ) H.size)) :
    W p l e R s m args below meth c H locs u.1 u.2 QW (F0 m pc ls stk) := by
  subst hg; subst hrest
  have hF := xfree hD hS hA
  exact va_callv hr hS (fun q _ h => hF q h) hF (fun w t H1 locs1 ht hvm hw hB hz1 hk1 hS1 => xback (H := H) (Or.inl rfl) hok hl hn hk hD hF hw.1 hw.2 (by rw [← ht]; exact hB.1) hB.2 hS1)
/-- a static method of the class, of the reference, of the JDK's Integer -/
def xStat (d M : Nat) (P : xPr) (z pc : Nat) (L S : List Value) (u : Nat × Nat) (σ : xSt) : Prop := ∃ M' As r, xCR (xC M) z = some (M', 1) ∧ As.length = xN M' ∧ (∀ v ∈ As, v.category = 1) ∧ S = As.reverse ++ r ∧ xCallOK M M' L r u σ ∧ xCall d M' As σ (xBack P M' pc L r u)
theorem xs_static {z : Nat} (hM : xMetI l d) (C : xCtx p R s m args meth c D G A M (d + 1)) (hd : decode (xB M) pc = .ok (.invokestatic z, 3)) (h : xStat d M (xAW p l e R s m args below meth c D G A M α0 lay0 QW) z pc L S u σ) (hv : ∀ M', xCR (xC M) z = some (M', 1) → xHelper M' = none ∧ M' < 242 ∧ xC M' ≠ 13) : xAW p l e R s m args below meth c D G A M α0 lay0 QW pc L S u σ := by
  obtain ⟨hx, hb, hml, hts, hown, hK, hA, hin, hlk, hR1, hR2, hR3, hR4, hXw⟩ := C
  obtain ⟨M', As, r, hc, hlen, hcat, rfl, hok, k⟩ := h
  intro α H locs ls hP hD hS hl hn h1 h2 hk
  obtain ⟨v1, v2, v4⟩ := hv M' hc
  obtain ⟨t1, t2, t3, t4, t5, t6⟩ := id hok
  obtain ⟨w1, w2, w3, w4, w5, w6, w7⟩ := xM_word t2
  obtain ⟨zz, z1, z2, z3⟩ := xC_word hc
  simp only [xCok, Bool.and_eq_true] at z3
  rw [z1, z2] at z3
  obtain ⟨⟨y1, y2⟩, y4⟩ := z3
  have hcw : CallB R s args (xR (xC M)) z (xY M') (xB M') (xL M') (xRt M') (xWs M') (xRm d M') (xAl M').1 (xAl M').2 (xN M') := callB_of (xN M') hts (xWs_good t2 v4) rfl rfl rfl (hts _ (xIs_in y4)) (hts _ (xIs_in y1)) ⟨w2, w3, w4⟩ (xRm_ok hR3 hR4 w7)
  have hps : PreS s H (va_Pc (As.map (xcv α)) (xPre D G α σ H.size)) (As.map (xcv α)) := ⟨xPre_blind, fun U hU hW => ⟨rfl, by rw [hU], by rw [hU]; exact hP, va_K.moved hW.alike hK, hD.weaken (fun _ _ _ _ => trivial), xXw_warm hW hXw⟩⟩
  obtain ⟨m1, m2⟩ := hM M' As σ _ k t1 v1 v2 hcat D G α H.size
  have hst : ((As.reverse ++ r).map (xcv α)) = (As.map (xcv α)).reverse ++ r.map (xcv α) := by
    rw [List.map_append, List.map_reverse]
  rw [hst]
  have hln : (As.map (xcv α)).length = xN M' := by rw [List.length_map]; exact hlen
  have hrm : ((r.map (xcv α)).map fun v => v.category).sum ≤ 8 := by rw [xcat_map]; exact t3
  by_cases hr : xRt M' = none
  · exact xcallv_of rfl rfl hS hA hD hok hl hn hk (va_runS ⟨hx, hb, hml, hown, hts⟩ (m1 hr) ⟨hcw, hts _ (xIs_in y2)⟩ hps rfl hln (by show ls.size = _; rw [hl.1, hn]) rfl (lv_room hrm) hd ⟨Nat.le_trans t4 hR1, Nat.le_trans t5 hR2⟩)
  · exact xcalli_of rfl rfl hS hA hD hok hl hn hk (va_runS ⟨hx, hb, hml, hown, hts⟩ (m2 hr) ⟨hcw, hts _ (xIs_in y2)⟩ hps rfl hln (by show ls.size = _; rw [hl.1, hn]) rfl (lv_room hrm) hd ⟨Nat.le_trans t4 hR1, Nat.le_trans t5 hR2⟩)
theorem xs_fmod {cc : ByteArray} {H : Heap} {locs : List Loc} {cells slots : Nat} {ls : Array Slot} {rest : List Value} (hexec : p.tables.exec = Jvm.exec) (hb : c.code = cc) (hml : c.maxLocals = ls.size) {own : String} {index : Nat} (hown : s.vm.findClass own = some m.cls) (hlink : (Cond.methodLink own index Jvm.Free.MCB.FloorMod.yN).before args s = true) (hstat : (Cond.static Jvm.Free.MCB.FloorMod.yN).before args s = true) (hini : (Cond.initialized "java/lang/Math").before args s = true) (hcode : Jvm.Free.MCB.FloorMod.tab.before args s = true)
    (hframes : 1 ≤ R.frames) (hlocals : 22 ≤ R.locals) (hc : cells ≤ R.cells) (hs : slots ≤ R.slots) (hrm : (rest.map fun v => v.category).sum ≤ 8) {x y : Int32} (hy : y ≠ 0) (hdg : decode cc pc = .ok (.invokestatic index, 3))
    (kk : W p l e R s m args below meth c H locs cells slots QW (F0 m (pc + 3) ls (.int (Jvm.Free.MCB.fmod x y) :: rest))) : W p l e R s m args below meth c H locs cells slots QW (F0 m pc ls (.int y :: .int x :: rest)) := by
  intro T hT X
  have hlen2 : ∀ sig, parseMethodDescriptor Jvm.Free.MCB.FloorMod.yN.desc = some sig → [Value.int x, Value.int y].length = sig.parameters.length := by
    intro sig h0
    have h1 : (parseMethodDescriptor Jvm.Free.MCB.FloorMod.yN.desc).map (fun d => d.parameters.length) = some 2 := by decide +kernel
    rw [h0] at h1
    exact (Option.some.inj h1).symm
  obtain ⟨v, vm₁, ⟨U', l2, c2, s2⟩, hW₁, X', ⟨⟨e1, e2, e3, e4⟩, hq⟩, st⟩ := callS X hexec (own := own) (index := index) (y := Jvm.Free.MCB.FloorMod.yN) (bytes := Jvm.Free.MCB.FloorMod.yB) (maxL := 3) (ret := some .int) hown hlink hstat hini hcode (by decide)
    (Jvm.Free.MCB.FloorMod.pays (l := l) (R := R) (p := p) (e := e) (below := below) (s := s) (args := args) (W := 8) (len := 3) (by omega) (by omega) hcode hini)
    (g := F0 m pc ls (.int y :: .int x :: rest)) rfl (by show ls.size = _; rw [hml]) (argsL := [.int x, .int y]) (rest := rest) hlen2 rfl (lv_room hrm) (by rw [hb]; exact hdg)
    (fun vm₁ hW₁ => ⟨hc, hs, (x, y), rfl, hy⟩)
  dsimp only [Pt.U, Pt.locs, Pt.cells, Pt.slots] at X' e1 e2 e3 e4 st
  subst e2; subst e3; subst e4
  have hv := hq (x, y) ⟨rfl, hy⟩
  subst hv
  obtain ⟨t, a1, b1⟩ := kk U' (by rw [e1]; exact hT) X'
  exact ⟨t, st t a1, b1⟩
theorem xs_invokestatic {z : Nat} (hM : xMetI l d) (C : xCtx p R s m args meth c D G A M (d + 1)) (hd : decode (xB M) pc = .ok (.invokestatic z, len)) (h : xI (xCall d) scr M (xAW p l e R s m args below meth c D G A M α0 lay0 QW) Q pc L S u σ len (.invokestatic z))
    (hv : (∀ M', xCR (xC M) z = some (M', 1) → xHelper M' = none ∧ M' < 242 ∧ xC M' ≠ 13) ∨ (xStat d M (xAW p l e R s m args below meth c D G A M α0 lay0 QW) z pc L S u σ → xAW p l e R s m args below meth c D G A M α0 lay0 QW pc L S u σ)) : xAW p l e R s m args below meth c D G A M α0 lay0 QW pc L S u σ := by
  have C' := C
  obtain ⟨hx, hb, hml, hts, hown, hK, hA, hin, hlk, hR1, hR2, hR3, hR4, hXw⟩ := C
  obtain ⟨rfl, h⟩ := h
  rcases h with h | ⟨w, y, x, r, hc, rfl, hrm, k⟩ | ⟨w, y, x, r, hc, rfl, hrm, k⟩ | ⟨w, y, x, r, hc, rfl, hy, hrm, k⟩ | ⟨w, n, dp, a, sp, a0, r, n0, n1, hc, rfl, ha0, ha, q1, q2, q3, q4, q5, hrm, k⟩
  · rcases hv with hv | hv
    · exact xs_static hM C' hd h hv
    · exact hv h
  · intro α H locs ls hP hD hS hl hn h1 h2 hk
    obtain ⟨zz, z1, z2, z3⟩ := xC_word hc
    simp only [xCok, Bool.and_eq_true] at z3
    rw [z1, z2] at z3
    obtain ⟨⟨⟨y1, y2⟩, y3⟩, y4⟩ := z3
    exact va_mmax hx hb (by rw [hml, ← hn, hl.1]) hown (hts _ (xIs_in y1)) (hts _ (xIs_in y2)) (hts _ (xIs_in y3)) (hts _ (xIs_in y4)) (by omega) (by rw [xcat_map]; omega) (by omega) (by omega) hd (k α H locs ls hP hD hS hl hn h1 h2 hk)
  · intro α H locs ls hP hD hS hl hn h1 h2 hk
    obtain ⟨zz, z1, z2, z3⟩ := xC_word hc
    simp only [xCok, Bool.and_eq_true] at z3
    rw [z1, z2] at z3
    obtain ⟨⟨⟨y1, y2⟩, y3⟩, y4⟩ := z3
    exact va_mmin hx hb (by rw [hml, ← hn, hl.1]) hown (hts _ (xIs_in y1)) (hts _ (xIs_in y2)) (hts _ (xIs_in y3)) (hts _ (xIs_in y4)) (by omega) (by rw [xcat_map]; omega) (by omega) (by omega) hd (k α H locs ls hP hD hS hl hn h1 h2 hk)
  · intro α H locs ls hP hD hS hl hn h1 h2 hk
    obtain ⟨zz, z1, z2, z3⟩ := xC_word hc
    simp only [xCok, Bool.and_eq_true] at z3
    rw [z1, z2] at z3
    obtain ⟨⟨⟨y1, y2⟩, y3⟩, y4⟩ := z3
    exact xs_fmod hx hb (by rw [hml, ← hn, hl.1]) hown (hts _ (xIs_in y1)) (hts _ (xIs_in y2)) (hts _ (xIs_in y3)) (hts _ (xIs_in y4)) (by omega) (by omega) (by omega) (by omega) (by rw [xcat_map]; omega) hy hd (k α H locs ls hP hD hS hl hn h1 h2 hk)
  · intro α H locs ls hP hD hS hl hn h1 h2 hk
    obtain ⟨zz, z1, z2, z3⟩ := xC_word hc
    simp only [xCok, Bool.and_eq_true] at z3
    rw [z1, z2] at z3
    obtain ⟨⟨⟨y1, y2⟩, y3⟩, y4⟩ := z3
    refine va_copyi hx hb (by rw [hml, ← hn, hl.1]) hown (hts _ (xIs_in y1)) (hts _ (xIs_in y2)) (hts _ (xIs_in y3)) (hts _ (xIs_in y4)) hK hP hD hS a0 a 0 0 (xW_int ha0 (by omega) (by omega)) (xW_int ha (by omega) (by omega)) rfl rfl rfl q1 q2 q3 q4 q5 (fun _ _ => rfl) (by omega) ?_ hd (fun H1 locs1 g1 g2 g3 => ?_)
    · rw [xcat_map]
      have e0 : nativeFrameWords "java/lang/System" "arraycopy" 5 = 7 := by decide +kernel
      rw [e0]
      omega
    · have es : (xW G α σ).set a (α a, .inl (xAc G 13, n1, .inl (va_cpy (σ.2.2 a0) (σ.2.2 a) sp.toNatClampNeg dp.toNatClampNeg n.toNatClampNeg))) = xW G α (σ.1, σ.2.1, xuA σ.2.2 a (va_cpy (σ.2.2 a0) (σ.2.2 a) sp.toNatClampNeg dp.toNatClampNeg n.toNatClampNeg)) := by
        refine xW_set (lay := σ.1) (rf := σ.2.1) (mem := σ.2.2) ha ?_ (fun i hi => ⟨rfl, xuA_ne hi⟩)
        rw [xuA_eq]
        rfl
      exact k α H1 locs1 ls (es ▸ g1) (es ▸ g2) g3 hl hn h1 h2 hk
theorem xs_invokespecial {z : Nat} (hM : xMetI l d) (C : xCtx p R s m args meth c D G A M (d + 1)) (hd : decode (xB M) pc = .ok (.invokespecial z, len)) (h : xI (xCall d) scr M (xAW p l e R s m args below meth c D G A M α0 lay0 QW) Q pc L S u σ len (.invokespecial z)) (hv : ∀ M' kd, xCR (xC M) z = some (M', kd) → (kd = 2 ∨ kd = 3) → xHelper M' = none ∧ M' < 242 ∧ xC M' ≠ 13 ∧ xRt M' = none) : xAW p l e R s m args below meth c D G A M α0 lay0 QW pc L S u σ := by
  obtain ⟨hx, hb, hml, hts, hown, hK, hA, hin, hlk, hR1, hR2, hR3, hR4, hXw⟩ := C
  obtain ⟨rfl, h⟩ := h
  rcases h with ⟨w, o, r, hc, rfl, hrm, k⟩ | ⟨M', kd, As, b, r, hc, hkd, hlen, hcat, rfl, hok, k⟩
  · intro α H locs ls hP hD hS hl hn h1 h2 hk
    obtain ⟨zz, z1, z2, z3⟩ := xC_word hc
    simp only [xCok, Bool.and_eq_true] at z3
    rw [z1, z2] at z3
    obtain ⟨⟨y1, y2⟩, y3⟩ := z3
    exact W.objInit (a := α o) hx hb hown (hts _ (xIs_in y1)) (hts _ (xIs_in y2)) (hts _ (xIs_in y3)) rfl (by show ls.size = _; rw [hml, ← hn, hl.1]) rfl hd (by omega) (by show 2 * 0 + ((r.map (xcv α)).map fun v => v.category).sum + 12 ≤ R.locals; rw [xcat_map]; omega) (k α H locs ls hP hD hS hl hn h1 h2 hk)
  · intro α H locs ls hP hD hS hl hn h1 h2 hk
    obtain ⟨v1, v2, v4, hr⟩ := hv M' kd hc hkd
    obtain ⟨t1, t2, t3, t4, t5, t6⟩ := id hok
    obtain ⟨w1, w2, w3, w4, w5, w6, w7⟩ := xM_word t2
    obtain ⟨zz, z1, z2, z3⟩ := xC_word hc
    have hps : PreS s H (va_Pc ((.ref b :: As).map (xcv α)) (xPre D G α σ H.size)) (.ref (α b) :: As.map (xcv α)) := ⟨xPre_blind, fun U hU hW => ⟨rfl, by rw [hU], by rw [hU]; exact hP, va_K.moved hW.alike hK, hD.weaken (fun _ _ _ _ => trivial), xXw_warm hW hXw⟩⟩
    obtain ⟨m1, -⟩ := hM M' (.ref b :: As) σ _ k t1 v1 v2 (fun v hv => by rcases List.mem_cons.mp hv with rfl | hv; exact rfl; exact hcat v hv) D G α H.size
    have hst : ((As.reverse ++ .ref b :: r).map (xcv α)) = (As.map (xcv α)).reverse ++ .ref (α b) :: r.map (xcv α) := by
      rw [List.map_append, List.map_cons, List.map_reverse]
      rfl
    rw [hst]
    have hln : (As.map (xcv α)).length = xN M' := by rw [List.length_map]; exact hlen
    have hrm : ((r.map (xcv α)).map fun v => v.category).sum ≤ 8 := by rw [xcat_map]; exact t3
    have hM1 := m1 hr
    have hwc : xWs M' = Cond.code (xY M') (xB M') (xL M') none :: xT := by unfold xWs xMcode; rw [hr]
    rcases hkd with rfl | rfl
    · simp only [xCok, Bool.and_eq_true, decide_eq_true_eq] at z3
      rw [z1, z2] at z3
      obtain ⟨⟨⟨y1, y2⟩, y3⟩, y4⟩ := z3
      have hcw := cwI (R := R) (rm := xRm d M') (index := z) (xN M') hts (xWs_good t2 v4) hwc rfl rfl (hts _ (xIs_in y3)) (hts _ (xIs_in y1)) (hts _ (xIs_in y2)) y4 ⟨w2, w3, w4⟩ (xRm_ok hR3 hR4 w7)
      exact xcallv_of rfl rfl hS hA hD hok hl hn hk (va_runI ⟨hx, hb, hml, hown, hts⟩ hM1 hcw hps rfl hln (by show ls.size = _; rw [hl.1, hn]) rfl (lv_room hrm) hd ⟨Nat.le_trans t4 hR1, Nat.le_trans t5 hR2⟩)
    · simp only [xCok, Bool.and_eq_true, decide_eq_true_eq] at z3
      obtain ⟨⟨y2, y3⟩, y4⟩ := z3
      have hcw := va_cnB (R := R) (args := args) (rm := xRm d M') (index := z) (own := xR (xC M)) (host := "OneChairShort") (xN M') hts (xWs_good t2 v4) hwc rfl rfl (hXw.1 _ _ _ hc) (hts _ (xIs_in y3)) ⟨w2, w3, w4⟩ (xRm_ok hR3 hR4 w7)
      exact xcallv_of rfl rfl hS hA hD hok hl hn hk (va_runIN ⟨hx, hb, hml, hown, hts⟩ hM1 ⟨hcw, y4, hts _ (xIs_in y2)⟩ hps rfl hln (by show ls.size = _; rw [hl.1, hn]) rfl (lv_room hrm) hd ⟨Nat.le_trans t4 hR1, Nat.le_trans t5 hR2⟩)
end XS
