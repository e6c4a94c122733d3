-- ===== end of PART A; then your names; then what follows =====
/-! THE CLAIM OUT OF ONE WALK OF THE LAW'S BODY. Your part is whole_start (and what it stands on); all else here is the same for every law, but numbers. -/
def R_law : String := "OneChairShortLaw"
def lw_P (b : Addr) (xs : List Int32) (args : Array Value) (s : State) : Prop := args = #[.ref b] ∧ s.IntsAt b xs ∧ xs.length ≤ 2560 ∧ (Jvm.Cond.and given_1 narrow_1).before args s = true
def lw_Q (_ : Array Value) (s : State) (o : Outcome) (t : State) : Prop := o = .returned (some (.int 1)) ∧ Framed s o t [] 601024 7293033
def lw_Z (below : List Frame) (a : Array Value) (s : State) : State → Prop := fun t => ∃ o, t.status = .running ∧ Ended t below o ∧ lw_Q a s o t
/-- the law's own end, with 1 on the stack, nothing written that was there before, its room as the claim has it -/
theorem lw_ret {p : Program} {l : Launch} {e : Env} {s : State} {m : MethodId} {below : List Frame} {meth : Method} {c : Code} {b : Nat} (hx : p.tables.exec = Jvm.exec) (hb : c.code = code) (hr : meth.sig.returnType = ret) (hlocks : meth.locks = false) {pc : Nat} {H : Heap} {ls : Array Slot} (hdg : decode code pc = .ok (.ireturn, 1)) : W p l e room_1 s m #[Value.ref b] below meth c H [] 601024 7293033 (lw_Z below #[Value.ref b] s) (F0 m pc ls [.int 1]) := by
  intro T hT X
  obtain ⟨fs, hret, hrun, hended, hW, hframe⟩ := X.leave (v := some (.int 1)) (hlocks := hlocks) (fun h => by rw [hr] at h; cases h)
  have hmeth' : T.vm.method? m = some meth := X.method'
  refine ⟨T.setFrames fs, ?_, .returned (some (.int 1)), hrun, hended, rfl, ⟨_, rfl⟩, hW, hframe⟩
  jvm_step X.here [X.here.top, hx, hb, hdg, hmeth', hr, ret, narrow_b1]
  (try refine ⟨rfl, ?_⟩); (try refine ⟨rfl, ?_⟩)
  first | (intro acts; rw [hret _ acts rfl rfl rfl]) | rw [hret _ _ rfl rfl rfl]
  exact Steps.refl _
/-- what holds at the law's entry: the machine, the code, the tables' words (any of lw_tbl by 'hts w (by decide +kernel)'), the script of L ints xs at the cell b, what the Statement gives of the start (any of its parts by flat_of_before) -/
def lw_At (p : Program) (s : State) (m : MethodId) (meth : Method) (c : Code) (b L : Nat) (xs : Nat → Int32) : Prop :=
  p.tables.exec = Jvm.exec ∧ c.code = code ∧ meth.sig.returnType = ret ∧ c.maxLocals = 7 ∧ s.vm.findClass R_law = some m.cls ∧ (∀ w ∈ lw_tbl, w.before #[Value.ref b] s = true) ∧ va_X b L xs s s.heap ∧ b < s.heap.size ∧ meth.locks = false ∧ (Jvm.Cond.and given_1 narrow_1).before #[Value.ref b] s = true
/-! the law's frame -/
def xLaw (L : Nat) (xs : Nat → Int32) : Prop := ∀ P : xPr, (∀ pc L' S u σ, xStep (xCall 300) (some (L, xs)) 242 P (fun v _ => v = some (.int 1)) pc L' S u σ → P pc L' S u σ) → P 0 [.ref 100000, .null, .null, .null, .null, .null, .null] [] (0, 0) ([], [], fun _ _ => 0)
theorem xlaw_stat {z M' : Nat} (h : xCR 13 z = some (M', 1)) : M' = 238 ∨ M' = 239 ∨ M' = 240 ∨ M' = 241 := by
  obtain ⟨h1, h2, h3⟩ := xLook_mem h
  have h4 : xCL.all (fun e => !decide (e.1 / 1000 = 13) || !decide (e.2.2 = 1) || (decide (e.2.1 = 238) || decide (e.2.1 = 239) || decide (e.2.1 = 240) || decide (e.2.1 = 241))) = true := by decide +kernel
  have h5 := List.all_eq_true.mp h4 _ h1
  dsimp only at h5
  rw [h2] at h5
  simp only [Bool.or_eq_true, Bool.not_eq_true', decide_eq_true_eq, decide_eq_false_iff_not, not_true, false_or] at h5
  omega
def xHh (M : Nat) : List (Nat × Nat × Nat × Nat) := if M = 241 then [(0, 9, 12, 13)] else [(0, 10, 13, 13)]
theorem xhw : xIs 5044 (.codeWith (xY 238) (xB 238) (xL 238) (some .int) [(0, 10, 13, 13)]) = true ∧ xIs 5114 (.codeWith (xY 239) (xB 239) (xL 239) (some .int) [(0, 10, 13, 13)]) = true ∧ xIs 5121 (.codeWith (xY 240) (xB 240) (xL 240) (some .int) [(0, 10, 13, 13)]) = true ∧ xIs 5128 (.codeWith (xY 241) (xB 241) (xL 241) (some .int) [(0, 9, 12, 13)]) = true := by decide +kernel
theorem xlen2 {l : List Int32} (h : l.length = 2) : ∃ a b, l = [a, b] := by
  match l, h with
  | [a, b], _ => exact ⟨a, b, rfl⟩
theorem xlen1 {l : List Int32} (h : l.length = 1) : ∃ a, l = [a] := by
  match l, h with
  | [a], _ => exact ⟨a, rfl⟩
set_option maxHeartbeats 4000000 in
theorem xhelp {l : Launch} (hfl : l.stackTraces = false) {d M : Nat} {As : List Value} {σ : xSt} {Q : xQr} (hM : M = 238 ∨ M = 239 ∨ M = 240 ∨ M = 241) (hc : xCall (d + 2) M As σ Q) (D : va_G) (G : xG) (α : Nat → Nat) (sz : Nat) :
    Cond.codeWith (xY M) (xB M) (xL M) (some .int) (xHh M) ∈ xT ∧ vx_Met l (xY M) (.codeWith (xY M) (xB M) (xL M) (some .int) (xHh M) :: xT) (xRm (d + 2) M) (va_Pc (As.map (xcv α)) (xPreZ D G α σ sz)) (va_Qi (fun (r : Int32) (w : xSt × (Nat → Nat)) => Q (some (.int r)) w.1 ∧ xLk α σ.1 M w.2 w.1.1) (xPost D G (va_A (xW G α σ) sz)) (va_A (xW G α σ) sz)) (vx_X (fun _ : Unit => False) (fun _ _ _ => True) (va_A (xW G α σ) sz)) (xAl M).1 (xAl M).2 (va_A (xW G α σ) sz) := by
  rcases hc with ⟨hh, -⟩ | ⟨T, b, Is, o, n, n', hh, rfl, hI, hb, ho, hn0, hcall⟩
  · rcases hM with rfl | rfl | rfl | rfl <;> cases hh
  · rcases hM with rfl | rfl | rfl | rfl
    · cases hh
      obtain ⟨a0, a1, rfl⟩ := xlen2 (l := Is) hI
      exact ⟨xIs_in xhw.1, xh2 (k := 7) hfl (by decide) (by decide +kernel) (by decide +kernel) (by decide +kernel) (by decide +kernel) (by decide +kernel) (by decide +kernel) (by decide +kernel) (by decide +kernel) (by decide +kernel) (by decide +kernel) xhw.1 (by decide +kernel) (by decide +kernel) (by decide +kernel) (by decide +kernel) (by decide +kernel) (by decide +kernel) (by decide +kernel) (by decide +kernel) (by decide +kernel) (by decide +kernel) (by decide +kernel) (by decide +kernel) (by decide +kernel) (by decide +kernel) hb ho hn0 hcall D G α sz⟩
    · cases hh
      obtain ⟨a0, a1, rfl⟩ := xlen2 (l := Is) hI
      exact ⟨xIs_in xhw.2.1, xh2 (k := 15) hfl (by decide) (by decide +kernel) (by decide +kernel) (by decide +kernel) (by decide +kernel) (by decide +kernel) (by decide +kernel) (by decide +kernel) (by decide +kernel) (by decide +kernel) (by decide +kernel) xhw.2.1 (by decide +kernel) (by decide +kernel) (by decide +kernel) (by decide +kernel) (by decide +kernel) (by decide +kernel) (by decide +kernel) (by decide +kernel) (by decide +kernel) (by decide +kernel) (by decide +kernel) (by decide +kernel) (by decide +kernel) (by decide +kernel) hb ho hn0 hcall D G α sz⟩
    · cases hh
      obtain ⟨a0, a1, rfl⟩ := xlen2 (l := Is) hI
      exact ⟨xIs_in xhw.2.2.1, xh2 (k := 18) hfl (by decide) (by decide +kernel) (by decide +kernel) (by decide +kernel) (by decide +kernel) (by decide +kernel) (by decide +kernel) (by decide +kernel) (by decide +kernel) (by decide +kernel) (by decide +kernel) xhw.2.2.1 (by decide +kernel) (by decide +kernel) (by decide +kernel) (by decide +kernel) (by decide +kernel) (by decide +kernel) (by decide +kernel) (by decide +kernel) (by decide +kernel) (by decide +kernel) (by decide +kernel) (by decide +kernel) (by decide +kernel) (by decide +kernel) hb ho hn0 hcall D G α sz⟩
    · cases hh
      obtain ⟨a0, rfl⟩ := xlen1 (l := Is) hI
      exact ⟨xIs_in xhw.2.2.2, xh1 (k := 21) hfl (by decide) (by decide +kernel) (by decide +kernel) (by decide +kernel) (by decide +kernel) (by decide +kernel) (by decide +kernel) (by decide +kernel) (by decide +kernel) (by decide +kernel) (by decide +kernel) xhw.2.2.2 (by decide +kernel) (by decide +kernel) (by decide +kernel) (by decide +kernel) (by decide +kernel) (by decide +kernel) (by decide +kernel) (by decide +kernel) (by decide +kernel) (by decide +kernel) (by decide +kernel) (by decide +kernel) (by decide +kernel) hb ho hn0 hcall D G α sz⟩
set_option maxHeartbeats 4000000 in
theorem xlawcall {p : Program} {l : Launch} {e : Env} {R : Room} {s : State} {m : MethodId} {args : Array Value} {below : List Frame} {meth : Method} {c : Code} {D : va_G} {G : xG} {A : Nat → Prop} {d : Nat} {α0 : Nat → Nat} {lay0 : List (Nat × Nat)} {QW : State → Prop} {pc z : Nat} {L S : List Value} {u : Nat × Nat} {σ : xSt}
    (hfl : l.stackTraces = false) (C : xCtx p R s m args meth c D G A 242 (d + 3)) (hZ : xZ A s s.heap) (hd : decode (xB 242) pc = .ok (.invokestatic z, 3)) (h : xStat (d + 2) 242 (xAW p l e R s m args below meth c D G A 242 α0 lay0 QW) z pc L S u σ) : xAW p l e R s m args below meth c D G A 242 α0 lay0 QW pc L S u σ := by
  obtain ⟨hx, hb, hml, hts, hown, hK, hA, hin, hlk, hR1, hR2, hR3, hR4, hXw⟩ := C
  obtain ⟨M', As, r, hc, hlen, hcat, rfl, hok, k⟩ := h
  intro α H locs ls hP hD hS hl hn h1 h2 hk
  have hM' := xlaw_stat hc
  obtain ⟨t1, t2, t3, t4, t5, t6⟩ := id hok
  obtain ⟨w1, w2, w3, w4, w5, w6, w7⟩ := xM_word t2
  obtain ⟨zz, z1, z2, z3⟩ := xC_word hc
  simp only [xCok, Bool.and_eq_true] at z3
  rw [z1, z2] at z3
  obtain ⟨⟨y1, y2⟩, y4⟩ := z3
  obtain ⟨hcw, hMet⟩ := xhelp hfl hM' k D G α H.size
  have hrt : xRt M' = some .int := by rcases hM' with rfl | rfl | rfl | rfl <;> decide +kernel
  have hG : GoodIn xT (va_wsS (xR 13) z (xY M') (.codeWith (xY M') (xB M') (xL M') (some .int) (xHh M') :: xT)) := fun w hw => by
    unfold va_wsS at hw
    rcases List.mem_append.mp hw with hw | hw
    · simp only [List.mem_cons, List.not_mem_nil, or_false] at hw
      rcases hw with rfl | rfl | rfl
      · exact xT_good _ (xIs_in y1)
      · exact xT_good _ (xIs_in y2)
      · exact xT_good _ (xIs_in y4)
    · rcases List.mem_cons.mp hw with rfl | hw
      · exact xT_good _ hcw
      · exact xT_good _ hw
  have hF := xfree hD hS hA
  have hZ' : xZ (va_A (xW G α σ) H.size) s H := ⟨vx_Zq.narrow (vx_Zq.kept hZ.1 (fun a q1 q2 => hS.2.1 a q1 q2)) hF, vx_Zq.narrow (vx_Zq.kept hZ.2 (fun a q1 q2 => hS.2.1 a q1 q2)) hF⟩
  have hps : PreS s H (va_Pc (As.map (xcv α)) (xPreZ D G α σ H.size)) (As.map (xcv α)) := ⟨xPreZ_blind, fun U hU hW => ⟨rfl, ⟨by rw [hU], by rw [hU]; exact hP, va_K.moved hW.alike hK, hD.weaken (fun _ _ _ _ => trivial), xXw_warm hW hXw⟩, by rw [hU]; exact ⟨vx_Zq.moved hW.alike hZ'.1, vx_Zq.moved hW.alike hZ'.2⟩⟩⟩
  have hst : ((As.reverse ++ r).map (xcv α)) = (As.map (xcv α)).reverse ++ r.map (xcv α) := by
    rw [List.map_append, List.map_reverse]
  rw [hst]
  have hln : (As.map (xcv α)).length = xN M' := by rw [List.length_map]; exact hlen
  have hrm : ((r.map (xcv α)).map fun v => v.category).sum ≤ 8 := by rw [xcat_map]; exact t3
  have hcS := vx_cwSW (R := R) (s := s) (args := args) (own := xR 13) (index := z) (rm := xRm (d + 2) M') (xN M') hts hG rfl rfl rfl ⟨w2, w3, w4⟩ (xRm_ok hR3 hR4 w7)
  have hown' : s.vm.findClass (xR 13) = some m.cls := hown
  have hrun := vx_runSX (e := e) (meth := meth) (below := below) (locs := locs) (cells := u.1) (slots := u.2) (rest := r.map (xcv α)) (As := As.map (xcv α)) (g := F0 m pc ls ((As.map (xcv α)).reverse ++ r.map (xcv α))) ⟨hx, hb, hml, hown', hts⟩ hMet hcS hps rfl hln (by show ls.size = _; rw [hl.1, hn]) rfl (lv_room hrm) hd ⟨Nat.le_trans t4 hR1, Nat.le_trans t5 hR2⟩
  exact vx_calli hrun hS (fun q _ h => hF q h) hF (fun q _ h => hF q h) (fun E ce q9 w t H1 locs1 ht hvm hw hB hz1 hk1 hS1 hc1 hc2 hc3 => hw.elim) (fun x w t H1 locs1 ht hvm hw hB hz1 hk1 hS1 => xback (H := H) (Or.inr ⟨x, rfl⟩) hok hl hn hk hD hF hw.1 hw.2 (by rw [← ht]; exact hB.1) hB.2 hS1)
