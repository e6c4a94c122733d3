/-! the four methods that may throw; the law's four that catch -/
abbrev xNms : List String := ["java/lang/RuntimeException", "java/lang/Exception"]
set_option maxRecDepth 100000 in
theorem xat0_ok : (vx_at0 "OneChairShort" 164 xNS xNms).all (fun w => decide (w ∈ xDW) || (goodWord w && decide (w ∈ lw_tbl))) = true := by decide +kernel
set_option maxRecDepth 100000 in
theorem xat0_ot : (vx_at0 "OneChairShort" 164 xNS xNms).all vx_ot = true := by decide +kernel
theorem xthr_words : xIs 5050 (.classLink "OneChairShort" 162 xNS) = true ∧ xIs 1019 (.initialized xNS) = true ∧ xIs 5045 (.classLink "OneChairShortLaw" 13 xNS) = true := by decide +kernel
theorem xdw_any {s : State} {A : Array Value} {w : Cond} (hw : w ∈ xDW) (h : w.before #[] s = true) : w.before A s = true := by
  have ho : w.onTables = true := by
    simp only [xDW, List.mem_cons, List.not_mem_nil, or_false] at hw
    rcases hw with rfl | rfl | rfl | rfl <;> rfl
  exact va_tabs ho rfl h
theorem xThr_code {M pc : Nat} (h : xThr M pc = true) : decode (xB M) pc = .ok (.new 162, 3) ∧ decode (xB M) (pc + 3) = .ok (.dup, 1) ∧ decode (xB M) (pc + 4) = .ok (.invokespecial 164, 3) ∧ decode (xB M) (pc + 7) = .ok (.athrow, 1) ∧ xR (xC M) = "OneChairShort" ∧ xAl M = (1, 6) := by
  have hh : (M = 104 ∧ pc = 11) ∨ (M = 104 ∧ pc = 235) ∨ (M = 118 ∧ pc = 21) ∨ (M = 143 ∧ pc = 21) ∨ (M = 150 ∧ pc = 11) := by
    simp only [xThr, Bool.or_eq_true, Bool.and_eq_true, decide_eq_true_eq] at h
    omega
  rcases hh with ⟨rfl, rfl⟩ | ⟨rfl, rfl⟩ | ⟨rfl, rfl⟩ | ⟨rfl, rfl⟩ | ⟨rfl, rfl⟩ <;> exact ⟨by decide +kernel, by decide +kernel, by decide +kernel, by decide +kernel, by decide +kernel, by decide +kernel⟩
def xZ (A : Nat → Prop) (U : State) (H : Heap) : Prop := vx_Zq Bundle.tN "UNASSIGNED_STACK" Bundle.steD A U H ∧ vx_Zq Bundle.tN "SUPPRESSED_SENTINEL" Bundle.listD A U H
def xPreZ (D : va_G) (G : xG) (α : Nat → Nat) (σ : xSt) (sz : Nat) : State → Prop := fun U => xPre D G α σ sz U ∧ xZ (va_A (xW G α σ) sz) U U.heap
theorem xPreZ_blind {D : va_G} {G : xG} {α : Nat → Nat} {σ : xSt} {sz : Nat} {av : List Value} : FrameBlind (va_Pc av (xPreZ D G α σ sz)) := fun a U g mk q => by
  obtain ⟨q0, ⟨q1, qP, qK, qD, qX⟩, qZ1, qZ2⟩ := q
  exact ⟨q0, ⟨q1, qP, va_K.moved (u := U) (U := U.calling g mk a) (Vm.Alike.refl U.vm) qK, qD, xXw_same (u := U) rfl qX⟩, vx_Zq.moved (u := U) (U := U.calling g mk a) (Vm.Alike.refl U.vm) qZ1, vx_Zq.moved (u := U) (U := U.calling g mk a) (Vm.Alike.refl U.vm) qZ2⟩
def xMetT (l : Launch) (d : Nat) : Prop := ∀ (M : Nat) (As : List Value) (σ : xSt) (Q : xQr), xCall d M As σ Q → xThrows M = true → (∀ v ∈ As, v.category = 1) → ∀ (D : va_G) (G : xG) (α : Nat → Nat) (sz : Nat),
  vx_Met l (xY M) (xWs M) (xRm d M) (va_Pc (As.map (xcv α)) (xPreZ D G α σ sz)) (va_Qi (fun (r : Int32) (w : xSt × (Nat → Nat)) => Q (some (.int r)) w.1 ∧ xLk α σ.1 M w.2 w.1.1) (xPost D G (va_A (xW G α σ) sz)) (va_A (xW G α σ) sz)) (vx_X (fun w : xSt × (Nat → Nat) => Q (some .null) w.1 ∧ xLk α σ.1 M w.2 w.1.1) (fun E w t => E = xNS ∧ xPost D G (va_A (xW G α σ) sz) w t) (va_A (xW G α σ) sz)) (xAl M).1 (xAl M).2 (va_A (xW G α σ) sz)
theorem xThrows_facts {M : Nat} (h : xThrows M = true) : M < 242 ∧ xHelper M = none ∧ xRt M = some .int ∧ xC M = 11 := by
  simp only [xThrows, Bool.or_eq_true, decide_eq_true_eq] at h
  rcases h with ((h | h) | h) | h <;> subst h <;> exact ⟨by decide, by decide, by decide +kernel, by decide +kernel⟩
theorem xmetT {l : Launch} (hfl : l.stackTraces = false) : ∀ d, xMetT l d := by
  intro d
  cases d with
  | zero => exact fun _ _ _ _ h => h.elim
  | succ d =>
    intro M As σ Q hcall hthr hcat D G α sz
    obtain ⟨hM242, hhelp, hrt, hc11⟩ := xThrows_facts hthr
    rcases hcall with ⟨-, hlen, hP⟩ | ⟨T, b, Is, o, n, n', hh, -⟩
    case inr => rw [hhelp] at hh; cases hh
    obtain ⟨w1, w2, w3, w4, w5, w6, w7⟩ := xM_word (M := M) (by omega)
    refine vx_ofW (cc := xB M) (maxL := xL M) (ret := xRt M) w1 rfl ?_
    intro p e s m args below meth c s₁ B hml htab hv
    obtain ⟨rfl, ⟨rfl, hP0, hK, hD0, hX⟩, hZ⟩ := hv
    have hA : ∀ q, s.heap.size ≤ q → va_A (xW G α σ) s.heap.size q := fun q h => Or.inr h
    have C := xctx_of (A := va_A (xW G α σ) s.heap.size) (by omega) B hml hK hA hX
    have C' := C
    obtain ⟨hx, hb, hml', hts, hown, hK', hA', hin, hlk, hR1, hR2, hR3, hR4, hXw⟩ := C'
    rw [lg_entry_eq]
    refine hP (xAW p l e (xRm (d + 1) M) s m ((As.map (xcv α)).toArray) below meth c D G (va_A (xW G α σ) s.heap.size) M α σ.1 _) (fun pc L S u σ' hs => xstep (xmetI l d) C (fun n xs hs => by cases hs) (fun h13 => by rw [hc11] at h13; cases h13) ?_ ?_ ?_ hs) α s.heap [] _ hP0 hD0.self va_S.rf (xLv_entry hcat hlen) (by simp; omega) (Nat.zero_le _) (Nat.zero_le _) ⟨fun _ _ => rfl, Nat.le_refl _, fun _ => ⟨rfl, rfl⟩⟩
    · intro ht hq α' H locs ls hP' hD' hS' hl' hn' g1 g2 hk'
      obtain ⟨d1, d2, d3, d4, d5, d6⟩ := xThr_code ht
      rw [d5] at hown
      have e1 : (xAl M).1 = 1 := by rw [d6]
      have e2 : (xAl M).2 = 6 := by rw [d6]
      have hat : ∀ w ∈ vx_at0 "OneChairShort" 164 xNS xNms, w.before ((As.map (xcv α)).toArray) s = true := fun w hw => by
        have h1 := List.all_eq_true.mp xat0_ok w hw
        simp only [Bool.or_eq_true, Bool.and_eq_true, decide_eq_true_eq] at h1
        rcases h1 with h1 | ⟨h1, h2⟩
        · exact xdw_any h1 (hXw.2.2.2 w h1)
        · exact hts w (List.mem_filter.mpr ⟨h2, h1⟩)
      refine vx_throw0 (rest := []) (names := xNms) (ik := 162) (ic := 164) (cls := xNS) hx hb hfl hown (by decide +kernel) (by decide +kernel) (hts _ (xIs_in xthr_words.1)) (hts _ (xIs_in xthr_words.2.1)) hat ?_ hZ.1 hZ.2 hS' (by rw [hl'.1, hn', hml']) d1 d2 d3 d4 (fun x hx => (htab x hx).elim) ?_ ?_ ?_ ?_ hlk ?_ (fun q h => hS'.2.2 q h) ?_ ?_
      · intro w hw
        rcases List.mem_cons.mp hw with rfl | hw
        · decide +kernel
        · rcases List.mem_cons.mp hw with rfl | hw
          · decide +kernel
          · exact List.all_eq_true.mp xat0_ot w hw
      · show 2 + 3 < d + 1 + 20
        omega
      · show 0 + (13 * (2 + 1) + 42) ≤ 60 * (d + 1) + 600
        omega
      · show 0 + 1 ≤ (xAl M).1
        omega
      · show 0 + 6 ≤ (xAl M).2
        omega
      · intro t hvm hz hk
        refine ⟨(σ', α'), ⟨hq, hk'⟩, ⟨rfl, hP'.kept (fun k q hq => hk q.1 ((hP' k q hq).lt)), hD'⟩, Nat.le_trans hS'.1 hz, fun q h1 h2 => (hk q (Nat.lt_of_lt_of_le h1 hS'.1)).trans (hS'.2.1 q h1 h2)⟩
      · show 0 + 1 ≤ (xAl M).1
        omega
      · show 0 + 6 ≤ (xAl M).2
        omega
    · intro v hd hr hq α' H locs ls hP' hD' hS' hl' hn' g1 g2 hk'
      refine W.widen g1 g2 (vx_ret ?_)
      exact W.zret (hlocks := B.notSynchronized) B.exec B.bytes (B.returns.trans hrt) rfl (fun t ht hW => ⟨⟨v, (σ', α'), rfl, ⟨hq, hk'⟩, by show va_P D vwCl (xW G α' σ') t.heap; rw [ht]; exact hP', hD'⟩, by have := hS'.F ht; exact this⟩) (fun q h => hS'.2.2 q h) hd
    · intro hd hr
      rw [hrt] at hr
      cases hr
