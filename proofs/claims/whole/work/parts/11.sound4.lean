/-! calls: what a method owes to its callers, and the step of a call -/
theorem xAO_moved {t : FieldType} {u U : State} (hvm : u.vm.Alike U.vm) (h : (Cond.arrayOver (.array t)).before #[] u = true) : (Cond.arrayOver (.array t)).before #[] U = true := by
  obtain ⟨comp, c, k, h1, h2, h3, h4, h5⟩ := arrayOverA_spec h
  obtain ⟨k', hk', he⟩ := hvm.2.2 _ _ h3
  have hi : (U.vm.classes.findIdx? fun (x : Class) => match x.kind with | .array component _ => component == comp | _ => false) = some c := by
    have e0 : U.vm.bare = u.vm.bare := by first | exact hvm.bare_eq.symm | exact hvm.bare_eq
    have e1 := va_idx_bare U.vm comp
    rw [e0] at e1
    exact e1.symm.trans ((va_idx_bare u.vm comp).trans h2)
  have hkind : k'.kind = .array comp (.array t) := by rw [he]; exact h4
  have f1 : U.vm.findClass (FieldType.array t).toString = some comp := by rw [hvm.findClass]; exact h1
  have f2 : U.vm.findClass ("[" ++ (FieldType.array t).toString) = some c := by rw [hvm.findClass]; exact h5
  unfold Cond.before Cond.holds
  simp only [Cond.value]
  rw [f1, Option.bind_some]
  refine (congrArg (fun o : Option Nat => (o.bind (fun c => (U.vm.classes[c]?).map fun (k : Class) => match k.kind with | .array _ ty => decide (ty = FieldType.array t) && decide (U.vm.findClass ("[" ++ (FieldType.array t).toString) = some c) | _ => false) == some true)) hi).trans ?_
  simp [hk', hkind, f2]
theorem xDW_moved {u U : State} (hvm : u.vm.Alike U.vm) (h : ∀ w ∈ xDW, w.before #[] u = true) : ∀ w ∈ xDW, w.before #[] U = true := by
  have tr : ∀ {c : Cond}, c.onTables = true → c.before #[] (u.setVm U.vm) = true → c.before #[] U = true := by
    intro c hc h
    have e := Cond.onTables_vm (A := #[]) (A' := #[]) (U := u) (U' := U) U.vm c hc
    have hU : U.setVm U.vm = U := rfl
    rw [hU] at e
    rw [← e]
    exact h
  intro w hw
  have h1 := h w hw
  simp only [xDW, List.mem_cons, List.not_mem_nil, or_false] at hw
  rcases hw with rfl | rfl | rfl | rfl
  · exact tr rfl (by rw [Cond.declares_setVm hvm]; exact h1)
  · exact tr rfl (by rw [Cond.declares_setVm hvm]; exact h1)
  · exact tr rfl (by rw [Cond.declares_setVm hvm]; exact h1)
  · exact tr rfl (by rw [Cond.castable_setVm hvm]; exact h1)
theorem xXw_same {u U : State} (h : u.vm = U.vm) (hX : xXw u) : xXw U := ⟨fun c i y q => va_tabs rfl h (hX.1 c i y q), xAO_moved (h ▸ Vm.Alike.refl u.vm) hX.2.1, xAO_moved (h ▸ Vm.Alike.refl u.vm) hX.2.2.1, xDW_moved (h ▸ Vm.Alike.refl u.vm) hX.2.2.2⟩
theorem xXw_warm {s U : State} (hW : s.WarmedH U.vm) (hX : xXw s) : xXw U := ⟨fun c i y q => va_Nw.warmM hW (hX.1 c i y q), xAO_moved hW.alike hX.2.1, xAO_moved hW.alike hX.2.2.1, xDW_moved hW.alike hX.2.2.2⟩
def xRm (d M : Nat) : Room := { frames := d + 20, cells := (xAl M).1, slots := (xAl M).2, locals := 60 * d + 600 }
theorem xRm_ok {R : Room} {d M' : Nat} (h3 : d + 1 + 20 ≤ R.frames) (h4 : 60 * (d + 1) + 600 ≤ R.locals) (h : xL M' ≤ 30) : (xRm d M').frames + 1 ≤ R.frames ∧ 8 + (xL M' + 11) + (xRm d M').locals ≤ R.locals := by
  simp only [xRm]
  omega
def xWs (M : Nat) : List Cond := xMcode M :: xT
def xPre (D : va_G) (G : xG) (α : Nat → Nat) (σ : xSt) (sz : Nat) : State → Prop := fun U => U.heap.size = sz ∧ va_P D vwCl (xW G α σ) U.heap ∧ va_K D vwCl (xTys G) U ∧ va_D (fun _ => True) (xW G α σ) ∧ xXw U
def xPost (D : va_G) (G : xG) (A : Nat → Prop) (w : xSt × (Nat → Nat)) (t : State) : Prop := va_P D vwCl (xW G w.2 w.1) t.heap ∧ va_D A (xW G w.2 w.1)
theorem xPre_blind {D : va_G} {G : xG} {α : Nat → Nat} {σ : xSt} {sz : Nat} {av : List Value} : FrameBlind (va_Pc av (xPre D G α σ sz)) := fun a U g mk q => by
  obtain ⟨q0, q1, qP, qK, qD, qX⟩ := q
  exact ⟨q0, q1, qP, va_K.moved (u := U) (U := U.calling g mk a) (Vm.Alike.refl U.vm) qK, qD, xXw_same (u := U) rfl qX⟩
/-- what is proved of every method at depth d -/
def xMetI (l : Launch) (d : Nat) : Prop := ∀ (M : Nat) (As : List Value) (σ : xSt) (Q : xQr), xCall d M As σ Q → xThrows M = false → xHelper M = none → M < 242 → (∀ v ∈ As, v.category = 1) → ∀ (D : va_G) (G : xG) (α : Nat → Nat) (sz : Nat),
  (xRt M = none → Met l (xY M) (xWs M) (xRm d M) (va_Pc (As.map (xcv α)) (xPre D G α σ sz)) (va_Qv (fun w : xSt × (Nat → Nat) => Q none w.1 ∧ xLk α σ.1 M w.2 w.1.1) (xPost D G (va_A (xW G α σ) sz)) (va_A (xW G α σ) sz)) (xAl M).1 (xAl M).2 (va_A (xW G α σ) sz)) ∧
  (xRt M ≠ none → Met l (xY M) (xWs M) (xRm d M) (va_Pc (As.map (xcv α)) (xPre D G α σ sz)) (va_Qi (fun (r : Int32) (w : xSt × (Nat → Nat)) => Q (some (.int r)) w.1 ∧ xLk α σ.1 M w.2 w.1.1) (xPost D G (va_A (xW G α σ) sz)) (va_A (xW G α σ) sz)) (xAl M).1 (xAl M).2 (va_A (xW G α σ) sz))
theorem xM_word {M : Nat} (h : M < 243) : plainName (xY M).cls = true ∧ (xY M).cls ≠ "java/lang/invoke/MethodHandle" ∧ (xY M).cls ≠ "java/lang/invoke/VarHandle" ∧ (parseMethodDescriptor (xY M).desc).map (fun d => d.parameters.length) = some (xN M) ∧ xR (xC M) = (xY M).cls ∧ (xRt M = none ∨ xRt M = some .int ∨ xRt M = some .boolean) ∧ xL M ≤ 30 := by
  have h1 := List.all_eq_true.mp xM_ok M (List.mem_range.mpr h)
  simp only [xMok, Bool.and_eq_true, Bool.or_eq_true, decide_eq_true_eq] at h1
  obtain ⟨⟨⟨⟨⟨⟨g1, g2⟩, g3⟩, g4⟩, g5⟩, g6⟩, g7⟩ := h1
  exact ⟨g1, g2, g3, g4, g5, by rcases g6 with (g | g) | g <;> simp [g], g7⟩
theorem xMc_word {M : Nat} (h : M < 243) (h13 : xC M ≠ 13) : xMcode M ∈ xT := by
  rcases xMc M h with q | ⟨q1, q2⟩
  · exact absurd q h13
  · exact List.mem_filter.mpr ⟨xTab_mem q1, q2⟩
theorem xWs_good {M : Nat} (h : M < 243) (h13 : xC M ≠ 13) : GoodIn xT (xWs M) := fun w hw => by
  rcases List.mem_cons.mp hw with rfl | hw
  · exact xT_good _ (xMc_word h h13)
  · exact xT_good _ hw
theorem xC_ok (e : Nat × Nat × Nat) (h : e ∈ xCL) : xCok e = true := by
  obtain ⟨i, hi⟩ := List.getElem?_of_mem h
  have hl : xCL.length = 317 := by decide +kernel
  have hlt : i < 317 := by rw [← hl]; exact (List.getElem?_eq_some_iff.mp hi).1
  have pick : ∀ a b : Nat, a ≤ i → i < a + b → ((xCL.drop a).take b).all xCok = true → xCok e = true := by
    intro a b h1 h2 h3
    refine List.all_eq_true.mp h3 e (List.mem_of_getElem? (i := i - a) ?_)
    rw [List.getElem?_take_of_lt (by omega), List.getElem?_drop, show a + (i - a) = i by omega]
    exact hi
  by_cases c0 : i < 40
  · exact pick 0 40 (by omega) (by omega) xCL_ok_0
  by_cases c40 : i < 80
  · exact pick 40 40 (by omega) (by omega) xCL_ok_40
  by_cases c80 : i < 120
  · exact pick 80 40 (by omega) (by omega) xCL_ok_80
  by_cases c120 : i < 160
  · exact pick 120 40 (by omega) (by omega) xCL_ok_120
  by_cases c160 : i < 200
  · exact pick 160 40 (by omega) (by omega) xCL_ok_160
  by_cases c200 : i < 240
  · exact pick 200 40 (by omega) (by omega) xCL_ok_200
  by_cases c240 : i < 280
  · exact pick 240 40 (by omega) (by omega) xCL_ok_240
  exact pick 280 37 (by omega) (by omega) xCL_ok_280
section XS
variable {p : Program} {l : Launch} {e : Env} {R : Room} {s : State} {m : MethodId} {args : Array Value} {below : List Frame} {meth : Method} {c : Code} {D : va_G} {G : xG} {A : Nat → Prop} {M d : Nat} {α0 : Nat → Nat} {lay0 : List (Nat × Nat)} {QW : State → Prop}
variable {scr : Option (Nat × (Nat → Int32))} {Q : xQr} {pc : Nat} {L S : List Value} {u : Nat × Nat} {σ : xSt} {len : Nat}
theorem xfree {α : Nat → Nat} {H : Heap} {locs : List Loc} {H0 : Heap} (hD : va_D A (xW G α σ)) (hS : va_S A H0 H locs) (hA : ∀ q, H0.size ≤ q → A q) : ∀ q, va_A (xW G α σ) H.size q → A q := by
  intro q h
  rcases h with ⟨k, e, h⟩ | h
  · exact hD.2 k (q, e) h
  · exact hA q (Nat.le_trans hS.1 h)
/-- behind a call -/
theorem xback {M' : Nat} {r : List Value} {v : Option Value} {α : Nat → Nat} {H : Heap} {ls : Array Slot} {w : xSt × (Nat → Nat)} {H1 : Heap} {locs1 : List Loc} (hcat : v = none ∨ ∃ x, v = some (.int x)) (hok : xCallOK M M' L r u σ) (hl : xLv α ls L) (hn : L.length = xL M) (hk : xLk α0 lay0 M α σ.1)
    (hD : va_D A (xW G α σ)) (hF : ∀ q, va_A (xW G α σ) H.size q → A q) (hq : xBack (xAW p l e R s m args below meth c D G A M α0 lay0 QW) M' pc L r u v w.1) (hlk : xLk α σ.1 M' w.2 w.1.1) (hP1 : va_P D vwCl (xW G w.2 w.1) H1) (hD1 : va_D (va_A (xW G α σ) H.size) (xW G w.2 w.1)) (hS1 : va_S A s.heap H1 locs1) :
    W p l e R s m args below meth c H1 locs1 (u.1 + (xAl M').1) (u.2 + (xAl M').2) QW (F0 m (pc + 3) ls (v.toList ++ r.map (xcv α))) := by
  obtain ⟨w1, α'⟩ := w
  obtain ⟨-, k⟩ := hq
  obtain ⟨t1, t2, t3, t4, t5, t6⟩ := hok
  have key : xLv α' ls L ∧ r.map (xcv α') = r.map (xcv α) ∧ xLk α0 lay0 M α' w1.1 := by
    cases hg : xGrow M' with
    | false =>
      obtain ⟨e1, e2⟩ := hlk.2.2 hg
      dsimp only at e1 e2
      subst e1
      rw [e2]
      exact ⟨hl, rfl, hk⟩
    | true =>
      obtain ⟨g1, ok1, ok2, ok3, ok4, ok5⟩ := t6 hg
      refine ⟨xLv_ext hlk.1 ok3 hl, xmap_ext hlk.1 ok4, fun i hi => ?_, Nat.le_trans hk.2.1 hlk.2.1, fun q => by rw [q] at g1; cases g1⟩
      exact (hlk.1 i (by have := hk.2.1; omega)).trans (hk.1 i hi)
  have kk := k α' H1 locs1 ls hP1 (hD1.weaken (fun _ _ _ h => hF _ h)) hS1 key.1 hn t4 t5 key.2.2
  rw [List.map_append, key.2.1] at kk
  rcases hcat with rfl | ⟨x, rfl⟩
  · exact kk
  · exact kk
theorem xcat_map {α : Nat → Nat} {r : List Value} : ((r.map (xcv α)).map fun v => v.category) = r.map Value.category := by
  rw [List.map_map]
  apply List.map_congr_left
  intro v _
  exact xcv_cat α v
theorem xC_word {c i M' kd : Nat} (h : xCR c i = some (M', kd)) : ∃ z, z / 1000 = c ∧ z % 1000 = i ∧ xCok (z, M', kd) = true := by
  obtain ⟨h1, h2, h3⟩ := xLook_mem h
  exact ⟨_, h2, h3, xC_ok _ h1⟩
theorem xs_invokevirtual {z : Nat} (hM : xMetI l d) (C : xCtx p R s m args meth c D G A M (d + 1)) (hd : decode (xB M) pc = .ok (.invokevirtual z, len)) (h : xI (xCall d) scr M (xAW p l e R s m args below meth c D G A M α0 lay0 QW) Q pc L S u σ len (.invokevirtual z)) (hv : ∀ M', xCR (xC M) z = some (M', 0) → xHelper M' = none ∧ M' < 242 ∧ xC M' < 13) : xAW p l e R s m args below meth c D G A M α0 lay0 QW pc L S u σ := by
  obtain ⟨hx, hb, hml, hts, hown, hK, hA, hin, hlk, hR1, hR2, hR3, hR4, hXw⟩ := C
  obtain ⟨rfl, M', As, b, r, n, hc, hlen, hcat, rfl, hbo, hok, k⟩ := h
  intro α H locs ls hP hD hS hl hn h1 h2 hk
  obtain ⟨v1, v2, v3⟩ := hv M' hc
  have v4 : xC M' ≠ 13 := by omega
  obtain ⟨t1, t2, t3, t4, t5, t6⟩ := id hok
  obtain ⟨w1, w2, w3, w4, w5, w6, w7⟩ := xM_word t2
  obtain ⟨zz, z1, z2, z3⟩ := xC_word hc
  simp only [xCok, Bool.and_eq_true] at z3
  rw [z1, z2] at z3
  obtain ⟨⟨⟨y1, y2⟩, y3⟩, y4⟩ := z3
  have hG : GoodIn xT (wsV (xR (xC M)) z (xY M').cls (xY M') (xWs M')) := fun w hw => by
    unfold wsV at hw
    rcases List.mem_append.mp hw with hw | hw
    · simp only [List.mem_cons, List.not_mem_nil, or_false] at hw
      rcases hw with rfl | rfl | rfl | rfl
      · exact xT_good _ (xIs_in y1)
      · exact xT_good _ (xIs_in y2)
      · exact xT_good _ (xIs_in y3)
      · exact xT_good _ (xIs_in y4)
    · exact xWs_good t2 v4 w hw
  have hcw := cwV (R := R) (rm := xRm d M') (xN M') hts hG rfl rfl rfl ⟨rfl, w2, w3, w4⟩ (xRm_ok hR3 hR4 w7)
  have hbw : (xW G α σ)[b]? = some (α b, .inr (xC M', xFs α (xC M', n) (σ.2.1.getD b []) (σ.2.2 b))) := xW_obj hbo v3
  have hpv : PreV s H (xY M').cls (α b) (va_Pc ((.ref b :: As).map (xcv α)) (xPre D G α σ H.size)) (As.map (xcv α)) := by
    refine ⟨xPre_blind, ?_, fun U hU hW => ⟨rfl, by rw [hU], by rw [hU]; exact hP, va_K.moved hW.alike hK, hD.weaken (fun _ _ _ _ => trivial), xXw_warm hW hXw⟩⟩
    rw [← w5]
    exact va_recv hK hP (xCl_get _ v3) hbw
  obtain ⟨m1, m2⟩ := hM M' (.ref b :: As) σ _ k t1 v1 v2 (fun v hv => by rcases List.mem_cons.mp hv with rfl | hv; exact rfl; exact hcat v hv) D G α H.size
  have hF := xfree hD hS hA
  have hst : ((As.reverse ++ .ref b :: r).map (xcv α)) = (As.map (xcv α)).reverse ++ .ref (α b) :: r.map (xcv α) := by
    rw [List.map_append, List.map_cons, List.map_reverse]
    rfl
  rw [hst]
  have hln : (As.map (xcv α)).length = xN M' := by rw [List.length_map]; exact hlen
  have hrm : ((r.map (xcv α)).map fun v => v.category).sum ≤ 8 := by rw [xcat_map]; exact t3
  by_cases hr : xRt M' = none
  · exact va_callv (va_runV (g := F0 m pc ls ((As.map (xcv α)).reverse ++ .ref (α b) :: r.map (xcv α))) ⟨hx, hb, hml, hown, hts⟩ (m1 hr) hcw hpv rfl hln (by show ls.size = _; rw [hl.1, hn]) rfl (lv_room hrm) hd ⟨Nat.le_trans t4 hR1, Nat.le_trans t5 hR2⟩) hS (fun q _ h => hF q h) hF
      (fun w t H1 locs1 ht hvm hw hB hz1 hk1 hS1 => xback (H := H) (Or.inl rfl) hok hl hn hk hD hF hw.1 hw.2 (by rw [← ht]; exact hB.1) hB.2 hS1)
  · exact va_calli (va_runV (g := F0 m pc ls ((As.map (xcv α)).reverse ++ .ref (α b) :: r.map (xcv α))) ⟨hx, hb, hml, hown, hts⟩ (m2 hr) hcw hpv rfl hln (by show ls.size = _; rw [hl.1, hn]) rfl (lv_room hrm) hd ⟨Nat.le_trans t4 hR1, Nat.le_trans t5 hR2⟩) hS (fun q _ h => hF q h) hF
      (fun x w t H1 locs1 ht hvm hw hB hz1 hk1 hS1 => xback (H := H) (Or.inr ⟨x, rfl⟩) hok hl hn hk hD hF hw.1 hw.2 (by rw [← ht]; exact hB.1) hB.2 hS1)
end XS
