/-! the claim out of xLaw -/
theorem xnest_ok : xCL.all (fun e => !decide (e.2.2 = 3) || decide (Cond.methodLinkNest (xR (e.1 / 1000)) (e.1 % 1000) (xY e.2.1) "OneChairShort" ∈ lw_tbl)) = true := by decide +kernel
set_option maxRecDepth 100000 in
theorem xDW_ok : xDW.all (fun w => decide (w ∈ lw_tbl)) = true := by decide +kernel
theorem xmem_T {args : Array Value} {s : State} (h : ∀ w ∈ lw_tbl, w.before args s = true) : ∀ w ∈ xT, w.before args s = true := fun w hw => h w (List.mem_filter.mp hw).1
theorem xarrK {args : Array Value} {s : State} {ty : FieldType} (h : (Cond.arrayClass ty).before args s = true) (hobj : ∀ n, ty ≠ .object n) : ∃ cA : ClassId, ArrOfT s cA ty ∧ va_RA s cA ty := by
  obtain ⟨cA, kA, comp, h1, h2, h3⟩ := Cond.arrayClass_spec h
  refine ⟨cA, fun n z => ⟨fun k h => (by cases h), kA, h2, comp, h3⟩, ?_⟩
  unfold va_RA
  cases ty with
  | object n => exact absurd rfl (hobj n)
  | _ => exact h1
theorem xarrA {args : Array Value} {s : State} {ty : FieldType} (h : (Cond.arrayOver (.array ty)).before args s = true) : ∃ cA : ClassId, ArrOfT s cA (.array ty) ∧ va_RA s cA (.array ty) := by
  obtain ⟨comp, c, k, h1, h2, h3, h4, h5⟩ := arrayOverA_spec h
  exact ⟨c, fun n z => ⟨fun k h => (by cases h), k, h3, comp, h4⟩, h5⟩
theorem xInst {c : Nat} (h : c < 13) : Cond.instantiable (xR c) (xNF c) ∈ xT := by
  have h1 : (List.range 13).all (fun c => xNL.any (fun e => decide (e.2.1 = c))) = true := by decide +kernel
  have h2 := List.all_eq_true.mp h1 c (List.mem_range.mpr h)
  obtain ⟨e, he, hc⟩ := List.any_eq_true.mp h2
  have hc := of_decide_eq_true hc
  have h4 := List.all_eq_true.mp xNL_ok e he
  simp only [Bool.and_eq_true, decide_eq_true_eq] at h4
  rw [← hc]
  exact xIs_in h4.1.1.2
theorem xK_law {args : Array Value} {s : State} (h : ∀ w ∈ lw_tbl, w.before args s = true) (ho : (Cond.arrayOver (.array .int)).before args s = true ∧ (Cond.arrayOver (.array .byte)).before args s = true) : ∃ (D : va_G) (G : xG), va_K D vwCl (xTys G) s := by
  have hts := xmem_T h
  have hc : ∀ c, ∃ q : ClassId × (Nat → Nat), c < 13 → u_Kn s (xR c) (xFt c) (xNF c) q.1 q.2 := by
    intro c
    by_cases hc : c < 13
    · obtain ⟨f1, -⟩ := xCl_fact hc
      obtain ⟨cC, iS, hk⟩ := u_known hts f1 (hts _ (xInst hc))
      exact ⟨(cC, iS), fun _ => hk⟩
    · exact ⟨(0, fun _ => 0), fun h => absurd h hc⟩
  obtain ⟨a1, a2, a3, a4⟩ := xArr_ok
  obtain ⟨c1, e1⟩ := xarrK (hts _ a1) (by intro n h; cases h)
  obtain ⟨c2, e2⟩ := xarrK (hts _ a2) (by intro n h; cases h)
  obtain ⟨c3, e3⟩ := xarrK (hts _ a3) (by intro n h; cases h)
  obtain ⟨c4, e4⟩ := xarrK (hts _ a4) (by intro n h; cases h)
  obtain ⟨c5, e5⟩ := xarrA ho.1
  obtain ⟨c6, e6⟩ := xarrA ho.2
  refine ⟨(fun c => (Classical.choose (hc c)).1, fun c => (Classical.choose (hc c)).2), (c1, c2, c3, c4, c5, c6), fun c q hq => ?_, fun k q hq => ?_⟩
  · have hl : c < 13 := by
      have := (List.getElem?_eq_some_iff.mp hq).1
      exact this
    rw [xCl_get c hl] at hq
    cases hq
    exact Classical.choose_spec (hc c) hl
  · match k, hq with
    | 0, hq => cases hq; exact e1
    | 1, hq => cases hq; exact e2
    | 2, hq => cases hq; exact e3
    | 3, hq => cases hq; exact e4
    | 4, hq => cases hq; exact e5
    | 5, hq => cases hq; exact e6
    | n + 6, hq => cases hq
theorem xAl_law : xAl 242 = (601024, 7293033) := rfl
set_option maxHeartbeats 4000000 in
set_option maxRecDepth 100000 in
theorem xwhole {p : Program} {e : Env} {s : State} {m : MethodId} {below : List Frame} {meth : Method} {c : Code} (l : Launch) (hflags : l.flags = flags0) {b L : Nat} {xs : Nat → Int32} (C0 : lw_At p s m meth c b L xs) (hp : xLaw L xs) : W p l e room_1 s m #[Value.ref b] below meth c s.heap [] 0 0 (lw_Z below #[Value.ref b] s) (entryFrame m ([Value.ref b] : List Value).toArray 7) := by
  obtain ⟨hx, hb, hr, hml, hown, hts, hX, hbl, hlocks, hgv⟩ := C0
  have hfl : l.stackTraces = false := by unfold Launch.stackTraces; rw [hflags]; decide +kernel
  have ho : (Cond.arrayOver (.array .int)).before #[Value.ref b] s = true ∧ (Cond.arrayOver (.array .byte)).before #[Value.ref b] s = true := ⟨hts _ (xTab_mem xOver.1), hts _ (xTab_mem xOver.2)⟩
  obtain ⟨D, G, hK⟩ := xK_law hts ho
  have hXw : xXw s := by
    refine ⟨fun c i y hc => ?_, ho.1, ho.2, fun w hw => ?_⟩
    · obtain ⟨h1, h2, h3⟩ := xLook_mem hc
      have h4 := List.all_eq_true.mp xnest_ok _ h1
      dsimp only at h4
      rw [h2, h3] at h4
      simp only [Bool.or_eq_true, Bool.not_eq_true', decide_eq_true_eq, decide_eq_false_iff_not, not_true, false_or] at h4
      exact va_tabs rfl rfl (hts _ h4)
    · have h1 := of_decide_eq_true (List.all_eq_true.mp xDW_ok w hw)
      have h2 := hts _ h1
      have hot : w.onTables = true := by
        simp only [xDW, List.mem_cons, List.not_mem_nil, or_false] at hw
        rcases hw with rfl | rfl | rfl | rfl <;> rfl
      exact va_tabs hot rfl h2
  have hg := flat_of_before _ hgv
  have hA0 : ∀ a : Nat, a < s.heap.size → ¬ (fun q : Nat => s.heap.size ≤ q) a := fun a h => Nat.not_le.mpr h
  have hZ : xZ (fun q : Nat => s.heap.size ≤ q) s s.heap := by
    refine ⟨vx_Zqof (args := #[Value.ref b]) (hts _ ?_) (hts _ ?_) (hg _ ?_) hA0, vx_Zqof (args := #[Value.ref b]) (hts _ ?_) (hts _ ?_) (hg _ ?_) hA0⟩ <;> decide +kernel
  have C : xCtx p room_1 s m #[Value.ref b] meth c D G (fun q : Nat => s.heap.size ≤ q) 242 301 := ⟨hx, hb, hml, xmem_T hts, hown, hK, fun _ h => h, fun h => absurd h (by decide +kernel), hlocks, by rw [xAl_law]; exact Nat.le_refl _, by rw [xAl_law]; exact Nat.le_refl _, Nat.le_of_ble_eq_true rfl, Nat.le_of_ble_eq_true rfl, hXw⟩
  rw [lg_entry_eq]
  refine hp (xAW p l e room_1 s m #[Value.ref b] below meth c D G (fun q : Nat => s.heap.size ≤ q) 242 (fun _ => b) [] (lw_Z below #[Value.ref b] s)) (fun pc L' S u σ hs => xstep (xmetI l 300) C (fun n ys hs => ?_) (fun _ z hd hst => xlawcall (d := 298) hfl C hZ hd hst) (fun h => ?_) (fun v hd hrt hq => ?_) (fun hd hrt hq => ?_) hs) (fun _ => b) s.heap [] _ (fun k q h => by simp [xW] at h) ⟨fun i j p q h => by simp [xW] at h, fun k q h => by simp [xW] at h⟩ va_S.rf (xLv_entry (As := [.ref 100000]) (fun v hv => by simp only [List.mem_cons, List.not_mem_nil, or_false] at hv; rw [hv]; rfl) (by decide)) rfl (Nat.zero_le _) (Nat.zero_le _) ⟨fun _ _ => rfl, Nat.le_refl _, fun h => absurd h (by decide +kernel)⟩
  · cases hs
    exact ⟨hX, hbl, hA0 b hbl⟩
  · have := xThr_throws h
    exact absurd this (by decide +kernel)
  · cases hq
    intro α H locs ls hP hD hS hl hn g1 g2 hk
    refine va_forget (fun q hq => hS.2.2 q hq) (W.widen g1 g2 ?_)
    exact lw_ret hx hb hr hlocks hd
  · exact absurd hq (by simp)
