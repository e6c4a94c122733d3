/-! the law's four that catch -/
set_option maxHeartbeats 4000000 in
theorem xh2 {l : Launch} (hfl : l.stackTraces = false) {d M T k : Nat} (hM : M < 242) (hlM : xL M = 5) (hcM : xC M = 13) (hrM : xRt M = some .int) (hgM : xGrow M = false) (haM : xAl M = (1, 6)) (hT : xThrows T = true) (haT : xAl T = (1, 6)) (hgT : xGrow T = false) (hnT : xN T = 2) (hcr : xCR 13 k = some (T, 0)) {wi : Nat} (hw : xIs wi (.codeWith (xY M) (xB M) (xL M) (some .int) [(0, 10, 13, 13)]) = true)
    (e0 : decode (xB M) 0 = .ok (.aload_n 3, 1)) (e1 : decode (xB M) 1 = .ok (.iconst 0, 1)) (e2 : decode (xB M) 2 = .ok (.aload_n 0, 1)) (e3 : decode (xB M) 3 = .ok (.iload_n 1, 1)) (e4 : decode (xB M) 4 = .ok (.iload_n 2, 1)) (ec : decode (xB M) 5 = .ok (.invokevirtual k, 3)) (f0 : decode (xB M) 8 = .ok (.i2l, 1)) (f1 : decode (xB M) 9 = .ok (.lastore, 1)) (f2 : decode (xB M) 10 = .ok (.goto 7, 3)) (g0 : decode (xB M) 13 = .ok (.astore 4, 2)) (g1 : decode (xB M) 15 = .ok (.iconst 1, 1)) (g2 : decode (xB M) 16 = .ok (.ireturn, 1)) (z0 : decode (xB M) 17 = .ok (.iconst 0, 1)) (z1 : decode (xB M) 18 = .ok (.ireturn, 1))
    {b o n n' : Nat} {i0 i1 : Int32} {σ : xSt} {Q : xQr} (hb0 : σ.1[b]? = some (11, n')) (ho0 : σ.1[o]? = some (16, n)) (hn0 : 0 < n) (hcall : xCall d T [.ref b, .int i0, .int i1] σ (fun v σ' => (v = some .null ∧ Q (some (.int 1)) σ') ∨ ∃ x, v = some (.int x) ∧ Q (some (.int 0)) (σ'.1, σ'.2.1, xu2 σ'.2.2 o 0 x)))
    (D : va_G) (G : xG) (α : Nat → Nat) (sz : Nat) : vx_Met l (xY M) (.codeWith (xY M) (xB M) (xL M) (some .int) [(0, 10, 13, 13)] :: xT) (xRm (d + 1) M) (va_Pc ([.ref b, .int i0, .int i1, .ref o].map (xcv α)) (xPreZ D G α σ sz)) (va_Qi (fun (r : Int32) (w : xSt × (Nat → Nat)) => Q (some (.int r)) w.1 ∧ xLk α σ.1 M w.2 w.1.1) (xPost D G (va_A (xW G α σ) sz)) (va_A (xW G α σ) sz)) (vx_X (fun _ : Unit => False) (fun _ _ _ => True) (va_A (xW G α σ) sz)) (xAl M).1 (xAl M).2 (va_A (xW G α σ) sz) := by
  obtain ⟨w1, w2, w3, w4, w5, w6, w7⟩ := xM_word (M := M) (by omega)
  obtain ⟨tf1, tf2, tf3, tf4⟩ := xThrows_facts hT
  obtain ⟨t1, t2, t3, t4, t5, t6, t7⟩ := xM_word (M := T) (by omega)
  refine vx_ofWH (cc := xB M) (maxL := xL M) (ret := some .int) (hh := [(0, 10, 13, 13)]) w1 rfl ?_
  intro p e s m args below meth c s₁ B hml hv
  have htab := vx_table (x := xY M) B (atoms_spec (ws := .codeWith (xY M) (xB M) (xL M) (some .int) [(0, 10, 13, 13)] :: xT) B.pre _ List.mem_cons_self)
  obtain ⟨rfl, ⟨rfl, hP, hK, hD0, hX⟩, hZ⟩ := hv
  have hA : ∀ q, s.heap.size ≤ q → va_A (xW G α σ) s.heap.size q := fun q h => Or.inr h
  have C := xctx_of (A := va_A (xW G α σ) s.heap.size) (by omega) B hml hK hA hX
  have C' := C
  obtain ⟨hx, hb, hml', hts, hown, hK', hA', hin, hlk, hR1, hR2, hR3, hR4, hXw⟩ := C'
  rw [hcM] at hown
  have hD := hD0.self (sz := s.heap.size)
  have hS : va_S (va_A (xW G α σ) s.heap.size) s.heap s.heap [] := va_S.rf
  rw [hlM]
  have hl := lv_entry [.ref (α b), .int i0, .int i1, .ref (α o)] (n := 5) (Nat.le_of_ble_eq_true rfl)
  show W p l e (xRm (d + 1) M) s m _ below meth c s.heap [] 0 0 _ (entryFrame m ([.ref (α b), .int i0, .int i1, .ref (α o)] : List Value).toArray 5)
  rw [lg_entry_eq]
  generalize (lg_sl [.ref (α b), .int i0, .int i1, .ref (α o)] ++ List.replicate (5 - (lg_sl [.ref (α b), .int i0, .int i1, .ref (α o)]).length) Slot.unset).toArray = ls at hl ⊢
  have hl : lv_has ls 5 [(0, .ref (α b)), (1, .int i0), (2, .int i1), (3, .ref (α o))] := hl
  refine lv_aload_n hx hb e0 rfl (lv_at hl 3 rfl) ?_
  refine lv_iconst (v := 0) hx hb e1 (by decide) ?_
  refine lv_aload_n hx hb e2 rfl (lv_at hl 0 rfl) ?_
  refine lv_iload_n hx hb e3 rfl (lv_at hl 1 rfl) ?_
  refine lv_iload_n hx hb e4 rfl (lv_at hl 2 rfl) ?_
  obtain ⟨zz, k1, k2, k3⟩ := xC_word hcr
  simp only [xCok, Bool.and_eq_true] at k3
  rw [k1, k2] at k3
  obtain ⟨⟨⟨y1, y2⟩, y3⟩, y4⟩ := k3
  have v4 : xC T ≠ 13 := by omega
  have hG : GoodIn xT (wsV (xR 13) k (xY T).cls (xY T) (xWs T)) := fun w hw => by
    unfold wsV at hw
    rcases List.mem_append.mp hw with hw | hw
    · simp only [List.mem_cons, List.not_mem_nil, or_false] at hw
      rcases hw with rfl | rfl | rfl | rfl
      · exact xT_good _ (xIs_in y1)
      · exact xT_good _ (xIs_in y2)
      · exact xT_good _ (xIs_in y3)
      · exact xT_good _ (xIs_in y4)
    · exact xWs_good (by omega) v4 w hw
  have hcw := cwV (R := xRm (d + 1) M) (rm := xRm d T) (xN T) hts hG rfl rfl rfl ⟨rfl, t2, t3, t4⟩ (xRm_ok hR3 hR4 t7)
  have hbw : (xW G α σ)[b]? = some (α b, .inr (11, xFs α (11, n') (σ.2.1.getD b []) (σ.2.2 b))) := xW_obj hb0 (by omega)
  have hF := xfree hD hS hA
  have hpv : PreV s s.heap (xY T).cls (α b) (va_Pc ([.ref b, .int i0, .int i1].map (xcv α)) (xPreZ D G α σ s.heap.size)) [.int i0, .int i1] := by
    refine ⟨xPreZ_blind, ?_, fun U hU hW => ⟨rfl, ⟨by rw [hU], by rw [hU]; exact hP, va_K.moved hW.alike hK, hD0, xXw_warm hW hX⟩, ?_⟩⟩
    · rw [← t5, tf4]
      exact va_recv hK hP (xCl_get 11 (by omega)) hbw
    · rw [hU]
      exact ⟨vx_Zq.moved hW.alike hZ.1, vx_Zq.moved hW.alike hZ.2⟩
  have hcT := xmetT hfl d T _ σ _ hcall hT (fun v hv => by simp only [List.mem_cons, List.not_mem_nil, or_false] at hv; rcases hv with rfl | rfl | rfl <;> rfl) D G α s.heap.size
  have hrun := vx_runV (e := e) (meth := meth) (below := below) (args := ([.ref (α b), .int i0, .int i1, .ref (α o)] : List Value).toArray) (locs := []) (cells := 0) (slots := 0) (rest := [.int 0, .ref (α o)]) (As := [.int i0, .int i1]) (g := F0 m 5 ls [.int i1, .int i0, .ref (α b), .int 0, .ref (α o)]) ⟨hx, hb, hml, hown, hts⟩ hcT hcw hpv rfl (by rw [hnT]; rfl) (by show ls.size = _; rw [hl.1, hlM]) rfl (lv_room (by simp [Value.category])) ec ⟨by show 0 + (xAl T).1 ≤ (xAl M).1; rw [haT, haM]; decide, by show 0 + (xAl T).2 ≤ (xAl M).2; rw [haT, haM]; decide⟩
  have eT1 : (xAl T).1 = 1 := by rw [haT]
  have eT2 : (xAl T).2 = 6 := by rw [haT]
  have eM1 : (xAl M).1 = 1 := by rw [haM]
  have eM2 : (xAl M).2 = 6 := by rw [haM]
  refine vx_calli hrun hS (fun q _ h => hF q h) hF (fun q _ h => hF q h) (fun E ce q9 w t H1 locs1 ht hvm hw hB hz1 hk1 hS1 hc1 hc2 hc3 => ?_) (fun r w t H1 locs1 ht hvm hw hB hz1 hk1 hS1 => ?_)
  · obtain ⟨rfl, hB1, hB2⟩ := hB
    obtain ⟨w1', α'⟩ := w
    obtain ⟨hq, hlk1⟩ := hw
    obtain ⟨ea, el⟩ := hlk1.2.2 hgT
    dsimp only at ea el hq hB1 hB2
    subst ea
    rw [ht] at hB1
    have hq1 : Q (some (.int 1)) w1' := by
      rcases hq with ⟨-, hq⟩ | ⟨x, hq, -⟩
      · exact hq
      · cases hq
    refine vx_catch (own := xR 13) (name := xNS) hown [] ⟨0, 10, 13, 13⟩ [] (by rw [htab]; rfl) (fun z hz => by cases hz) (by decide) (by decide) (hts _ (xIs_in xthr_words.2.2)) (xdw_any (by simp [xDW]) (hX.2.2.2 (.castable xNS xNS) (by simp [xDW]))) hc1 hc2 hc3 ?_
    refine lv_astore (nL := 5) hx hb g0 hl (by decide) rfl (fun ls' hl' => ?_)
    refine lv_iconst (v := 1) hx hb g1 (by decide) ?_
    refine W.widen (k := (xAl M).1) (n := (xAl M).2) (by omega) (by omega) (vx_ret ?_)
    exact W.zret (hlocks := hlk) B.exec B.bytes B.returns rfl (fun t' ht' hW => ⟨⟨1, (w1', α'), rfl, ⟨hq1, ⟨fun _ _ => rfl, by rw [el]; exact Nat.le_refl _, fun _ => ⟨rfl, el⟩⟩⟩, by show va_P D vwCl (xW G α' w1') t'.heap; rw [ht']; exact hB1, hB2⟩, by have := hS1.F ht'; exact this⟩) (fun q h => hS1.2.2 q h) g2
  · obtain ⟨hB1, hB2⟩ := hB
    obtain ⟨w1', α'⟩ := w
    obtain ⟨hq, hlk1⟩ := hw
    obtain ⟨ea, el⟩ := hlk1.2.2 hgT
    dsimp only at ea el hq hB1 hB2
    subst ea
    rw [ht] at hB1
    have hq1 : Q (some (.int 0)) (w1'.1, w1'.2.1, xu2 w1'.2.2 o 0 r) := by
      rcases hq with ⟨hq, -⟩ | ⟨x, hq, hq2⟩
      · cases hq
      · cases hq
        exact hq2
    have ho1 : w1'.1[o]? = some (16, n) := by rw [el]; exact ho0
    refine lv_i2l hx hb f0 rfl ?_
    refine va_last hx hb hK hB1 hB2 hS1 o 3 (xW_long ho1) rfl (by show ¬ ((0 : Int32) < 0 ∨ n ≤ (0 : Int32).toNatClampNeg); intro hh; rcases hh with hh | hh; exact absurd hh (by decide); exact absurd hh (by have e0 : (0 : Int32).toNatClampNeg = 0 := rfl; omega)) f1 (fun H2 locs2 p1 p2 p3 => ?_)
    have es := xset_l (G := G) (σ := w1') (α := α') (i := 0) (x := r) ho1
    have p1 := (es ▸ p1 : va_P D vwCl (xW G α' (w1'.1, w1'.2.1, xu2 w1'.2.2 o 0 r)) H2)
    have p2 := (es ▸ p2 : va_D _ (xW G α' (w1'.1, w1'.2.1, xu2 w1'.2.2 o 0 r)))
    refine lv_goto (tgt := 17) hx hb f2 (by decide) ?_
    refine lv_iconst (v := 0) hx hb z0 (by decide) ?_
    refine W.widen (k := (xAl M).1) (n := (xAl M).2) (by omega) (by omega) (vx_ret ?_)
    exact W.zret (hlocks := hlk) B.exec B.bytes B.returns rfl (fun t' ht' hW => ⟨⟨0, ((w1'.1, w1'.2.1, xu2 w1'.2.2 o 0 r), α'), rfl, ⟨hq1, ⟨fun _ _ => rfl, by show _ ≤ w1'.1.length; rw [el]; exact Nat.le_refl _, fun _ => ⟨rfl, el⟩⟩⟩, by show va_P D vwCl (xW G α' (w1'.1, w1'.2.1, xu2 w1'.2.2 o 0 r)) t'.heap; rw [ht']; exact p1, p2⟩, by have := p3.F ht'; exact this⟩) (fun q h => p3.2.2 q h) z1
set_option maxHeartbeats 4000000 in
theorem xh1 {l : Launch} (hfl : l.stackTraces = false) {d M T k : Nat} (hM : M < 242) (hlM : xL M = 4) (hcM : xC M = 13) (hrM : xRt M = some .int) (hgM : xGrow M = false) (haM : xAl M = (1, 6)) (hT : xThrows T = true) (haT : xAl T = (1, 6)) (hgT : xGrow T = false) (hnT : xN T = 1) (hcr : xCR 13 k = some (T, 0)) {wi : Nat} (hw : xIs wi (.codeWith (xY M) (xB M) (xL M) (some .int) [(0, 9, 12, 13)]) = true)
    (e0 : decode (xB M) 0 = .ok (.aload_n 2, 1)) (e1 : decode (xB M) 1 = .ok (.iconst 0, 1)) (e2 : decode (xB M) 2 = .ok (.aload_n 0, 1)) (e3 : decode (xB M) 3 = .ok (.iload_n 1, 1)) (ec : decode (xB M) 4 = .ok (.invokevirtual k, 3)) (f0 : decode (xB M) 7 = .ok (.i2l, 1)) (f1 : decode (xB M) 8 = .ok (.lastore, 1)) (f2 : decode (xB M) 9 = .ok (.goto 6, 3)) (g0 : decode (xB M) 12 = .ok (.astore_n 3, 1)) (g1 : decode (xB M) 13 = .ok (.iconst 1, 1)) (g2 : decode (xB M) 14 = .ok (.ireturn, 1)) (z0 : decode (xB M) 15 = .ok (.iconst 0, 1)) (z1 : decode (xB M) 16 = .ok (.ireturn, 1))
    {b o n n' : Nat} {i0 : Int32} {σ : xSt} {Q : xQr} (hb0 : σ.1[b]? = some (11, n')) (ho0 : σ.1[o]? = some (16, n)) (hn0 : 0 < n) (hcall : xCall d T [.ref b, .int i0] σ (fun v σ' => (v = some .null ∧ Q (some (.int 1)) σ') ∨ ∃ x, v = some (.int x) ∧ Q (some (.int 0)) (σ'.1, σ'.2.1, xu2 σ'.2.2 o 0 x)))
    (D : va_G) (G : xG) (α : Nat → Nat) (sz : Nat) : vx_Met l (xY M) (.codeWith (xY M) (xB M) (xL M) (some .int) [(0, 9, 12, 13)] :: xT) (xRm (d + 1) M) (va_Pc ([.ref b, .int i0, .ref o].map (xcv α)) (xPreZ D G α σ sz)) (va_Qi (fun (r : Int32) (w : xSt × (Nat → Nat)) => Q (some (.int r)) w.1 ∧ xLk α σ.1 M w.2 w.1.1) (xPost D G (va_A (xW G α σ) sz)) (va_A (xW G α σ) sz)) (vx_X (fun _ : Unit => False) (fun _ _ _ => True) (va_A (xW G α σ) sz)) (xAl M).1 (xAl M).2 (va_A (xW G α σ) sz) := by
  obtain ⟨w1, w2, w3, w4, w5, w6, w7⟩ := xM_word (M := M) (by omega)
  obtain ⟨tf1, tf2, tf3, tf4⟩ := xThrows_facts hT
  obtain ⟨t1, t2, t3, t4, t5, t6, t7⟩ := xM_word (M := T) (by omega)
  refine vx_ofWH (cc := xB M) (maxL := xL M) (ret := some .int) (hh := [(0, 9, 12, 13)]) w1 rfl ?_
  intro p e s m args below meth c s₁ B hml hv
  have htab := vx_table (x := xY M) B (atoms_spec (ws := .codeWith (xY M) (xB M) (xL M) (some .int) [(0, 9, 12, 13)] :: xT) B.pre _ List.mem_cons_self)
  obtain ⟨rfl, ⟨rfl, hP, hK, hD0, hX⟩, hZ⟩ := hv
  have hA : ∀ q, s.heap.size ≤ q → va_A (xW G α σ) s.heap.size q := fun q h => Or.inr h
  have C := xctx_of (A := va_A (xW G α σ) s.heap.size) (by omega) B hml hK hA hX
  have C' := C
  obtain ⟨hx, hb, hml', hts, hown, hK', hA', hin, hlk, hR1, hR2, hR3, hR4, hXw⟩ := C'
  rw [hcM] at hown
  have hD := hD0.self (sz := s.heap.size)
  have hS : va_S (va_A (xW G α σ) s.heap.size) s.heap s.heap [] := va_S.rf
  rw [hlM]
  have hl := lv_entry [.ref (α b), .int i0, .ref (α o)] (n := 4) (Nat.le_of_ble_eq_true rfl)
  show W p l e (xRm (d + 1) M) s m _ below meth c s.heap [] 0 0 _ (entryFrame m ([.ref (α b), .int i0, .ref (α o)] : List Value).toArray 4)
  rw [lg_entry_eq]
  generalize (lg_sl [.ref (α b), .int i0, .ref (α o)] ++ List.replicate (4 - (lg_sl [.ref (α b), .int i0, .ref (α o)]).length) Slot.unset).toArray = ls at hl ⊢
  have hl : lv_has ls 4 [(0, .ref (α b)), (1, .int i0), (2, .ref (α o))] := hl
  refine lv_aload_n hx hb e0 rfl (lv_at hl 2 rfl) ?_
  refine lv_iconst (v := 0) hx hb e1 (by decide) ?_
  refine lv_aload_n hx hb e2 rfl (lv_at hl 0 rfl) ?_
  refine lv_iload_n hx hb e3 rfl (lv_at hl 1 rfl) ?_
  obtain ⟨zz, k1, k2, k3⟩ := xC_word hcr
  simp only [xCok, Bool.and_eq_true] at k3
  rw [k1, k2] at k3
  obtain ⟨⟨⟨y1, y2⟩, y3⟩, y4⟩ := k3
  have v4 : xC T ≠ 13 := by omega
  have hG : GoodIn xT (wsV (xR 13) k (xY T).cls (xY T) (xWs T)) := fun w hw => by
    unfold wsV at hw
    rcases List.mem_append.mp hw with hw | hw
    · simp only [List.mem_cons, List.not_mem_nil, or_false] at hw
      rcases hw with rfl | rfl | rfl | rfl
      · exact xT_good _ (xIs_in y1)
      · exact xT_good _ (xIs_in y2)
      · exact xT_good _ (xIs_in y3)
      · exact xT_good _ (xIs_in y4)
    · exact xWs_good (by omega) v4 w hw
  have hcw := cwV (R := xRm (d + 1) M) (rm := xRm d T) (xN T) hts hG rfl rfl rfl ⟨rfl, t2, t3, t4⟩ (xRm_ok hR3 hR4 t7)
  have hbw : (xW G α σ)[b]? = some (α b, .inr (11, xFs α (11, n') (σ.2.1.getD b []) (σ.2.2 b))) := xW_obj hb0 (by omega)
  have hF := xfree hD hS hA
  have hpv : PreV s s.heap (xY T).cls (α b) (va_Pc ([.ref b, .int i0].map (xcv α)) (xPreZ D G α σ s.heap.size)) [.int i0] := by
    refine ⟨xPreZ_blind, ?_, fun U hU hW => ⟨rfl, ⟨by rw [hU], by rw [hU]; exact hP, va_K.moved hW.alike hK, hD0, xXw_warm hW hX⟩, ?_⟩⟩
    · rw [← t5, tf4]
      exact va_recv hK hP (xCl_get 11 (by omega)) hbw
    · rw [hU]
      exact ⟨vx_Zq.moved hW.alike hZ.1, vx_Zq.moved hW.alike hZ.2⟩
  have hcT := xmetT hfl d T _ σ _ hcall hT (fun v hv => by simp only [List.mem_cons, List.not_mem_nil, or_false] at hv; rcases hv with rfl | rfl <;> rfl) D G α s.heap.size
  have hrun := vx_runV (e := e) (meth := meth) (below := below) (args := ([.ref (α b), .int i0, .ref (α o)] : List Value).toArray) (locs := []) (cells := 0) (slots := 0) (rest := [.int 0, .ref (α o)]) (As := [.int i0]) (g := F0 m 4 ls [.int i0, .ref (α b), .int 0, .ref (α o)]) ⟨hx, hb, hml, hown, hts⟩ hcT hcw hpv rfl (by rw [hnT]; rfl) (by show ls.size = _; rw [hl.1, hlM]) rfl (lv_room (by simp [Value.category])) ec ⟨by show 0 + (xAl T).1 ≤ (xAl M).1; rw [haT, haM]; decide, by show 0 + (xAl T).2 ≤ (xAl M).2; rw [haT, haM]; decide⟩
  have eT1 : (xAl T).1 = 1 := by rw [haT]
  have eT2 : (xAl T).2 = 6 := by rw [haT]
  have eM1 : (xAl M).1 = 1 := by rw [haM]
  have eM2 : (xAl M).2 = 6 := by rw [haM]
  refine vx_calli hrun hS (fun q _ h => hF q h) hF (fun q _ h => hF q h) (fun E ce q9 w t H1 locs1 ht hvm hw hB hz1 hk1 hS1 hc1 hc2 hc3 => ?_) (fun r w t H1 locs1 ht hvm hw hB hz1 hk1 hS1 => ?_)
  · obtain ⟨rfl, hB1, hB2⟩ := hB
    obtain ⟨w1', α'⟩ := w
    obtain ⟨hq, hlk1⟩ := hw
    obtain ⟨ea, el⟩ := hlk1.2.2 hgT
    dsimp only at ea el hq hB1 hB2
    subst ea
    rw [ht] at hB1
    have hq1 : Q (some (.int 1)) w1' := by
      rcases hq with ⟨-, hq⟩ | ⟨x, hq, -⟩
      · exact hq
      · cases hq
    refine vx_catch (own := xR 13) (name := xNS) hown [] ⟨0, 9, 12, 13⟩ [] (by rw [htab]; rfl) (fun z hz => by cases hz) (by decide) (by decide) (hts _ (xIs_in xthr_words.2.2)) (xdw_any (by simp [xDW]) (hX.2.2.2 (.castable xNS xNS) (by simp [xDW]))) hc1 hc2 hc3 ?_
    refine lv_astore_n (nL := 4) hx hb g0 rfl hl (by decide) rfl (fun ls' hl' => ?_)
    refine lv_iconst (v := 1) hx hb g1 (by decide) ?_
    refine W.widen (k := (xAl M).1) (n := (xAl M).2) (by omega) (by omega) (vx_ret ?_)
    exact W.zret (hlocks := hlk) B.exec B.bytes B.returns rfl (fun t' ht' hW => ⟨⟨1, (w1', α'), rfl, ⟨hq1, ⟨fun _ _ => rfl, by rw [el]; exact Nat.le_refl _, fun _ => ⟨rfl, el⟩⟩⟩, by show va_P D vwCl (xW G α' w1') t'.heap; rw [ht']; exact hB1, hB2⟩, by have := hS1.F ht'; exact this⟩) (fun q h => hS1.2.2 q h) g2
  · obtain ⟨hB1, hB2⟩ := hB
    obtain ⟨w1', α'⟩ := w
    obtain ⟨hq, hlk1⟩ := hw
    obtain ⟨ea, el⟩ := hlk1.2.2 hgT
    dsimp only at ea el hq hB1 hB2
    subst ea
    rw [ht] at hB1
    have hq1 : Q (some (.int 0)) (w1'.1, w1'.2.1, xu2 w1'.2.2 o 0 r) := by
      rcases hq with ⟨hq, -⟩ | ⟨x, hq, hq2⟩
      · cases hq
      · cases hq
        exact hq2
    have ho1 : w1'.1[o]? = some (16, n) := by rw [el]; exact ho0
    refine lv_i2l hx hb f0 rfl ?_
    refine va_last hx hb hK hB1 hB2 hS1 o 3 (xW_long ho1) rfl (by show ¬ ((0 : Int32) < 0 ∨ n ≤ (0 : Int32).toNatClampNeg); intro hh; rcases hh with hh | hh; exact absurd hh (by decide); exact absurd hh (by have e0 : (0 : Int32).toNatClampNeg = 0 := rfl; omega)) f1 (fun H2 locs2 p1 p2 p3 => ?_)
    have es := xset_l (G := G) (σ := w1') (α := α') (i := 0) (x := r) ho1
    have p1 := (es ▸ p1 : va_P D vwCl (xW G α' (w1'.1, w1'.2.1, xu2 w1'.2.2 o 0 r)) H2)
    have p2 := (es ▸ p2 : va_D _ (xW G α' (w1'.1, w1'.2.1, xu2 w1'.2.2 o 0 r)))
    refine lv_goto (tgt := 15) hx hb f2 (by decide) ?_
    refine lv_iconst (v := 0) hx hb z0 (by decide) ?_
    refine W.widen (k := (xAl M).1) (n := (xAl M).2) (by omega) (by omega) (vx_ret ?_)
    exact W.zret (hlocks := hlk) B.exec B.bytes B.returns rfl (fun t' ht' hW => ⟨⟨0, ((w1'.1, w1'.2.1, xu2 w1'.2.2 o 0 r), α'), rfl, ⟨hq1, ⟨fun _ _ => rfl, by show _ ≤ w1'.1.length; rw [el]; exact Nat.le_refl _, fun _ => ⟨rfl, el⟩⟩⟩, by show va_P D vwCl (xW G α' (w1'.1, w1'.2.1, xu2 w1'.2.2 o 0 r)) t'.heap; rw [ht']; exact p1, p2⟩, by have := p3.F ht'; exact this⟩) (fun q h => p3.2.2 q h) z1
