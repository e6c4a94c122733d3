/-! the law: calls one behind another -/
theorem lw_loop {n : Nat} {xs : Nat → Int32} {P : xPr} (hP : Cl 300 (some (n, xs)) 242 P (fun v _ => v = some (.int 1))) (hn : n ≤ 2560) : ∀ f j r mem u v5 v6, 513 ≤ f + j → RR (20000 * j) mem → u.1 ≤ 1000 + j → u.2 ≤ 200000 + 6 * j → P 23 [.ref 100000, .ref 0, .ref 108, .ref 144, .int (nI (5 * j)), v5, v6] [] u (LAY, RFu r, mem) := by
  have step : ∀ j r mem u v5 v6, (5 * j + 5 ≤ n → ∀ r' mem' v5 v6 u', RR (20000 * j + 20000) mem' → u'.1 ≤ u.1 + 1 → u'.2 ≤ u.2 + 6 → P 1595 [.ref 100000, .ref 0, .ref 108, .ref 144, .int (nI (5 * j)), v5, v6] [] u' (LAY, RFu r', mem')) → RR (20000 * j) mem → u.1 ≤ 1000 + j → u.2 ≤ 200000 + 6 * j → P 23 [.ref 100000, .ref 0, .ref 108, .ref 144, .int (nI (5 * j)), v5, v6] [] u (LAY, RFu r, mem) := by
    intro j r mem u v5 v6 k hRR hu1 hu2
    obtain ⟨hBB, N, R, h⟩ := hRR
    refine r_iload hP d242_23 rfl ?_
    refine r_aload_n hP d242_25 rfl ?_
    refine r_slen hP d242_26 ?_
    refine r_iconst (v := nI 5) hP d242_27 rfl ?_
    refine r_isub hP d242_28 ?_
    refine r_icmp (t := 1601) hP d242_29 (by decide) (fun _ => ?_) (fun hz => ?_)
    · refine r_iconst (v := nI 1) hP d242_1601 rfl ?_
      exact r_zret hP d242_1602 rfl (Or.inr (by decide)) (by rw [n1])
    · have hz : ¬ (nI n - nI 5 < nI (5 * j)) := hz
      have hi : 5 * j + 5 ≤ n := Decidable.by_contra fun q => hz (by
        have t1 : (nI n).toInt = n := nI_toInt (by omega)
        have t2 : (nI 5).toInt = 5 := nI_toInt (by decide)
        rw [Int32.lt_iff_toInt_lt, toInt_sub' (by rw [t1, t2]; omega) (by rw [t1, t2]; omega), t1, t2, nI_toInt (by omega)]
        omega)
      refine r_aload_n hP d242_32 rfl ?_
      refine r_iload hP d242_33 rfl ?_
      refine r_sld hP d242_35 (vpn (a := 5 * j) (by omega) (by omega)) ?_
      refine r_bipush (v := nI 63) hP d242_36 rfl ?_
      refine r_iand hP d242_38 ?_
      generalize xs (nI (5 * j)).toNatClampNeg &&& nI 63 = x
      have hB2 : 20000 * j + 20000 < 60000000 := by omega
      have hu : u.1 + 1 ≤ 601024 ∧ u.2 + 6 ≤ 7293033 := by omega
      have kk := k hi
      refine r_table (t := 1595) hP d242_39 (by decide) (by decide) (fun _ => ?_) (fun h1 h2 off ho => ?_)
      · exact kk _ _ _ _ u ⟨by omega, N, R, h.mono (Nat.le_add_right _ _)⟩ (Nat.le_succ _) (Nat.le_add_right _ _)
      · have hc : x.toInt = 0 ∨ x.toInt = 1 ∨ x.toInt = 2 ∨ x.toInt = 3 ∨ x.toInt = 4 ∨ x.toInt = 5 ∨ x.toInt = 6 ∨ x.toInt = 7 ∨ x.toInt = 8 ∨ x.toInt = 9 ∨ x.toInt = 10 ∨ x.toInt = 11 ∨ x.toInt = 12 ∨ x.toInt = 13 ∨ x.toInt = 14 ∨ x.toInt = 15 ∨ x.toInt = 16 ∨ x.toInt = 17 ∨ x.toInt = 18 ∨ x.toInt = 19 ∨ x.toInt = 20 ∨ x.toInt = 21 ∨ x.toInt = 22 ∨ x.toInt = 23 ∨ x.toInt = 24 ∨ x.toInt = 25 ∨ x.toInt = 26 ∨ x.toInt = 27 ∨ x.toInt = 28 ∨ x.toInt = 29 ∨ x.toInt = 30 ∨ x.toInt = 31 ∨ x.toInt = 32 ∨ x.toInt = 33 ∨ x.toInt = 34 ∨ x.toInt = 35 ∨ x.toInt = 36 ∨ x.toInt = 37 ∨ x.toInt = 38 ∨ x.toInt = 39 ∨ x.toInt = 40 ∨ x.toInt = 41 ∨ x.toInt = 42 := by omega
        rcases hc with hc | hc | hc | hc | hc | hc | hc | hc | hc | hc | hc | hc | hc | hc | hc | hc | hc | hc | hc | hc | hc | hc | hc | hc | hc | hc | hc | hc | hc | hc | hc | hc | hc | hc | hc | hc | hc | hc | hc | hc | hc | hc | hc
        · rw [hc] at ho; cases ho; exact ⟨224, by decide, lw_0 hP hi hn h hB2 hu kk⟩
        · rw [hc] at ho; cases ho; exact ⟨249, by decide, lw_1 hP hi hn h hB2 hu kk⟩
        · rw [hc] at ho; cases ho; exact ⟨274, by decide, lw_2 hP hi hn h hB2 hu kk⟩
        · rw [hc] at ho; cases ho; exact ⟨287, by decide, lw_3 hP hi hn h hB2 hu kk⟩
        · rw [hc] at ho; cases ho; exact ⟨312, by decide, lw_4 hP hi hn h hB2 hu kk⟩
        · rw [hc] at ho; cases ho; exact ⟨337, by decide, lw_5 hP hi hn h hB2 hu kk⟩
        · rw [hc] at ho; cases ho; exact ⟨405, by decide, lw_6 hP hi hn h hB2 hu kk⟩
        · rw [hc] at ho; cases ho; exact ⟨442, by decide, lw_7 hP hi hn h hB2 hu kk⟩
        · rw [hc] at ho; cases ho; exact ⟨495, by decide, lw_8 hP hi hn h hB2 hu kk⟩
        · rw [hc] at ho; cases ho; exact ⟨556, by decide, lw_9 hP hi hn h hB2 hu kk⟩
        · rw [hc] at ho; cases ho; exact ⟨581, by decide, lw_10 hP hi hn h hB2 hu kk⟩
        · rw [hc] at ho; cases ho; exact ⟨594, by decide, lw_11 hP hi hn h hB2 hu kk⟩
        · rw [hc] at ho; cases ho; exact ⟨619, by decide, lw_12 hP hi hn h hB2 hu kk⟩
        · rw [hc] at ho; cases ho; exact ⟨644, by decide, lw_13 hP hi hn h hB2 hu kk⟩
        · rw [hc] at ho; cases ho; exact ⟨669, by decide, lw_14 hP hi hn h hB2 hu kk⟩
        · rw [hc] at ho; cases ho; exact ⟨682, by decide, lw_15 hP hi hn h hB2 hu kk⟩
        · rw [hc] at ho; cases ho; exact ⟨750, by decide, lw_16 hP hi hn h hB2 hu kk⟩
        · rw [hc] at ho; cases ho; exact ⟨787, by decide, lw_17 hP hi hn h hB2 hu kk⟩
        · rw [hc] at ho; cases ho; exact ⟨824, by decide, lw_18 hP hi hn h hB2 hu kk⟩
        · rw [hc] at ho; cases ho; exact ⟨837, by decide, lw_19 hP hi hn h hB2 hu kk⟩
        · rw [hc] at ho; cases ho; exact ⟨886, by decide, lw_20 hP hi hn h hB2 hu kk⟩
        · rw [hc] at ho; cases ho; exact ⟨899, by decide, lw_21 hP hi hn h hB2 hu kk⟩
        · rw [hc] at ho; cases ho; exact ⟨912, by decide, lw_22 hP hi hn h hB2 hu kk⟩
        · rw [hc] at ho; cases ho; exact ⟨949, by decide, lw_23 hP hi hn h hB2 hu kk⟩
        · rw [hc] at ho; cases ho; exact ⟨998, by decide, lw_24 hP hi hn h hB2 hu kk⟩
        · rw [hc] at ho; cases ho; exact ⟨1035, by decide, lw_25 hP hi hn h hB2 hu kk⟩
        · rw [hc] at ho; cases ho; exact ⟨1084, by decide, lw_26 hP hi hn h hB2 hu kk⟩
        · rw [hc] at ho; cases ho; exact ⟨1121, by decide, lw_27 hP hi hn h hB2 hu kk⟩
        · rw [hc] at ho; cases ho; exact ⟨1146, by decide, lw_28 hP hi hn h hB2 hu kk⟩
        · rw [hc] at ho; cases ho; exact ⟨1183, by decide, lw_29 hP hi hn h hB2 hu kk⟩
        · rw [hc] at ho; cases ho; exact ⟨1208, by decide, lw_30 hP hi hn h hB2 hu kk⟩
        · rw [hc] at ho; cases ho; exact ⟨1233, by decide, lw_31 hP hi hn h hB2 hu kk⟩
        · rw [hc] at ho; cases ho; exact ⟨1258, by decide, lw_32 hP hi hn h hB2 hu kk⟩
        · rw [hc] at ho; cases ho; exact ⟨1283, by decide, lw_33 hP hi hn h hB2 hu kk⟩
        · rw [hc] at ho; cases ho; exact ⟨1320, by decide, lw_34 hP hi hn h hB2 hu kk⟩
        · rw [hc] at ho; cases ho; exact ⟨1333, by decide, lw_35 hP hi hn h hB2 hu kk⟩
        · rw [hc] at ho; cases ho; exact ⟨1358, by decide, lw_36 hP hi hn h hB2 hu kk⟩
        · rw [hc] at ho; cases ho; exact ⟨1383, by decide, lw_37 hP hi hn h hB2 hu kk⟩
        · rw [hc] at ho; cases ho; exact ⟨1451, by decide, lw_38 hP hi hn h hB2 hu kk⟩
        · rw [hc] at ho; cases ho; exact ⟨1464, by decide, lw_39 hP hi hn h hB2 hu kk⟩
        · rw [hc] at ho; cases ho; exact ⟨1489, by decide, lw_40 hP hi hn h hB2 hu kk⟩
        · rw [hc] at ho; cases ho; exact ⟨1514, by decide, lw_41 hP hi hn h hB2 hu kk⟩
        · rw [hc] at ho; cases ho; exact ⟨1539, by decide, lw_42 hP hi hn h hB2 hu kk⟩
  intro f
  induction f with
  | zero =>
    intro j r mem u v5 v6 hj hRR hu1 hu2
    exact step j r mem u v5 v6 (fun hi => absurd hi (by omega)) hRR hu1 hu2
  | succ f ih =>
    intro j r mem u v5 v6 hj hRR hu1 hu2
    refine step j r mem u v5 v6 (fun hi r' mem' v5 v6 u' hR' g1 g2 => ?_) hRR hu1 hu2
    refine r_iinc (v := nI 5) (L' := [.ref 100000, .ref 0, .ref 108, .ref 144, .int (nI (5 * j) + nI 5), v5, v6]) hP d242_1595 rfl rfl rfl ?_
    refine r_goto (t := 23) hP d242_1598 (by decide) ?_
    rw [nI_add, show 5 * j + 5 = 5 * (j + 1) by omega]
    exact ih (j + 1) r' mem' u' v5 v6 (by omega) (by rw [show 20000 * (j + 1) = 20000 * j + 20000 by omega]; exact hR') (by omega) (by omega)

theorem al_z {n : Nat} {al : List (Nat × Nat × Int32)} (h : lkF n al = al) : xz (lk al) n = lk al := by rw [← lk_f, h]
theorem lay_108 : (LAY.take 108).length = 108 := by decide +kernel
theorem lay_144 : (LAY.take 144).length = 144 := by decide +kernel
set_option maxRecDepth 100000 in
theorem lay_end : LAY.take 144 ++ [(16, 1)] = LAY ∧ (RFu 0).take 144 ++ [[]] = RFu 0 ∧ lkF 144 alM = alM ∧ lkF 108 al97 = al97 := by decide +kernel
theorem nr_x : ∃ w, xNR (xC 242) 8 = some (11, w) := ⟨_, rfl⟩
theorem nr_m : ∃ w, xNR (xC 242) 26 = some (12, w) := ⟨_, rfl⟩
set_option maxRecDepth 100000 in
theorem lw_ok1 : okB [] [] [.ref 100000, .null, .null, .null, .null, .null, .null] [] = true ∧ callB 242 97 [.ref 100000, .null, .null, .null, .null, .null, .null] [.ref 0] (1, 17) ([(11, 17)], [List.replicate 17 0], []) = true ∧ okB (LAY.take 108) ((RFu 0).take 108) [.ref 100000, .ref 0, .null, .null, .null, .null, .null] [] = true ∧
    callB 242 156 [.ref 100000, .ref 0, .null, .null, .null, .null, .null] [.ref 108] (602, 40068) (LAY.take 108 ++ [(12, 51)], (RFu 0).take 108 ++ [List.replicate 51 0], al97) = true ∧ okB (LAY.take 144) ((RFu 0).take 144) [.ref 100000, .ref 0, .ref 108, .null, .null, .null, .null] [] = true := by decide +kernel
theorem xlaw_all {L : Nat} (hL : L ≤ 2560) (xs : Nat → Int32) : xLaw L xs := by
  intro P hP0
  have hP : Cl 300 (some (L, xs)) 242 P (fun v _ => v = some (.int 1)) := hP0
  obtain ⟨wx, nx⟩ := nr_x
  obtain ⟨wm, nm⟩ := nr_m
  obtain ⟨o1, o2, o3, o4, o5⟩ := lw_ok1
  obtain ⟨f1, f2, f3, f4⟩ := lay_end
  show P 0 [.ref 100000, .null, .null, .null, .null, .null, .null] [] (0, 0) ([], [], lk [])
  refine hP.i d242_0 ⟨rfl, Or.inl ⟨11, wx, nx, rfl, by decide, by decide, okB_ok o1, ?_⟩⟩
  rw [show xz (([], [], lk []) : xSt).2.2 (([], [], lk []) : xSt).1.length = lk [] from al_z rfl]
  show P 3 [.ref 100000, .null, .null, .null, .null, .null, .null] [.ref 0] (1, 17) ([(11, 17)], [List.replicate 17 0], lk [])
  refine r_dup hP d242_3 rfl ?_
  refine hP.i d242_4 ⟨rfl, Or.inr ⟨97, 2, [], 0, [.ref 0], by decide +kernel, Or.inl rfl, rfl, by simp, rfl, callB_ok o2, ev_ok 300 97 [.ref 0] _ _ ev_97 _ ⟨(fun q => by cases q), ?_⟩⟩⟩
  show P 7 [.ref 100000, .null, .null, .null, .null, .null, .null] [.ref 0] (601, 40017) (LAY.take 108, (RFu 0).take 108, lk al97)
  refine r_astore_n (L' := [.ref 100000, .ref 0, .null, .null, .null, .null, .null]) hP d242_7 (Nat.le_of_ble_eq_true rfl) rfl ?_
  refine hP.i d242_8 ⟨rfl, Or.inl ⟨12, wm, nm, rfl, by decide, by decide, okB_ok o3, ?_⟩⟩
  show P 11 [.ref 100000, .ref 0, .null, .null, .null, .null, .null] [.ref (LAY.take 108).length] (602, 40068) (LAY.take 108 ++ [(12, 51)], (RFu 0).take 108 ++ [List.replicate 51 0], xz (lk al97) (LAY.take 108).length)
  rw [lay_108, al_z f4]
  refine r_dup hP d242_11 rfl ?_
  refine hP.i d242_12 ⟨rfl, Or.inr ⟨156, 2, [], 108, [.ref 108], by decide +kernel, Or.inl rfl, rfl, by simp, rfl, callB_ok o4, ev_ok 300 156 [.ref 108] _ _ ev_156 _ ⟨(fun q => by cases q), ?_⟩⟩⟩
  show P 15 [.ref 100000, .ref 0, .null, .null, .null, .null, .null] [.ref 108] (702, 130068) (LAY.take 144, (RFu 0).take 144, lk alM)
  refine r_astore_n (L' := [.ref 100000, .ref 0, .ref 108, .null, .null, .null, .null]) hP d242_15 (Nat.le_of_ble_eq_true rfl) rfl ?_
  refine r_iconst (v := nI 1) hP d242_16 rfl ?_
  refine hP.i d242_17 ⟨rfl, nI 1, [], 1, rfl, by decide, by decide, by decide, by decide, rfl, by decide, by decide, okB_ok o5, ?_⟩
  show P 19 [.ref 100000, .ref 0, .ref 108, .null, .null, .null, .null] [.ref (LAY.take 144).length] (703, 130069) (LAY.take 144 ++ [(16, 1)], (RFu 0).take 144 ++ [[]], xz (lk alM) (LAY.take 144).length)
  rw [lay_144, al_z f3, f1, f2]
  refine r_astore_n (L' := [.ref 100000, .ref 0, .ref 108, .ref 144, .null, .null, .null]) hP d242_19 (Nat.le_of_ble_eq_true rfl) rfl ?_
  refine r_iconst (v := nI 0) hP d242_20 rfl ?_
  refine r_istore (L' := [.ref 100000, .ref 0, .ref 108, .ref 144, .int (nI 0), .null, .null]) hP d242_21 (Nat.le_of_ble_eq_true rfl) rfl ?_
  exact lw_loop hP hL 513 0 0 mem0 (703, 130069) .null .null (by decide) ⟨by decide, 0, 0, RRc_0⟩ (by decide) (by decide)
theorem whole_start {p : Program} {e : Env} {s : State} {m : MethodId} {below : List Frame} {meth : Method} {c : Code} (l : Launch) (hflags : l.flags = flags0) {b L : Nat} {xs : Nat → Int32} (hL : L ≤ 2560) (C0 : lw_At p s m meth c b L xs) : W p l e room_1 s m #[Value.ref b] below meth c s.heap [] 0 0 (lw_Z below #[Value.ref b] s) (entryFrame m ([Value.ref b] : List Value).toArray 7) := xwhole l hflags C0 (xlaw_all hL xs)
-- ===== YOUR PART ENDS =====
set_option maxHeartbeats 4000000 in
theorem lw_walk (l : Launch) (hflags : l.flags = flags0) (b : Addr) (xs : List Int32) : MetFree l x (headSpec (Jvm.Cond.code x code maxLocals ret :: tables_1) room_1) (lw_P b xs) (fun _ _ _ _ _ => True) lw_Q := by
  refine MetFree.of_bodyS (code := code) (maxLocals := maxLocals) (ret := ret) (by decide) ?_ ?_
  · intro args s m h hn
    obtain ⟨meth, c, h1, h2, h3, h4, h5, h6, -, -⟩ := Cond.code_spec hn (atoms_spec (ws := Jvm.Cond.code x code maxLocals ret :: tables_1) h _ List.mem_cons_self)
    exact ⟨meth, c, h1, h2, h3, h4, h5, h6⟩
  · intro p e s m args below meth c s₁ B hml0 hP _
    obtain ⟨rfl, hx, hbd, hgv⟩ := hP
    obtain ⟨scr, harrAt, hlist, hof, hsmall⟩ := hx
    obtain ⟨hcb, hkn, -, -⟩ := State.arrayAt?_spec harrAt
    have hown : s.vm.findClass R_law = some m.cls := findClass_of_methodNamed B.named
    have hts0 : ∀ c ∈ (Jvm.Cond.code x code maxLocals ret :: tables_1), c.before #[Value.ref b] s = true := atoms_spec (ws := Jvm.Cond.code x code maxLocals ret :: tables_1) B.pre
    have hts : ∀ w ∈ lw_tbl, w.before #[Value.ref b] s = true := k2_hts_sels lw_privs (fun w hw => hts0 w (List.mem_cons_of_mem _ hw)) lw_privs_ok
    have hml : c.maxLocals = 7 := B.maxLocals_eq (hts0 _ List.mem_cons_self)
    have X₀ : Stand p l e room_1 s m #[Value.ref b] below meth c s₁ [] 0 0 := Stand.of_body B
    have hh0 : s₁.heap = s.heap := by rw [B.state]; rfl
    have hsz : scr.slots.size = xs.length := by rw [← Array.length_toList, hlist, List.length_map]
    have hval : ∀ j : Nat, j < xs.length → scr.slots[j]? = some (.int (xs.getD j 0)) := fun j hj => by
      rw [← Array.getElem?_toList, hlist]
      simp [hj]
    have hbl : b < s.heap.size := (Array.getElem?_eq_some_iff.mp hcb).1
    have hX : va_X b xs.length (fun j => xs.getD j 0) s s.heap := ⟨scr, hcb, hof, hkn, hsz, hval⟩
    have K : W p l e room_1 s m #[Value.ref b] below meth c s₁.heap [] 0 0 (lw_Z below #[Value.ref b] s) (entryFrame m ([Value.ref b] : List Value).toArray 7) := by
      rw [hh0]
      exact whole_start l hflags hbd ⟨B.exec, B.bytes, B.returns, hml, hown, hts, hX, hbl, B.notSynchronized, hgv⟩
    obtain ⟨t, a1, o, b1, b2, b3⟩ := K s₁ rfl X₀
    exact ⟨t, o, a1, b1, b2, b3⟩
theorem lw_pre_spec {args : Array Value} {s : State} (h : (Jvm.Cond.and given_1 narrow_1).before args s = true) (hr : rest_1_c.before args s = true) : ∃ (b : Addr) (xs : List Int32), lw_P b xs args s := by
  have hs := flat_of_before _ h
  have hq := flat_of_before _ hr
  have hc : (Cond.count 1).before args s = true := hs _ (by decide +kernel)
  have harr : (Cond.arrayOf (.arg 0) .int).before args s = true := hs _ (by decide +kernel)
  have hle : (Cond.le (.length (.arg 0)) (.int 2560)).before args s = true := hs _ (by decide +kernel)
  have hlen : (Cond.isInt (.length (.arg 0))).before args s = true := hq _ (by decide +kernel)
  have hall : (Cond.all (.arg 0) (.isInt (.elem (.arg 0) (.index 0)))).before args s = true := hq _ (by decide +kernel)
  obtain ⟨b, xs, hb, hx⟩ := State.ints_of_pre rfl harr hlen hall
  have hsm : xs.length < 2 ^ 31 := hx.choose_spec.2.2.2
  have hev : (Term.length (.arg 0)).eval args s none [] s = some (.int xs.length.toInt32) := hx.length_eval hb
  have hv := Cond.le_ints hev (show (Term.int 2560).eval args s none [] s = some (.int 2560) from rfl)
  have hd : xs.length.toInt32 ≤ 2560 := by
    simpa [Cond.before, Cond.holds, hv] using hle
  have hN : xs.length ≤ 2560 := (Int32.ofNat_le_ofNat hsm (by decide)).mp (show Int32.ofNat xs.length ≤ Int32.ofNat 2560 from hd)
  exact ⟨b, xs, Cond.one_arg hc (show args[0]? = some (.ref b) from hb), hx, hN, h⟩
theorem lw_comes (l : Launch) (hflags : l.flags = flags0) : Comes l x (Jvm.Cond.code x code maxLocals ret :: tables_1) room_1 (fun tb e args s => Calls_1 tb e args s ∧ rest_1 tb e args s ∧ Pre_1 tb e args s)
    (fun _ _ args s o t => lw_Q args s o t) := by
  intro p e ha hc hk s m args below hf hfit hheap happ hpre
  obtain ⟨b, xs, hP⟩ := lw_pre_spec hpre.2.2 hpre.2.1
  obtain ⟨k, o, h1, h2, h3, hQ⟩ := lw_walk l hflags b xs p e ha hc hk s m args below hf ((Spec.applies_iff_loose hf).mp happ).1 hP trivial
  exact ⟨k, o, h1, h2, h3, hQ⟩
theorem lw_frame {s t : State} {o : Outcome} {args : Array Value} (h : Framed s o t [] 601024 7293033) :
    Framed s o t (fieldLocs frame_1_writes args s ++ arrayLocs frame_1_arrays args s ++ staticLocs frame_1_statics s) 601024 7293033 := h
theorem lw_limb (L : Cond) (hL : ∀ (args : Array Value) (s t : State), L.after args s (.returned (some (.int 1))) t = true) :
    ArmFor flags0 classFile x code maxLocals ret World_1 tables_1 room_1 Calls_1 rest_1 Pre_1
      (fun tb e a s o t => postC L tb e a s o t ∧ Framed s o t (fieldLocs frame_1_writes a s ++ arrayLocs frame_1_arrays a s ++ staticLocs frame_1_statics s) 601024 7293033) := by
  intro l hflags _ _ p e ha hc hk s m args below hf hfit hheap happ hpre
  obtain ⟨k, o, h1, h2, h3, rfl, hF⟩ := lw_comes l hflags p e ha hc hk s m args below hf hfit hheap happ hpre
  exact ⟨k, _, h1, h2, h3, hL args s _, lw_frame hF⟩
theorem i_vc : Claimed_1_1 ∧ Claimed_1_2 := ⟨lw_limb limb_1_1 (fun args s t => by simp [limb_1_1, Cond.after, Cond.holds, Cond.value]), lw_limb limb_1_2 (fun args s t => Cond.after_iff.mpr (by
  first | (rw [show limb_1_2 = Cond.eq .result (.int 1) from rfl, Cond.eq_ints (x := 1) (y := 1) rfl rfl]; simp; done) | (simp [limb_1_2, Cond.value, Term.eval]; done)))⟩
