/-! the machine follows the abstract one: the script's ints, what makes cells -/
theorem xW_new {G : xG} {α α' : Nat → Nat} {lay new : List (Nat × Nat)} {rf rn : List (List Nat)} {mem : Nat → Nat → Int32} (hl : rf.length = lay.length) (hr : ∀ row ∈ rf, ∀ r ∈ row, r ≤ lay.length) (ha : ∀ k, k < lay.length ∨ k = 100000 → α' k = α k) :
    xW G α' (lay ++ new, rf ++ rn, xz mem lay.length) = xW G α (lay, rf, mem) ++ (List.range new.length).map (fun i => (α' (lay.length + i), xE G α' (new.getD i (0, 0)) (rn.getD i []) (fun _ => 0))) := by
  rw [xW_app hl]
  congr 1
  · rw [← xW_ext ha hr]
    unfold xW
    apply List.map_congr_left
    intro k hk
    have hk := List.mem_range.mp hk
    have e : xz mem lay.length k = mem k := by funext j; simp [xz, hk]
    show (α' k, xE G α' _ _ (xz mem lay.length k)) = _
    rw [e]
  · apply List.map_congr_left
    intro i _
    have e : xz mem lay.length (lay.length + i) = fun _ => 0 := by funext j; exact if_neg (by omega)
    rw [e]
section XS
variable {p : Program} {l : Launch} {e : Env} {R : Room} {s : State} {m : MethodId} {args : Array Value} {below : List Frame} {meth : Method} {c : Code} {D : va_G} {G : xG} {A : Nat → Prop} {M d : Nat} {α0 : Nat → Nat} {lay0 : List (Nat × Nat)} {QW : State → Prop}
variable {CW : Nat → List Value → xSt → xQr → Prop} {scr : Option (Nat × (Nat → Int32))} {Q : xQr} {pc : Nat} {L S : List Value} {u : Nat × Nat} {σ : xSt} {len : Nat}
theorem xs_iaload (hscr : ∀ n xs, scr = some (n, xs) → va_X (α0 100000) n xs s s.heap ∧ α0 100000 < s.heap.size ∧ ¬ A (α0 100000)) (C : xCtx p R s m args meth c D G A M d) (hd : decode (xB M) pc = .ok (.iaload, len)) (h : xI CW scr M (xAW p l e R s m args below meth c D G A M α0 lay0 QW) Q pc L S u σ len .iaload) : xAW p l e R s m args below meth c D G A M α0 lay0 QW pc L S u σ := by
  obtain ⟨hx, hb, hml, hts, hown, hK, hA, hin, hlk, hR1, hR2, hR3, hR4, hXw⟩ := C
  obtain ⟨rfl, i, a, r, n, rfl, hi, k⟩ := h
  intro α H locs ls hP hD hS hl hn h1 h2 hk
  rcases k with ⟨ha, k⟩ | ⟨rfl, xs, hs, k⟩
  · exact va_iald hx hb hK hP a 0 (xW_int ha (by omega) (by omega)) rfl hi hd (k α H locs ls hP hD hS hl hn h1 h2 hk)
  · obtain ⟨g1, g2, g3⟩ := hscr _ _ hs
    rw [← hk.1 100000 (Or.inr rfl)] at g1 g2 g3
    exact va_sld hx hb g1 g2 g3 hS hi hd (k α H locs ls hP hD hS hl hn h1 h2 hk)
theorem xs_arraylength (hscr : ∀ n xs, scr = some (n, xs) → va_X (α0 100000) n xs s s.heap ∧ α0 100000 < s.heap.size ∧ ¬ A (α0 100000)) (C : xCtx p R s m args meth c D G A M d) (hd : decode (xB M) pc = .ok (.arraylength, len)) (h : xI CW scr M (xAW p l e R s m args below meth c D G A M α0 lay0 QW) Q pc L S u σ len .arraylength) : xAW p l e R s m args below meth c D G A M α0 lay0 QW pc L S u σ := by
  obtain ⟨hx, hb, hml, hts, hown, hK, hA, hin, hlk, hR1, hR2, hR3, hR4, hXw⟩ := C
  obtain ⟨rfl, a, r, n, rfl, ha, k⟩ := h
  intro α H locs ls hP hD hS hl hn h1 h2 hk
  rcases ha with ⟨kk, e1, e2, ha⟩ | ⟨rfl, xs, hs⟩
  · have hkk : kk = 13 ∨ kk = 14 ∨ kk = 15 ∨ kk = 16 ∨ kk = 17 ∨ kk = 18 := by omega
    rcases hkk with rfl | rfl | rfl | rfl | rfl | rfl
    · exact va_alen hx hb hK hP a 0 (xW_int ha (by omega) (by omega)) rfl rfl hd (k α H locs ls hP hD hS hl hn h1 h2 hk)
    · exact va_alen hx hb hK hP a 1 (xW_int ha (by omega) (by omega)) rfl rfl hd (k α H locs ls hP hD hS hl hn h1 h2 hk)
    · exact va_alen hx hb hK hP a 2 (xW_int ha (by omega) (by omega)) rfl rfl hd (k α H locs ls hP hD hS hl hn h1 h2 hk)
    · exact va_alen hx hb hK hP a 3 (xW_long ha) rfl rfl hd (k α H locs ls hP hD hS hl hn h1 h2 hk)
    · exact va_alen hx hb hK hP a 4 (xW_ref ha (by omega)) rfl rfl hd (k α H locs ls hP hD hS hl hn h1 h2 hk)
    · exact va_alen hx hb hK hP a 5 (xW_ref ha (by omega)) rfl rfl hd (k α H locs ls hP hD hS hl hn h1 h2 hk)
  · obtain ⟨g1, g2, g3⟩ := hscr _ _ hs
    rw [← hk.1 100000 (Or.inr rfl)] at g1 g2 g3
    exact va_slen hx hb g1 g2 g3 hS hd (k α H locs ls hP hD hS hl hn h1 h2 hk)
theorem xArr_word (hts : ∀ w ∈ xT, w.before args s = true) {t : ArrayType} (ht : xAt t < 99) : (Cond.arrayClass (newarray.typeOf t)).before args s = true := by
  obtain ⟨h1, h2, h3, h4⟩ := xArr_ok
  cases t <;> first | exact hts _ h1 | exact hts _ h2 | exact hts _ h3 | exact hts _ h4 | exact absurd ht (by decide)
theorem xTy_at {t : ArrayType} (ht : xAt t < 99) : (xTys G)[xAt t - 13]? = some (xAc G (xAt t), newarray.typeOf t) := by
  cases t <;> first | rfl | exact absurd ht (by decide)
theorem xRA_eq (hK : va_K D vwCl (xTys G) s) {cA : ClassId} {ty : FieldType} {i : Nat} {c0 : ClassId} (hobj : ∀ n, ty ≠ .object n) (h0 : (xTys G)[i]? = some (c0, ty)) (h : va_K D vwCl (xTys G ++ [(cA, ty)]) s) : cA = c0 := by
  have h1 := (hK.2 i _ h0).2
  have h2 := (h.2 6 (cA, ty) rfl).2
  unfold va_RA at h1 h2
  cases ty with
  | object n => exact absurd rfl (hobj n)
  | _ => exact Option.some.inj (h2.symm.trans h1)
theorem xs_newarray {t : ArrayType} (C : xCtx p R s m args meth c D G A M d) (hd : decode (xB M) pc = .ok (.newarray t, len)) (h : xI CW scr M (xAW p l e R s m args below meth c D G A M α0 lay0 QW) Q pc L S u σ len (.newarray t)) : xAW p l e R s m args below meth c D G A M α0 lay0 QW pc L S u σ := by
  obtain ⟨hx, hb, hml, hts, hown, hK, hA, hin, hlk, hR1, hR2, hR3, hR4, hXw⟩ := C
  obtain ⟨rfl, x, r, N, rfl, hx0, hN, hN2, ht, hgr, hu1, hu2, ⟨ok1, ok2, ok3, ok4, ok5⟩, k⟩ := h
  intro α H locs ls hP hD hS hl hn h1 h2 hk
  have hcb : N * componentBytes (newarray.typeOf t) ≤ 536870912 := by
    cases t <;> first | exact absurd ht (by decide) | (show N * _ ≤ _; simp only [newarray.typeOf, componentBytes]; omega)
  have harr : ∀ a0 : vp_A, a0 = (if xAt t = 16 then (N, .inr (.inl (fun _ => (0 : Int32).toInt64))) else (N, .inl (fun _ => 0))) → ∀ cA : ClassId, vp_cell cA a0 = arrV cA N (fun _ => defaultValue (newarray.typeOf t)) := by
    rintro a0 rfl cA
    cases t <;> first | rfl | exact absurd ht (by decide)
  refine va_newa hx hb (xArr_word hts ht) rfl hK hP hD hS hA (harr _ rfl) hx0 hN hcb (by omega) (by omega) hd (fun q cA H1 gK gP gD gS => ?_)
  have hcA : cA = xAc G (xAt t) := xRA_eq hK (by intro n; cases t <;> simp [newarray.typeOf]) (xTy_at ht) gK
  subst hcA
  have hα : ∀ k, k < σ.1.length ∨ k = 100000 → (fun k => if k = σ.1.length then q else α k) k = α k := by
    intro k hk
    show (if k = σ.1.length then q else α k) = α k
    rw [if_neg (by omega)]
  have es : xW G (fun k => if k = σ.1.length then q else α k) (σ.1 ++ [(xAt t, N)], σ.2.1 ++ [[]], xz σ.2.2 σ.1.length) = xW G α σ ++ [(q, .inl (xAc G (xAt t), (if xAt t = 16 then (N, .inr (.inl (fun _ => (0 : Int32).toInt64))) else (N, .inl (fun _ => 0)))))] := by
    rw [xW_new ok1 ok2 hα]
    congr 1
    show [((if σ.1.length = σ.1.length then q else α σ.1.length), xE G _ (xAt t, N) [] (fun _ => 0))] = _
    rw [if_pos rfl]
    cases t <;> first | rfl | exact absurd ht (by decide)
  rw [← es] at gP gD
  have kk := k (fun k => if k = σ.1.length then q else α k) H1 locs ls gP gD gS (xLv_ext hα ok3 hl) hn hu1 hu2 ⟨fun i hi => by
    have := hk.2.1
    rw [hα i (by omega)]
    exact hk.1 i hi, by have := hk.2.1; simp; omega, fun hg => by rw [hg] at hgr; cases hgr⟩
  rw [List.map_cons, xmap_ext hα ok4] at kk
  have e2 : xcv (fun k => if k = σ.1.length then q else α k) (.ref σ.1.length) = .ref q := by
    show Value.ref (if σ.1.length = σ.1.length then q else α σ.1.length) = _
    rw [if_pos rfl]
  rw [e2] at kk
  exact kk
theorem xN_word {c i ci : Nat} {w : Nat × Nat × Nat} (h : xNR c i = some (ci, w)) : Cond.classLink (xR c) i (xR ci) ∈ xT ∧ Cond.instantiable (xR ci) (xNF ci) ∈ xT ∧ Cond.initialized (xR ci) ∈ xT ∧ ci < 13 := by
  obtain ⟨h1, h2, h3⟩ := xLook_mem h
  have h4 := List.all_eq_true.mp xNL_ok _ h1
  simp only [Bool.and_eq_true, decide_eq_true_eq] at h4
  obtain ⟨⟨⟨h5, h6⟩, h7⟩, h8⟩ := h4
  rw [h2, h3] at h5
  exact ⟨xIs_in h5, xIs_in h6, xIs_in h7, h8⟩
theorem xs_new {z : Nat} (C : xCtx p R s m args meth c D G A M d) (hd : decode (xB M) pc = .ok (.new z, len)) (h : xI CW scr M (xAW p l e R s m args below meth c D G A M α0 lay0 QW) Q pc L S u σ len (.new z)) (hthr : xThr M pc = true → Q (some .null) σ → xAW p l e R s m args below meth c D G A M α0 lay0 QW pc L [] (0, 0) σ) : xAW p l e R s m args below meth c D G A M α0 lay0 QW pc L S u σ := by
  obtain ⟨hx, hb, hml, hts, hown, hK, hA, hin, hlk, hR1, hR2, hR3, hR4, hXw⟩ := C
  obtain ⟨rfl, h⟩ := h
  rcases h with ⟨ci, w, hw, hgr, hu1, hu2, ⟨ok1, ok2, ok3, ok4, ok5⟩, k⟩ | ⟨t1, rfl, rfl, t2⟩
  · intro α H locs ls hP hD hS hl hn h1 h2 hk
    obtain ⟨g1, g2, g3, g4⟩ := xN_word hw
    obtain ⟨f1, f2, f3, f4⟩ := xCl_fact g4
    have hfs : ∀ j, j < xNF ci → defaultValue (xFy ci j) = vp_V (xFs α (ci, xNF ci) (List.replicate (xNF ci) 0) (fun _ => 0)) j := by
      intro j hj
      unfold vp_V
      rw [List.getD_eq_getElem?_getD, xFs_get (kd := (ci, xNF ci)) hj]
      obtain ⟨-, -, f7, f8⟩ := f4 j hj
      cases ee : xRF ci j with
      | false => rw [f7 ee]; rfl
      | true =>
        have e0 : (List.replicate (xNF ci) 0).getD j 0 = 0 := by simp [List.getD_eq_getElem?_getD, List.getElem?_replicate, hj]
        rw [e0]
        rcases f8 ee with ⟨n, q⟩ | ⟨t, q⟩ <;> rw [q] <;> rfl
    refine va_new (C := xR ci) (T := xFt ci) (N := xNF ci) hx hb hts f1 (xFy ci) f2 hown (hts _ g1) (hts _ g2) (hts _ g3) hK hP hD hS hA (xCl_get ci g4) hfs (by omega) (by omega) hd (fun q H1 gP gD gS => ?_)
    have hα : ∀ k, k < σ.1.length ∨ k = 100000 → (fun k => if k = σ.1.length then q else α k) k = α k := by
      intro k hk
      show (if k = σ.1.length then q else α k) = α k
      rw [if_neg (by omega)]
    have es : xW G (fun k => if k = σ.1.length then q else α k) (σ.1 ++ [(ci, xNF ci)], σ.2.1 ++ [List.replicate (xNF ci) 0], xz σ.2.2 σ.1.length) = xW G α σ ++ [(q, .inr (ci, xFs α (ci, xNF ci) (List.replicate (xNF ci) 0) (fun _ => 0)))] := by
      rw [xW_new ok1 ok2 hα]
      congr 1
      show [((if σ.1.length = σ.1.length then q else α σ.1.length), xE G _ (ci, xNF ci) (List.replicate (xNF ci) 0) (fun _ => 0))] = _
      rw [if_pos rfl, xE_ext hα (fun z hz => by rw [List.eq_of_mem_replicate hz]; exact Nat.zero_le _)]
      unfold xE
      rw [if_pos g4]
    rw [← es] at gP gD
    have kk := k (fun k => if k = σ.1.length then q else α k) H1 locs ls gP gD gS (xLv_ext hα ok3 hl) hn hu1 hu2 ⟨fun i hi => by
      have := hk.2.1
      rw [hα i (by omega)]
      exact hk.1 i hi, by have := hk.2.1; simp; omega, fun hg => by rw [hg] at hgr; cases hgr⟩
    rw [List.map_cons, xmap_ext hα ok4] at kk
    have e2 : xcv (fun k => if k = σ.1.length then q else α k) (.ref σ.1.length) = .ref q := by
      show Value.ref (if σ.1.length = σ.1.length then q else α σ.1.length) = _
      rw [if_pos rfl]
    rw [e2] at kk
    exact kk
  · exact hthr t1 t2
theorem xA_word {c i kk w : Nat} (h : xAR c i = some (kk, w)) : Cond.classLink (xR c) i ("[" ++ (FieldType.array (xKy kk)).toString) ∈ xT ∧ (kk = 13 ∨ kk = 14) := by
  obtain ⟨h1, h2, h3⟩ := xLook_mem h
  have h4 := List.all_eq_true.mp xAL_ok _ h1
  simp only [Bool.and_eq_true, Bool.or_eq_true, decide_eq_true_eq] at h4
  obtain ⟨h5, h6⟩ := h4
  rw [h2, h3] at h5
  exact ⟨xIs_in h5, h6⟩
theorem xs_multi {z dd : Nat} (C : xCtx p R s m args meth c D G A M d) (hd : decode (xB M) pc = .ok (.multianewarray z dd, len)) (h : xI CW scr M (xAW p l e R s m args below meth c D G A M α0 lay0 QW) Q pc L S u σ len (.multianewarray z dd)) : xAW p l e R s m args below meth c D G A M α0 lay0 QW pc L S u σ := by
  obtain ⟨hx, hb, hml, hts, hown, hK, hA, hin, hlk, hR1, hR2, hR3, hR4, hXw⟩ := C
  obtain ⟨rfl, rfl, y, x, r, N, K, kk, w, rfl, hx0, hy0, hN, hM, hN2, hK2, hw, hgr, hu1, hu2, ⟨ok1, ok2, ok3, ok4, ok5⟩, ok6, k⟩ := h
  intro α H locs ls hP hD hS hl hn h1 h2 hk
  obtain ⟨g1, g2⟩ := xA_word hw
  obtain ⟨a1, a2, a3, a4⟩ := xArr_ok
  have hcb : K * componentBytes (xKy kk) ≤ 536870912 := by
    rcases g2 with rfl | rfl <;> (show K * _ ≤ _; simp only [xKy, componentBytes]; omega)
  have hkk17 : 17 ≤ kk + 4 := by rcases g2 with rfl | rfl <;> omega
  have hover : (Cond.arrayOver (.array (xKy kk))).before args s = true := by
    rcases g2 with rfl | rfl
    · exact hXw.2.1
    · exact hXw.2.2.1
  have harr : (Cond.arrayClass (xKy kk)).before args s = true := by
    rcases g2 with rfl | rfl
    · exact hts _ a1
    · exact hts _ a2
  have hcy : s.vm.findClass (FieldType.array (xKy kk)).toString = some (xAc G kk) := by
    rcases g2 with rfl | rfl
    · exact (hK.2 0 _ rfl).2
    · exact (hK.2 1 _ rfl).2
  have hou : (xTys G)[kk - 13 + 4]? = some (xAc G (kk + 4), .array (xKy kk)) := by
    rcases g2 with rfl | rfl <;> rfl
  refine va_mna (X := xW G α σ) (L := []) (f := fun _ => .inr (0, [])) (z := (K, .inl (fun _ => 0))) hx hb hown (hts _ g1) hover harr hcy hK (by rw [va_pl, List.map_nil, List.append_nil]; exact hP) (by rw [va_pl, List.map_nil, List.append_nil]; exact hD) hS hA hx0 hy0 hN hM (by omega) hcb (by omega) (by rcases g2 with rfl | rfl <;> rfl) (by rcases g2 with rfl | rfl <;> rfl) (by omega) (by omega) (fun cc => ?_) hd (fun q rr cA H1 hinj hnot gK gP gD gS => ?_)
  · rcases g2 with rfl | rfl <;> exact arrV_new _ _ _
  · have hcA : cA = xAc G (kk + 4) := xRA_eq hK (by intro n h; cases h) hou gK
    subst hcA
    have hα : ∀ k, k < σ.1.length ∨ k = 100000 → (fun k => if k = σ.1.length then q else if σ.1.length < k ∧ k ≤ σ.1.length + N then rr (k - σ.1.length - 1) else α k) k = α k := by
      intro k hk
      show (if k = σ.1.length then q else if σ.1.length < k ∧ k ≤ σ.1.length + N then rr (k - σ.1.length - 1) else α k) = α k
      rw [if_neg (by omega), if_neg (by omega)]
    have hα0 : (fun k => if k = σ.1.length then q else if σ.1.length < k ∧ k ≤ σ.1.length + N then rr (k - σ.1.length - 1) else α k) σ.1.length = q := if_pos rfl
    have hα1 : ∀ i, i < N → (fun k => if k = σ.1.length then q else if σ.1.length < k ∧ k ≤ σ.1.length + N then rr (k - σ.1.length - 1) else α k) (σ.1.length + 1 + i) = rr i := by
      intro i hi
      show (if σ.1.length + 1 + i = σ.1.length then q else if σ.1.length < σ.1.length + 1 + i ∧ σ.1.length + 1 + i ≤ σ.1.length + N then rr (σ.1.length + 1 + i - σ.1.length - 1) else α _) = rr i
      rw [if_neg (by omega), if_pos (by omega), show σ.1.length + 1 + i - σ.1.length - 1 = i by omega]
    generalize hα' : (fun k => if k = σ.1.length then q else if σ.1.length < k ∧ k ≤ σ.1.length + N then rr (k - σ.1.length - 1) else α k) = α' at hα hα0 hα1
    have es : xW G α' (σ.1 ++ ((kk + 4, N) :: List.replicate N (kk, K)), σ.2.1 ++ ((List.range N).map (fun i => σ.1.length + 2 + i) :: List.replicate N []), xz σ.2.2 σ.1.length) = ((xW G α σ ++ [(q, .inl (xAc G (kk + 4), N, .inr (.inr (.inr (.inr (fun i => if i < N then some (rr i) else none))))))]) ++ va_pl ([] ++ (List.range N).map rr) (vr_up (fun _ => .inr (0, [])) ((List.range N).map rr) (.inl (xAc G kk, (K, .inl (fun _ => 0)))))) := by
      rw [xW_new ok1 ok2 hα, List.append_assoc]
      congr 1
      rw [List.length_cons, List.length_replicate, List.range_succ_eq_map, List.map_cons, List.singleton_append]
      congr 1
      · show (α' σ.1.length, xE G α' (kk + 4, N) ((List.range N).map (fun i => σ.1.length + 2 + i)) (fun _ => 0)) = _
        rw [hα0]
        unfold xE
        rw [if_neg (by show ¬ kk + 4 < 13; omega), if_neg (by show ¬ kk + 4 < 16; omega), if_neg (by show ¬ kk + 4 = 16; omega)]
        congr 8
        funext i
        by_cases hi : i < N
        · rw [if_pos hi, List.getD_eq_getElem?_getD, List.getElem?_map, List.getElem?_range hi]
          show xo α' (σ.1.length + 2 + i) = _
          rw [show σ.1.length + 2 + i = (σ.1.length + 1 + i) + 1 by omega]
          show some (α' (σ.1.length + 1 + i)) = _
          rw [hα1 i hi]
        · rw [if_neg hi, List.getD_eq_getElem?_getD, List.getElem?_eq_none (by simp; omega)]
          rfl
      · unfold va_pl
        rw [List.nil_append, List.map_map, List.map_map]
        apply List.map_congr_left
        intro i hi
        have hi' := List.mem_range.mp hi
        show (α' (σ.1.length + (i + 1)), xE G α' ((List.replicate N (kk, K)).getD i (0, 0)) ((List.replicate N []).getD i []) (fun _ => 0)) = (rr i, vr_up _ _ _ (rr i))
        rw [show σ.1.length + (i + 1) = σ.1.length + 1 + i by omega, hα1 i hi', vr_up_in (List.mem_map.mpr ⟨i, hi, rfl⟩)]
        have e1 : (List.replicate N (kk, K)).getD i (0, 0) = (kk, K) := by simp [List.getD_eq_getElem?_getD, List.getElem?_replicate, hi']
        rw [e1]
        rcases g2 with rfl | rfl <;> rfl
    rw [← es] at gP gD
    have kk' := k α' H1 locs ls gP gD gS (xLv_ext hα ok3 hl) hn (by omega) (by omega) ⟨fun i hi => by
      have := hk.2.1
      rw [hα i (by omega)]
      exact hk.1 i hi, by have := hk.2.1; simp; omega, fun hg => by rw [hg] at hgr; cases hgr⟩
    rw [List.map_cons, xmap_ext hα ok4] at kk'
    have e2 : xcv α' (.ref σ.1.length) = .ref q := congrArg Value.ref hα0
    rw [e2] at kk'
    exact kk'
end XS
