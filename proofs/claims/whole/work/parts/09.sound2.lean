/-! the machine follows the abstract one: fields, arrays, what makes cells -/
theorem xF_word {c i ci j : Nat} (h : xFR c i = some (ci, j)) : Cond.fieldLink (xR c) i (xFt ci j).1 (xFt ci j).2.1 (xFt ci j).2.2.1 ∈ xT ∧ ci < 13 ∧ j < xNF ci := by
  obtain ⟨h1, h2, h3⟩ := xLook_mem h
  have h4 := List.all_eq_true.mp xFL_ok _ h1
  simp only [Bool.and_eq_true, decide_eq_true_eq] at h4
  obtain ⟨⟨⟨h5, h6⟩, h7⟩, h8⟩ := h4
  rw [h2, h3] at h5 h6
  exact ⟨List.mem_filter.mpr ⟨xTab_mem h5, h6⟩, h7, h8⟩
theorem xCl_fact {ci : Nat} (hc : ci < 13) : (∀ w ∈ u_ws (xR ci) (xFt ci) (xNF ci), w ∈ xT) ∧ (∀ k, k < xNF ci → parseFieldDescriptor (xFt ci k).2.2.1 = some (xFy ci k)) ∧ (∀ a, a < xNF ci → ∀ b, b < xNF ci → a ≠ b → (xFt ci a).2.1 ≠ (xFt ci b).2.1) ∧
    (∀ k, k < xNF ci → (xFt ci k).2.2.2 = xFn ci k ∧ (xFt ci k).1 = xR ci ∧ (xRF ci k = false → xFy ci k = .int) ∧ (xRF ci k = true → (∃ n, xFy ci k = .object n) ∨ ∃ t, xFy ci k = .array t)) := by
  have h := List.all_eq_true.mp xCl_ok ci (List.mem_range.mpr hc)
  unfold xClok at h
  have h1 : ∀ k, k < xNF ci → _ := fun k hk => List.all_eq_true.mp h k (List.mem_range.mpr hk)
  simp only [Bool.and_eq_true, decide_eq_true_eq] at h1
  refine ⟨fun w hw => ?_, fun k hk => (h1 k hk).1.1.1.1.2, fun a ha b hb hab => ?_, fun k hk => ⟨(h1 k hk).1.1.1.2, (h1 k hk).1.1.2, fun e => ?_, fun e => ?_⟩⟩
  · obtain ⟨k, hk, rfl⟩ := List.mem_map.mp hw
    exact xIs_in (h1 k (List.mem_range.mp hk)).1.1.1.1.1
  · have h2 := List.all_eq_true.mp (h1 a ha).2 b (List.mem_range.mpr hb)
    simp only [Bool.or_eq_true, decide_eq_true_eq] at h2
    exact h2.resolve_left hab
  · have h2 := (h1 k hk).1.2
    rw [e] at h2
    simpa using h2
  · have h2 := (h1 k hk).1.2
    rw [e, if_pos rfl] at h2
    cases hty : xFy ci k <;> rw [hty] at h2 <;> first | exact Or.inl ⟨_, rfl⟩ | exact Or.inr ⟨_, rfl⟩ | cases h2
theorem xFs_get {α : Nat → Nat} {kd : Nat × Nat} {r : List Nat} {f : Nat → Int32} {j : Nat} (h : j < kd.2) : (xFs α kd r f)[j]? = some (if xRF kd.1 j then xcv α (xav (r.getD j 0)) else .int (f j)) := by
  unfold xFs
  rw [List.getElem?_map, List.getElem?_range h]
  rfl
theorem xFs_len {α : Nat → Nat} {kd : Nat × Nat} {r : List Nat} {f : Nat → Int32} : (xFs α kd r f).length = kd.2 := by simp [xFs]
theorem xFs_seti {α : Nat → Nat} {kd : Nat × Nat} {r : List Nat} {f : Nat → Int32} {j : Nat} {x : Int32} (h : xRF kd.1 j = false) : (xFs α kd r f).set j (.int x) = xFs α kd r (upd f j x) := by
  apply List.ext_getElem?
  intro i
  by_cases hi : i < kd.2
  · by_cases e : i = j
    · subst e
      rw [List.getElem?_set_self (by rw [xFs_len]; exact hi), xFs_get hi, h]
      simp [upd]
    · rw [List.getElem?_set_ne (fun q => e q.symm), xFs_get hi, xFs_get hi]
      simp [upd, e]
  · rw [List.getElem?_eq_none (by rw [List.length_set, xFs_len]; omega), List.getElem?_eq_none (by rw [xFs_len]; omega)]
theorem xFs_setr {α : Nat → Nat} {kd : Nat × Nat} {r : List Nat} {f : Nat → Int32} {j a : Nat} (h : xRF kd.1 j = true) (hj : j < r.length) : (xFs α kd r f).set j (.ref (α a)) = xFs α kd (r.set j (a + 1)) f := by
  apply List.ext_getElem?
  intro i
  by_cases hi : i < kd.2
  · by_cases e : i = j
    · subst e
      rw [List.getElem?_set_self (by rw [xFs_len]; exact hi), xFs_get hi, h, if_pos rfl, List.getD_eq_getElem?_getD, List.getElem?_set_self hj]
      rfl
    · rw [List.getElem?_set_ne (fun q => e q.symm), xFs_get hi, xFs_get hi, List.getD_eq_getElem?_getD, List.getD_eq_getElem?_getD, List.getElem?_set_ne (fun q => e q.symm)]
  · rw [List.getElem?_eq_none (by rw [List.length_set, xFs_len]; omega), List.getElem?_eq_none (by rw [xFs_len]; omega)]
section XS
variable {p : Program} {l : Launch} {e : Env} {R : Room} {s : State} {m : MethodId} {args : Array Value} {below : List Frame} {meth : Method} {c : Code} {D : va_G} {G : xG} {A : Nat → Prop} {M d : Nat} {α0 : Nat → Nat} {lay0 : List (Nat × Nat)} {QW : State → Prop}
variable {CW : Nat → List Value → xSt → xQr → Prop} {scr : Option (Nat × (Nat → Int32))} {Q : xQr} {pc : Nat} {L S : List Value} {u : Nat × Nat} {σ : xSt} {len : Nat}
theorem xs_getfield {z : Nat} (C : xCtx p R s m args meth c D G A M d) (hd : decode (xB M) pc = .ok (.getfield z, len)) (h : xI CW scr M (xAW p l e R s m args below meth c D G A M α0 lay0 QW) Q pc L S u σ len (.getfield z)) : xAW p l e R s m args below meth c D G A M α0 lay0 QW pc L S u σ := by
  obtain ⟨hx, hb, hml, hts, hown, hK, hA, hin, hlk, hR1, hR2, hR3, hR4, hXw⟩ := C
  obtain ⟨rfl, o, r, ci, j, rfl, hf, ho, k⟩ := h
  intro α H locs ls hP hD hS hl hn h1 h2 hk
  obtain ⟨g1, g2, g3⟩ := xF_word hf
  obtain ⟨f1, f2, f3, f4⟩ := xCl_fact g2
  have kk := k α H locs ls hP hD hS hl hn h1 h2 hk
  refine va_get (D := D) (C := xR ci) (T := xFt ci) (N := xNF ci) hx hb hts f1 hown hK hP o (xW_obj ho g2) (xCl_get ci g2) j g3 (hts _ g1) (fun _ h9 => h9) (xFs_get g3) hd ?_
  rw [List.map_cons] at kk
  refine (congrArg (fun v => W p l e R s m args below meth c H locs u.1 u.2 QW (F0 m (pc + 3) ls (v :: r.map (xcv α)))) ?_).mp kk
  by_cases e : xRF ci j = true
  · rw [if_pos e, if_pos e]
  · rw [if_neg e, if_neg e]; rfl
theorem xs_putfield {z : Nat} (C : xCtx p R s m args meth c D G A M d) (hd : decode (xB M) pc = .ok (.putfield z, len)) (h : xI CW scr M (xAW p l e R s m args below meth c D G A M α0 lay0 QW) Q pc L S u σ len (.putfield z)) : xAW p l e R s m args below meth c D G A M α0 lay0 QW pc L S u σ := by
  obtain ⟨hx, hb, hml, hts, hown, hK, hA, hin, hlk, hR1, hR2, hR3, hR4, hXw⟩ := C
  obtain ⟨rfl, v, o, r, ci, j, rfl, hf, ho, hfin, k⟩ := h
  intro α H locs ls hP hD hS hl hn h1 h2 hk
  obtain ⟨g1, g2, g3⟩ := xF_word hf
  obtain ⟨f1, f2, f3, f4⟩ := xCl_fact g2
  obtain ⟨f5, f6, f7, f8⟩ := f4 j g3
  rcases k with ⟨ee, x, rfl, k⟩ | ⟨ee, hol, hjl, a, rfl, k⟩
  · have hpt : ∀ (H1 : Heap) (locs1 : List Loc), va_P D vwCl ((xW G α σ).set o (α o, .inr (ci, (xFs α (ci, xNF ci) (σ.2.1.getD o []) (σ.2.2 o)).set j (.int x)))) H1 → va_D A ((xW G α σ).set o (α o, .inr (ci, (xFs α (ci, xNF ci) (σ.2.1.getD o []) (σ.2.2 o)).set j (.int x)))) → va_S A s.heap H1 locs1 → W p l e R s m args below meth c H1 locs1 u.1 u.2 QW (F0 m (pc + 3) ls (r.map (xcv α))) := by
      intro H1 locs1 q1 q2 q3
      have es : (xW G α σ).set o (α o, .inr (ci, (xFs α (ci, xNF ci) (σ.2.1.getD o []) (σ.2.2 o)).set j (.int x))) = xW G α (σ.1, σ.2.1, xu2 σ.2.2 o j x) := by
        refine xW_set (lay := σ.1) (rf := σ.2.1) (mem := σ.2.2) ho ?_ (fun i hi => ⟨rfl, xu2_ne hi⟩)
        rw [xFs_seti (kd := (ci, xNF ci)) ee, xu2_eq]
        unfold xE
        rw [if_pos g2]
      rw [es] at q1 q2
      exact k α H1 locs1 ls q1 q2 q3 hl hn h1 h2 hk
    by_cases ef : xFn ci j = true
    · obtain ⟨i1, i2⟩ := hfin ef
      exact va_putF (D := D) (C := xR ci) (T := xFt ci) (N := xNF ci) hx hb hts f1 (xFy ci) f2 f3 hown hK hP hD hS o (xW_obj ho g2) (xCl_get ci g2) j g3 (hts _ g1) (fun _ h9 => h9) (by rw [f5]; exact ef) (hin i1) (by rw [f6, i2]) (f2 j g3) (by rw [f7 ee]; rfl) (by rw [f7 ee]; rfl) (by rw [xFs_len]; exact g3) hd hpt
    · exact va_put (D := D) (C := xR ci) (T := xFt ci) (N := xNF ci) hx hb hts f1 (xFy ci) f2 f3 hown hK hP hD hS o (xW_obj ho g2) (xCl_get ci g2) j g3 (hts _ g1) (fun _ h9 => h9) (by rw [f5]; simpa using ef) (f2 j g3) (by rw [f7 ee]; rfl) (by rw [f7 ee]; rfl) (by rw [xFs_len]; exact g3) hd hpt
  · have hpt : ∀ (H1 : Heap) (locs1 : List Loc), va_P D vwCl ((xW G α σ).set o (α o, .inr (ci, (xFs α (ci, xNF ci) (σ.2.1.getD o []) (σ.2.2 o)).set j (.ref (α a))))) H1 → va_D A ((xW G α σ).set o (α o, .inr (ci, (xFs α (ci, xNF ci) (σ.2.1.getD o []) (σ.2.2 o)).set j (.ref (α a))))) → va_S A s.heap H1 locs1 → W p l e R s m args below meth c H1 locs1 u.1 u.2 QW (F0 m (pc + 3) ls (r.map (xcv α))) := by
      intro H1 locs1 q1 q2 q3
      have es : (xW G α σ).set o (α o, .inr (ci, (xFs α (ci, xNF ci) (σ.2.1.getD o []) (σ.2.2 o)).set j (.ref (α a)))) = xW G α (σ.1, xrs σ.2.1 o j (a + 1), σ.2.2) := by
        refine xW_set (lay := σ.1) (rf := σ.2.1) (mem := σ.2.2) ho ?_ (fun i hi => ⟨xrs_ne hi, rfl⟩)
        rw [xFs_setr (kd := (ci, xNF ci)) ee hjl, xrs_eq hol]
        unfold xE
        rw [if_pos g2]
      rw [es] at q1 q2
      exact k α H1 locs1 ls q1 q2 q3 hl hn h1 h2 hk
    have hnr : narrow (xFy ci j) (.ref (α a)) = .ref (α a) ∧ fits (xFy ci j) (.ref (α a)) = true := by
      rcases f8 ee with ⟨n, q⟩ | ⟨t, q⟩ <;> rw [q] <;> exact ⟨rfl, rfl⟩
    by_cases ef : xFn ci j = true
    · obtain ⟨i1, i2⟩ := hfin ef
      exact va_putF (D := D) (C := xR ci) (T := xFt ci) (N := xNF ci) hx hb hts f1 (xFy ci) f2 f3 hown hK hP hD hS o (xW_obj ho g2) (xCl_get ci g2) j g3 (hts _ g1) (fun _ h9 => h9) (by rw [f5]; exact ef) (hin i1) (by rw [f6, i2]) (f2 j g3) hnr.1 hnr.2 (by rw [xFs_len]; exact g3) hd hpt
    · exact va_put (D := D) (C := xR ci) (T := xFt ci) (N := xNF ci) hx hb hts f1 (xFy ci) f2 f3 hown hK hP hD hS o (xW_obj ho g2) (xCl_get ci g2) j g3 (hts _ g1) (fun _ h9 => h9) (by rw [f5]; simpa using ef) (f2 j g3) hnr.1 hnr.2 (by rw [xFs_len]; exact g3) hd hpt
theorem xs_baload (C : xCtx p R s m args meth c D G A M d) (hd : decode (xB M) pc = .ok (.baload, len)) (h : xI CW scr M (xAW p l e R s m args below meth c D G A M α0 lay0 QW) Q pc L S u σ len .baload) : xAW p l e R s m args below meth c D G A M α0 lay0 QW pc L S u σ := by
  obtain ⟨hx, hb, hml, hts, hown, hK, hA, hin, hlk, hR1, hR2, hR3, hR4, hXw⟩ := C
  obtain ⟨rfl, i, a, r, n, kk, rfl, hi, hkk, ha, k⟩ := h
  intro α H locs ls hP hD hS hl hn h1 h2 hk
  rcases hkk with rfl | rfl
  · exact va_bald hx hb hK hP a 1 (xW_int ha (by omega) (by omega)) rfl hi hd (k α H locs ls hP hD hS hl hn h1 h2 hk)
  · exact va_zald hx hb hK hP a 2 (xW_int ha (by omega) (by omega)) rfl hi hd (k α H locs ls hP hD hS hl hn h1 h2 hk)
theorem xs_laload (C : xCtx p R s m args meth c D G A M d) (hd : decode (xB M) pc = .ok (.laload, len)) (h : xI CW scr M (xAW p l e R s m args below meth c D G A M α0 lay0 QW) Q pc L S u σ len .laload) : xAW p l e R s m args below meth c D G A M α0 lay0 QW pc L S u σ := by
  obtain ⟨hx, hb, hml, hts, hown, hK, hA, hin, hlk, hR1, hR2, hR3, hR4, hXw⟩ := C
  obtain ⟨rfl, i, a, r, n, rfl, hi, ha, k⟩ := h
  intro α H locs ls hP hD hS hl hn h1 h2 hk
  exact va_lald hx hb hK hP a 3 (xW_long ha) rfl hi hd (k α H locs ls hP hD hS hl hn h1 h2 hk)
theorem xaald {cc : ByteArray} {H : Heap} {locs : List Loc} {cells slots : Nat} {ls : Array Slot} {rest : List Value} {ws : va_W} {tys : List (ClassId × FieldType)} {a : Nat} (hexec : p.tables.exec = Jvm.exec) (hb : c.code = cc) (hK : va_K D vwCl tys s) (hP : va_P D vwCl ws H) (q0 t0 : Nat) {cA : ClassId} {ty : FieldType} {n : Nat} {f : Nat → Option Nat} (ha : ws[q0]? = some (a, .inl (cA, n, .inr (.inr (.inr (.inr f)))))) (ht : tys[t0]? = some (cA, ty)) (hty : ty.isReference = true) {i : Int32} (hin : vp_in i n) (hdg : decode cc pc = .ok (.aaload, 1))
    (kk : W p l e R s m args below meth c H locs cells slots QW (F0 m (pc + 1) ls (va_rf (f i.toNatClampNeg) :: rest))) : W p l e R s m args below meth c H locs cells slots QW (F0 m pc ls (.int i :: .ref a :: rest)) := by
  have hlt : i.toNatClampNeg < n := Nat.not_le.mp fun q => hin (Or.inr q)
  exact W.aald (v := va_rf (f i.toNatClampNeg)) (ty := ty) hexec hb (hP q0 _ ha) ((hK.2 t0 _ ht).1 n (fun j => va_rf (f j))) hty (fun q => by cases q) (by show ¬ (i < 0 ∨ (arrV _ _ _).slots.size ≤ _); rw [arrV_size]; exact hin) (by show (arrV _ _ _).slots[_]? = _; rw [arrV_read _ _ hlt]) rfl rfl hdg kk
theorem xs_aaload (C : xCtx p R s m args meth c D G A M d) (hd : decode (xB M) pc = .ok (.aaload, len)) (h : xI CW scr M (xAW p l e R s m args below meth c D G A M α0 lay0 QW) Q pc L S u σ len .aaload) : xAW p l e R s m args below meth c D G A M α0 lay0 QW pc L S u σ := by
  obtain ⟨hx, hb, hml, hts, hown, hK, hA, hin, hlk, hR1, hR2, hR3, hR4, hXw⟩ := C
  obtain ⟨rfl, i, a, r, n, kk, rfl, hi, hkk, ha, k⟩ := h
  intro α H locs ls hP hD hS hl hn h1 h2 hk
  have k' := k α H locs ls hP hD hS hl hn h1 h2 hk
  rw [List.map_cons, ← xo_rf] at k'
  rcases hkk with rfl | rfl
  · exact xaald hx hb hK hP a 4 (xW_ref ha (by omega)) rfl rfl hi hd k'
  · exact xaald hx hb hK hP a 5 (xW_ref ha (by omega)) rfl rfl hi hd k'
theorem xset_i {α : Nat → Nat} {a kk n : Nat} {i : Nat} {x : Int32} (ha : σ.1[a]? = some (kk, n)) (h1 : 13 ≤ kk) (h2 : kk < 16) : (xW G α σ).set a (α a, .inl (xAc G kk, n, .inl (upd (σ.2.2 a) i x))) = xW G α (σ.1, σ.2.1, xu2 σ.2.2 a i x) := by
  refine xW_set (lay := σ.1) (rf := σ.2.1) (mem := σ.2.2) ha ?_ (fun i hi => ⟨rfl, xu2_ne hi⟩)
  rw [xu2_eq]
  unfold xE
  rw [if_neg (by show ¬ kk < 13; omega), if_pos h2]
theorem xs_iastore (C : xCtx p R s m args meth c D G A M d) (hd : decode (xB M) pc = .ok (.iastore, len)) (h : xI CW scr M (xAW p l e R s m args below meth c D G A M α0 lay0 QW) Q pc L S u σ len .iastore) : xAW p l e R s m args below meth c D G A M α0 lay0 QW pc L S u σ := by
  obtain ⟨hx, hb, hml, hts, hown, hK, hA, hin, hlk, hR1, hR2, hR3, hR4, hXw⟩ := C
  obtain ⟨rfl, x, i, a, r, n, rfl, hi, ha, k⟩ := h
  intro α H locs ls hP hD hS hl hn h1 h2 hk
  refine va_iast hx hb hK hP hD hS a 0 (xW_int ha (by omega) (by omega)) rfl hi hd (fun H1 locs1 q1 q2 q3 => ?_)
  have es := xset_i (G := G) (α := α) (i := i.toNatClampNeg) (x := x) ha (by omega) (by omega)
  exact k α H1 locs1 ls (es ▸ q1) (es ▸ q2) q3 hl hn h1 h2 hk
theorem xs_bastore (C : xCtx p R s m args meth c D G A M d) (hd : decode (xB M) pc = .ok (.bastore, len)) (h : xI CW scr M (xAW p l e R s m args below meth c D G A M α0 lay0 QW) Q pc L S u σ len .bastore) : xAW p l e R s m args below meth c D G A M α0 lay0 QW pc L S u σ := by
  obtain ⟨hx, hb, hml, hts, hown, hK, hA, hin, hlk, hR1, hR2, hR3, hR4, hXw⟩ := C
  obtain ⟨rfl, x, i, a, r, n, kk, rfl, hi, hkk, ha, k⟩ := h
  intro α H locs ls hP hD hS hl hn h1 h2 hk
  rcases hkk with rfl | rfl
  · refine va_bast hx hb hK hP hD hS a 1 (xW_int ha (by omega) (by omega)) rfl hi hd (fun H1 locs1 q1 q2 q3 => ?_)
    have es := xset_i (G := G) (α := α) (i := i.toNatClampNeg) (x := vp_nar .byte x) ha (by omega) (by omega)
    exact k α H1 locs1 ls (es ▸ q1) (es ▸ q2) q3 hl hn h1 h2 hk
  · refine va_zast hx hb hK hP hD hS a 2 (xW_int ha (by omega) (by omega)) rfl hi hd (fun H1 locs1 q1 q2 q3 => ?_)
    have es := xset_i (G := G) (α := α) (i := i.toNatClampNeg) (x := vp_nar .boolean x) ha (by omega) (by omega)
    exact k α H1 locs1 ls (es ▸ q1) (es ▸ q2) q3 hl hn h1 h2 hk
theorem xset_l {α : Nat → Nat} {a n : Nat} {i : Nat} {x : Int32} (ha : σ.1[a]? = some (16, n)) : (xW G α σ).set a (α a, .inl (xAc G 16, n, .inr (.inl (vp_updL (fun j => (σ.2.2 a j).toInt64) i x.toInt64)))) = xW G α (σ.1, σ.2.1, xu2 σ.2.2 a i x) := by
  refine xW_set (lay := σ.1) (rf := σ.2.1) (mem := σ.2.2) ha ?_ (fun i hi => ⟨rfl, xu2_ne hi⟩)
  rw [xu2_eq]
  unfold xE
  rw [if_neg (by show ¬ 16 < 13; omega), if_neg (by show ¬ 16 < 16; omega), if_pos rfl]
  congr 5
  funext j
  by_cases e : j = i <;> simp [vp_updL, upd, e]
theorem xs_lastore (C : xCtx p R s m args meth c D G A M d) (hd : decode (xB M) pc = .ok (.lastore, len)) (h : xI CW scr M (xAW p l e R s m args below meth c D G A M α0 lay0 QW) Q pc L S u σ len .lastore) : xAW p l e R s m args below meth c D G A M α0 lay0 QW pc L S u σ := by
  obtain ⟨hx, hb, hml, hts, hown, hK, hA, hin, hlk, hR1, hR2, hR3, hR4, hXw⟩ := C
  obtain ⟨rfl, x, i, a, r, n, rfl, hi, ha, k⟩ := h
  intro α H locs ls hP hD hS hl hn h1 h2 hk
  refine va_last hx hb hK hP hD hS a 3 (xW_long ha) rfl hi hd (fun H1 locs1 q1 q2 q3 => ?_)
  have es := xset_l (G := G) (α := α) (i := i.toNatClampNeg) (x := x) ha
  exact k α H1 locs1 ls (es ▸ q1) (es ▸ q2) q3 hl hn h1 h2 hk
end XS
