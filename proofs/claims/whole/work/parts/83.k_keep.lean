/-! keep, again -/
section K
variable {N R B r d n T : Nat} {mem m' m0 m1 m2 m3 m4 m5 : Nat → Nat → Int32} {Q : xQr} {g : xCf} {D : xD}
theorem xuA_at {m : Nat → Nat → Int32} {a : Nat} {f : Nat → Int32} : xuA m a f a = f := xuA_eq
theorem c28 {i : Nat} (hi : i < 2) (hz : ∀ j, 121 ≤ j → mem (68 + i) j = 0) (hz2 : ∀ j, 121 ≤ j → mem 48 j = 0)
    (k : ∀ m', Ag [68 + i, 71 + i, 74 + i, 76, 77] mem m' → m' (68 + i) = mem 48 → (∀ p, p < 8 → m' (71 + i) p = mem 8 p) → (∀ q, q < 4 → m' (74 + i) q = mem 6 q) → m' 76 = upd (mem 76) i (mem 5 0) → m' 77 = upd (mem 77) i (mem 5 1) → Q none (LAY, RFu r, m')) : xCall (d + 1) 28 [.ref 55, .int (nI i), .ref 5, .ref 47] (LAY, RFu r, mem) Q := by
  have ci : (nI i).toNatClampNeg = i := nIc (by omega)
  have vi : vp_in (nI i) 2 := vpn hi (by decide)
  refine c_in rfl rfl rfl fun P hP => b28_0 hP (Or.inl rfl) (Or.inl rfl) vi vi vi vi vi ?_
  rw [ci]
  have e1 : va_cpy (mem (47 + 1)) (mem (68 + i)) 0 0 121 = mem 48 := xuA_cpy (fun j hj => by rw [hz j hj, hz2 j hj])
  rw [e1]
  generalize hM1 : xuA mem (68 + i) (mem 48) = M1
  have a1 : ∀ c, c ≠ 68 + i → M1 c = mem c := fun c hc => by rw [← hM1, xuA_ne hc]
  generalize hM2 : xuA M1 (71 + i) _ = M2
  have a2 : ∀ c, c ≠ 71 + i → M2 c = M1 c := fun c hc => by rw [← hM2, xuA_ne hc]
  generalize hM3 : xuA M2 (74 + i) _ = M3
  have a3 : ∀ c, c ≠ 74 + i → M3 c = M2 c := fun c hc => by rw [← hM3, xuA_ne hc]
  have c0 : ∀ c, c ≠ 68 + i → c ≠ 71 + i → c ≠ 74 + i → M3 c = mem c := fun c h1 h2 h3 => by rw [a3 c h3, a2 c h2, a1 c h1]
  refine k _ (fun c hc => ?_) ?_ (fun p hp => ?_) (fun q hq => ?_) ?_ ?_
  · simp only [List.mem_cons, List.not_mem_nil, or_false, not_or] at hc
    rw [xu2_ne hc.2.2.2.2, xu2_ne hc.2.2.2.1, c0 c hc.1 hc.2.1 hc.2.2.1]
  · rw [xu2_ne (by omega), xu2_ne (by omega), a3 _ (by omega), a2 _ (by omega), ← hM1, xuA_at]
  · rw [xu2_ne (by omega), xu2_ne (by omega), a3 _ (by omega), ← hM2, xuA_at, cpy_lt hp, a1 _ (by omega)]
  · rw [xu2_ne (by omega), xu2_ne (by omega), ← hM3, xuA_at, cpy_lt hq, a2 _ (by omega), a1 _ (by omega)]
  · rw [xu2_ne (by decide), xu2_eq, c0 76 (by omega) (by omega) (by omega), c0 5 (by omega) (by omega) (by omega)]
  · rw [xu2_eq, xu2_ne (by decide), c0 77 (by omega) (by omega) (by omega), xu2_ne (by decide), c0 5 (by omega) (by omega) (by omega)]
theorem RK1.mv' {m : Nat → Nat → Int32} {came i : Nat} (h : RK1 m N R B came i) (hN : N ≤ 8) (hR : R ≤ 4) (e1 : m' 77 i = m 77 i) (e2 : m' 142 i = m 142 i) (e3 : m' 76 i = m 76 i) (e4 : m' 143 i = m 143 i) (e5 : m' (68 + i) = m (68 + i)) (e6 : m' (71 + i) = m (71 + i)) (e7 : m' (74 + i) = m (74 + i)) (e8 : ∀ j, 133 * i ≤ j → j < 133 * i + 133 → m' 141 j = m 141 j) : RK1 m' N R B came i := by
  unfold RK1 at h ⊢
  rw [e1, e2, e3, e4, e5, e6, e7]
  rcases h with h | ⟨h1, n', r', kc, h2, h3, h4, h5, h6, h7, h8, h9⟩
  · exact Or.inl h
  · refine Or.inr ⟨h1, n', r', kc, h2, h3, h4, h5, h6, h7, h8, fun z => ?_⟩
    obtain ⟨q1, q2, q3, q4⟩ := h9 z
    refine ⟨q1.congr hN (fun j h1 h2 => e8 j h1 (by omega)), q2, fun p hp => ?_, fun x hx => ?_⟩
    · rw [e8 _ (by omega) (by omega)]; exact q3 p hp
    · obtain ⟨hh, w1, w2, w3⟩ := q4 x hx
      exact ⟨hh, w1, w2, fun w => by rw [e8 _ (by omega) (by omega)]; exact w3 w⟩
theorem tk_keep (x : Int32) : Tk 147 233 [.int x] := by
  intro N R B r mem Q h hB K
  obtain ⟨p0, pch, ppe, ppl, psh, pr0, pr1⟩ := RTo_parts h.2.2.1
  obtain ⟨hR, hR4, hN, hN8, hR2, hN2⟩ := id p0
  obtain ⟨hM, hS⟩ := h.2.2.2.1
  have hZ := h.2.2.2.2.2.2.2
  refine c_in rfl rfl rfl fun P hP => b147_0 hP (c151 (a := 0) (b := 1) (by decide) (by decide) (fun hno => Bk.i (b147_6 hP (fun z => absurd rfl z) (fun _ => b147_9 hP (Or.inl rfl) (K _ _ ?_)))) (fun i _ hi ei => Bk.i (b147_6 hP (fun _ => b147_11 hP ?_) (fun z => absurd z (by decide)))))
  · intro Q2 k2
    exact c_in rfl rfl rfl fun P hP => b233_0 hP (c158r (a := 0) (b := 1) (by decide) (by decide) (fun _ => Bk.i (b233_11 hP (fun z => absurd rfl z) (fun _ => b233_14 hP (Or.inl rfl) (k2 _ _ (kEnd (kM20 h) hB))))) (fun n h1 h2 en => absurd en (hno n h1 h2)))
  subst ei
  have hi2 : i < 2 := by omega
  have hzi : 68 + i ∈ zC := by
    have : ∀ i < 2, 68 + i ∈ zC := by decide
    exact this i hi2
  refine c28 hi2 (hZ _ hzi) (hZ 48 (by decide)) fun m1 a1 e68 e71 e74 e76 e77 => Bk.v (b147_27 hP (Or.inr rfl) (K _ _ ?_))
  have a1' : Ag [68, 69, 71, 72, 74, 75, 76, 77] mem m1 := a1.mono (by
    have : ∀ i < 2, ∀ c ∈ [68 + i, 71 + i, 74 + i, 76, 77], c ∈ [68, 69, 71, 72, 74, 75, 76, 77] := by decide
    exact this i hi2)
  intro Q2 k2
  have vi : vp_in (nI i) 2 := vpn hi2 (by decide)
  have ci : (nI i).toNatClampNeg = i := nIc (by omega)
  refine c_in rfl rfl rfl fun P hP => b233_0 hP (c158r (a := 0) (b := 1) (by decide) (by decide) (fun q => absurd rfl (q i (Nat.zero_le _) hi)) (fun _ _ _ _ => Bk.i (b233_11 hP (fun _ => b233_16 hP vi vi ?_) (fun z => absurd z (by decide)))))
  rw [ci, nI_mul, show xNar 15 (nI 1) = 1 by decide]
  generalize hmb : xu2 (xu2 (xu2 m1 108 20 (nI 0)) 142 i 1) 143 i _ = mb
  have ab : AgM [142, 143] [20] m1 mb := by rw [← hmb]; exact ((AgM.rfl'.us (by simp)).u2 (by simp) (by decide)).u2 (by simp) (by decide)
  have hMb : MV mb N (mem 48) := (hM.ag (Ag.M a1' (by decide)) (by decide) (by simp)).ag ab (by decide) (by decide)
  obtain ⟨came, hcB, ⟨h47, h91⟩, hk0, hk1⟩ := h.2.2.2.2.2.2.1
  have e142 : mb 142 = upd (mem 142) i 1 := by rw [← hmb, xu2_ne (by decide), xu2_eq, xu2_ne (by decide), a1' 142 (by decide)]
  have e143 : mb 143 = upd (mem 143) i (nI came) := by
    rw [← hmb, xu2_eq, xu2_ne (by decide), xu2_ne (by decide), a1' 143 (by decide), xu2_ne (by decide), e20 (by decide), a1' 108 (by decide), h47]
  refine c191 (k := 133 * i) (np := 266) (Or.inr (Or.inr (Or.inr rfl))) rfl (by omega) (by decide) hN8 hMb fun m3 a3 l3 o3 => Bk.v (b233_48 hP ?_)
  rw [nI_add]
  have e111 : ∀ m, AgM [141] [] m3 m → m 111 = mem 111 := fun m a => by rw [a.1 111 (by decide) (by decide), a3.1 111 (by decide) (by decide), ab.1 111 (by decide) (by decide), a1' 111 (by decide)]
  have e109 : ∀ m, AgM [141] [] m3 m → m 109 = mem 109 := fun m a => by rw [a.1 109 (by decide) (by decide), a3.1 109 (by decide) (by decide), ab.1 109 (by decide) (by decide), a1' 109 (by decide)]
  have key := xloop (N := 8) (G := fun j => ∀ m', AgM [141] [] m3 m' → (∀ p, p < j → p < N → m' 141 (133 * i + 121 + p) = mem 8 p) → (∀ t, t < 133 * i + 121 ∨ 133 * i + 121 + j ≤ t → m' 141 t = m3 141 t) → P 53 [.ref 108, .int (nI i), .int (nI (133 * i + 121)), .int (nI j)] [] (0, 0) (LAY, RFu r, m')) ?_ ?_
  · exact key m3 AgM.rfl' (fun p hp => absurd hp (Nat.not_lt_zero p)) (fun _ _ => rfl)
  · intro m4 a4 s4 o4
    refine b233_53 hP (fun _ => b233_87 hP ?_) (fun z => absurd (Int32.le_refl _) z)
    have key2 := xloop (N := 4) (G := fun j => ∀ m', AgM [141] [] m3 m' → (∀ p, p < N → m' 141 (133 * i + 121 + p) = mem 8 p) → (∀ q, q < j → m' 141 (133 * i + 129 + q) = mem 109 q) → (∀ t, t < 133 * i + 121 ∨ 133 * i + 133 ≤ t → m' 141 t = m3 141 t) → P 89 [.ref 108, .int (nI i), .int (nI (133 * i + 121)), .int (nI j)] [] (0, 0) (LAY, RFu r, m')) ?_ ?_
    · exact key2 m4 a4 (fun p hp => s4 p (by omega) hp) (fun p hp => absurd hp (Nat.not_lt_zero p)) (fun t ht => o4 t (by omega))
    · intro m5 a5 s5 q5 o5
      refine b233_89 hP (fun _ => b233_117 hP (Or.inr rfl) (k2 _ _ (kEnd (N := N) (R := R) ?_ hB))) (fun z => absurd (Int32.le_refl _) z)
      have aX : AgM [142, 143, 141] [20] m1 m5 := ((ab.mono (by simp) (by simp)).trans (a3.mono (by simp) (by simp))).trans (a5.mono (by simp) (by simp))
      have a35 : AgM [141] [] mb m5 := a3.trans a5
      have f142 : m5 142 = upd (mem 142) i 1 := by rw [a35.1 142 (by decide) (by decide), e142]
      have f143 : m5 143 = upd (mem 143) i (nI came) := by rw [a35.1 143 (by decide) (by decide), e143]
      have fc : ∀ c, c ∉ [142, 143, 141] → c ≠ 108 → m5 c = m1 c := fun c h1 h2 => aX.1 c h1 h2
      have o141 : ∀ t, t < 133 * i ∨ 133 * i + 133 ≤ t → m5 141 t = mem 141 t := fun t ht => by rw [o5 t (by omega), o3 t (by omega), ab.1 141 (by decide) (by decide), a1' 141 (by decide)]
      have c68 : ∀ i < 2, (68 + i ∉ [142, 143, 141] ∧ 68 + i ≠ 108) ∧ (71 + i ∉ [142, 143, 141] ∧ 71 + i ≠ 108) ∧ (74 + i ∉ [142, 143, 141] ∧ 74 + i ≠ 108) := by decide
      have kO : ∀ j, j < 2 → j ≠ i → RK1 mem N R B came j → RK1 m5 N R B came j := fun j hj hji q => by
        obtain ⟨⟨y1, y2⟩, ⟨y3, y4⟩, y5, y6⟩ := c68 j hj
        have no : ∀ j < 2, ∀ i < 2, j = i ∨ (68 + j ∉ [68 + i, 71 + i, 74 + i, 76, 77] ∧ 71 + j ∉ [68 + i, 71 + i, 74 + i, 76, 77] ∧ 74 + j ∉ [68 + i, 71 + i, 74 + i, 76, 77]) := by decide
        obtain ⟨z1, z2, z3⟩ := (no j hj i hi2).resolve_left hji
        refine q.mv' hN8 hR4 ?_ ?_ ?_ ?_ ?_ ?_ ?_ (fun t h1 h2 => o141 t (by omega))
        · rw [fc 77 (by decide) (by decide), e77, upd_ne hji]
        · rw [f142, upd_ne hji]
        · rw [fc 76 (by decide) (by decide), e76, upd_ne hji]
        · rw [f143, upd_ne hji]
        · rw [fc _ y1 y2, a1 _ z1]
        · rw [fc _ y3 y4, a1 _ z2]
        · rw [fc _ y5 y6, a1 _ z3]
      have kI : RK1 m5 N R B came i := by
        obtain ⟨⟨y1, y2⟩, ⟨y3, y4⟩, y5, y6⟩ := c68 i hi2
        refine Or.inr ⟨by rw [f142, upd_at], N, R, came, by rw [fc 77 (by decide) (by decide), e77, upd_at, hN], by rw [fc 76 (by decide) (by decide), e76, upd_at, hR], by rw [f143, upd_at], Nat.le_refl _, Nat.le_refl _, Nat.le_refl _, ⟨fun _ => ⟨rfl, rfl⟩, fun _ => rfl⟩, fun _ => ⟨?_, ?_, fun p hp => ?_, fun x hx => ?_⟩⟩
        · rw [fc _ y1 y2, e68]
          exact l3.congr hN8 (fun t h1 h2 => o5 t (by omega))
        · rw [fc _ y1 y2, e68]; exact hS
        · rw [fc _ y3 y4, e71 p (by omega), s5 p hp]
          exact ⟨rfl, (ppe p hp).2.2⟩
        · obtain ⟨hh, w1, w2, w3⟩ := pch x hx
          refine ⟨hh, w1, by rw [fc _ y5 y6, e74 x hx, w2], fun hxR => ?_⟩
          rw [q5 x hx, w3 hxR]
      refine ⟨kTx h a1' aX (by decide), kRw h a1' aX (by decide), kTo h a1' aX (by decide), kSt h a1' aX (by decide), kUn h a1' aX (by decide), kOl h a1' aX (by decide), ⟨came, hcB, ⟨by rw [aX.2 47 (by decide), a1' 108 (by decide), h47], by rw [aX.1 91 (by decide) (by decide), a1' 91 (by decide)]; exact h91⟩, ?_, ?_⟩, hZ.mv fun c hc => ?_⟩
      · by_cases q : 0 = i
        · subst q; exact kI
        · exact kO 0 (by decide) q hk0
      · by_cases q : 1 = i
        · subst q; exact kI
        · exact kO 1 (by decide) q hk1
      · have : ∀ c ∈ zC, c ∉ [142, 143, 141] ∧ c ≠ 108 := by decide
        obtain ⟨y1, y2⟩ := this c hc
        rw [fc c y1 y2]
        by_cases q : c = 68 + i
        · rw [q, e68]; exact Or.inr (fun j hj => hZ 48 (by decide) j hj)
        · refine Or.inl (a1 c ?_)
          have : ∀ i < 2, ∀ c ∈ zC, c = 68 + i ∨ c ∉ [68 + i, 71 + i, 74 + i, 76, 77] := by decide
          exact (this i hi2 c hc).resolve_left q
    · intro j hj ih m5 a5 s5 q5 o5
      refine b233_89 hP (fun z => absurd z (nI_ge hj (by decide))) (fun _ => b233_94 hP (vpn hj (by decide)) (by rw [nI_add, nI_add]; exact vpn (by omega) (by decide)) ?_)
      rw [nIs, nI_add, nI_add, nIc (by omega), nIc (by omega), e109 m5 a5]
      refine ih _ (a5.u2 (by simp) (by decide)) (fun p hp => ?_) (fun q hq => ?_) (fun t ht => ?_)
      · rw [xu2_eq, upd_ne (by omega)]; exact s5 p hp
      · rw [xu2_eq]
        by_cases w : q = j
        · rw [w, show 133 * i + 129 + j = 133 * i + 121 + 8 + j by omega, upd_at]
        · rw [upd_ne (by omega)]; exact q5 q (by omega)
      · rw [xu2_eq, upd_ne (by omega)]; exact o5 t ht
  · intro j hj ih m4 a4 s4 o4
    have fin : ∀ y, (j < N → y = mem 8 j) → P 80 [.ref 108, .int (nI i), .int (nI (133 * i + 121)), .int (nI j)] [.int y, .int (nI (133 * i + 121) + nI j), .ref 141] (0, 0) (LAY, RFu r, m4) := fun y hy => by
      refine b233_80 hP (by rw [nI_add]; exact vpn (by omega) (by decide)) ?_
      rw [nIs, nI_add, nIc (by omega)]
      refine ih _ (a4.u2 (by simp) (by decide)) (fun p hp hpN => ?_) (fun t ht => ?_)
      · rw [xu2_eq]
        by_cases w : p = j
        · rw [w, upd_at]; exact hy (by omega)
        · rw [upd_ne (by omega)]; exact s4 p (by omega) hpN
      · rw [xu2_eq, upd_ne (by omega)]; exact o4 t (by omega)
    refine b233_53 hP (fun z => absurd z (nI_ge hj (by decide))) (fun _ => b233_59 hP (vpn hj (by decide)) (fun z => b233_79 hP (fin _ fun hjN => ?_)) (fun z => b233_75 hP (fin _ fun hjN => ?_))) <;> rw [nIc (by omega), e111 m4 a4] at z
    · rw [(ppe j hjN).2.1, z]; rfl
    · rcases (ppe j hjN).2.2 with w | w
      · rw [(ppe j hjN).2.1] at w; exact absurd w z
      · rw [w]; rfl
theorem tk_again (x : Int32) : Tk 148 234 [.int x] := by
  intro N R B r mem Q h hB K
  obtain ⟨p0, pch, ppe, ppl, psh, pr0, pr1⟩ := RTo_parts h.2.2.1
  obtain ⟨hR, hR4, hN, hN8, hR2, hN2⟩ := id p0
  obtain ⟨hM, hS⟩ := h.2.2.2.1
  have hZ := h.2.2.2.2.2.2.2
  obtain ⟨came, hcB, ⟨h47, h91⟩, hk0, hk1⟩ := id h.2.2.2.2.2.2.1
  have hk : ∀ i, i < 2 → RK1 mem N R B came i := fun i hi => by
    have : i = 0 ∨ i = 1 := by omega
    rcases this with rfl | rfl
    · exact hk0
    · exact hk1
  refine c_in rfl rfl rfl fun P hP => b148_0 hP (c151 (a := 0) (b := 1) (by decide) (by decide) (fun hno => Bk.i (b148_6 hP (fun _ => b148_28 hP (Or.inl rfl) (K _ _ ?_)) (fun z => absurd rfl z))) (fun i _ hi ei => Bk.i (b148_6 hP (fun z => absurd z (by decide)) (fun _ => b148_9 hP ?_))))
  · intro Q2 k2
    exact c_in rfl rfl rfl fun P hP => b234_0 hP (c158r (a := 0) (b := 1) (by decide) (by decide) (fun _ => Bk.i (b234_11 hP (fun _ => b234_36 hP (Or.inl rfl) (k2 _ _ (kEnd (kM20 h) hB))) (fun z => absurd rfl z))) (fun n h1 h2 en => absurd en (hno n h1 h2)))
  subst ei
  have hi2 : i < 2 := by omega
  have vi : vp_in (nI i) 2 := vpn hi2 (by decide)
  have ci : (nI i).toNatClampNeg = i := nIc (by omega)
  -- not kept, or kept in another town
  have no : (mem 142 i = 0 ∨ ∃ kc, mem 143 i = nI kc ∧ kc ≤ came ∧ kc ≠ came) → Q (some (.int (nI 0))) (LAY, RFu r, mem) := fun hno => by
    refine K _ _ ?_
    intro Q2 k2
    have hcB' : came < 2147483648 := by omega
    refine c_in rfl rfl rfl fun P hP => b234_0 hP (c158r (a := 0) (b := 1) (by decide) (by decide) (fun q => absurd rfl (q i (Nat.zero_le _) hi)) (fun _ _ _ _ => Bk.i (b234_11 hP (fun z => absurd z (by decide)) (fun _ => b234_14 hP vi (fun _ => b234_36 hP (Or.inl rfl) (k2 _ _ (kEnd (kM20 h) hB))) (fun z => b234_23 hP vi (fun z2 => ?_) (fun _ => b234_36 hP (Or.inl rfl) (k2 _ _ (kEnd (kM20 h) hB))))))))
    rw [ci, xu2_ne (by decide)] at z
    rw [ci, xu2_ne (by decide), e20 (by decide), h47] at z2
    rcases hno with q | ⟨kc, q1, q2, q3⟩
    · exact absurd q z
    · rw [q1] at z2
      exact absurd (nI_inj z2 (by omega) hcB') q3
  have out : Q (some (.int (nI 0))) (LAY, RFu r, mem) → ∀ P2 : xPr, Cl 298 none 29 P2 (Bk P 22 [.ref 0, .int (nI i)] [] (0, 0)) → ∀ v0 v1 v2 v3, P2 26 [v0, v1, v2, v3] [] (0, 0) (LAY, RFu r, mem) := fun kq P2 hP2 v0 v1 v2 v3 => b29_26 hP2 (t := 5) (s := 47) (Or.inl rfl) (Or.inl rfl) (Or.inl rfl) (Bk.i (b148_25 hP (fun z => absurd rfl z) (fun _ => b148_28 hP (Or.inl rfl) kq)))
  refine c_in rfl rfl rfl fun P2 hP2 => ?_
  rcases hk i hi2 with ⟨q1, q2⟩ | ⟨h1, n', r', kc, h2, h3, h4, h5, h6, h7, h8, h9⟩
  · refine b29_0 hP2 (Or.inl rfl) (Or.inl rfl) vi (fun _ => out (no (Or.inl q2)) P2 hP2 _ _ _ _) (fun z => ?_)
    rw [ci, q1, hN] at z
    exact absurd z.symm (nI_nm (by omega))
  · by_cases hkc : kc = came
    · obtain ⟨en, er⟩ := h8.mp hkc
      obtain ⟨l1, l2, l3, l4⟩ := h9 hkc
      subst en
      subst er
      refine b29_0 hP2 (Or.inl rfl) (Or.inl rfl) vi (fun z => absurd (by rw [ci, h2, hN]) z) (fun _ => b29_13 hP2 (Or.inl rfl) (Or.inl rfl) vi (fun _ => b29_28 hP2 (t := 5) (s := 47) (Or.inl rfl) (Or.inl rfl) vi vi vi (Or.inr rfl) (Bk.i (b148_25 hP (fun _ => b148_30 hP (c27 (Bk.v (b148_37 hP (Or.inr rfl) (K _ _ ?_))))) (fun z => absurd z (by decide))))) (fun z => absurd (by rw [ci, h3, hR]) z))
      rw [ci]
      have hzi : 68 + i ∈ zC := by
        have : ∀ i < 2, 68 + i ∈ zC := by decide
        exact this i hi2
      have e1 : va_cpy (mem (68 + i)) (mem (47 + 1)) 0 0 121 = mem (68 + i) := xuA_cpy (fun j hj => by rw [hZ 48 (by decide) j hj, hZ _ hzi j hj])
      rw [e1]
      generalize hM1 : xuA mem (47 + 1) (mem (68 + i)) = M1
      have a1 : ∀ c, c ≠ 48 → M1 c = mem c := fun c hc => by rw [← hM1, xuA_ne hc]
      have M1a : M1 48 = mem (68 + i) := by rw [← hM1]; exact xuA_at
      generalize hM2 : xuA M1 (5 + 3) _ = M2
      have a2 : ∀ c, c ≠ 8 → M2 c = M1 c := fun c hc => by rw [← hM2, xuA_ne hc]
      have M2a : ∀ p, p < 8 → M2 8 p = mem (71 + i) p := fun p hp => by
        rw [← hM2]
        show xuA M1 8 _ 8 p = _
        rw [xuA_at, cpy_lt hp, a1 _ (by omega)]
      generalize hM3 : xuA M2 (5 + 1) _ = M3
      have a3 : ∀ c, c ≠ 6 → M3 c = M2 c := fun c hc => by rw [← hM3, xuA_ne hc]
      have M3a : ∀ q, q < 4 → M3 6 q = mem (74 + i) q := fun q hq => by
        rw [← hM3]
        show xuA M2 6 _ 6 q = _
        rw [xuA_at, cpy_lt hq, a2 _ (by omega), a1 _ (by omega)]
      generalize hm1 : xu2 M3 55 0 (nI 0) = m1
      have g1 : Ag [48, 8, 6, 55] mem m1 := fun c hc => by
        simp only [List.mem_cons, List.not_mem_nil, or_false, not_or] at hc
        rw [← hm1, xu2_ne hc.2.2.2, a3 c hc.2.2.1, a2 c hc.2.1, a1 c hc.1]
      have e48 : m1 48 = mem (68 + i) := by rw [← hm1, xu2_ne (by decide), a3 48 (by decide), a2 48 (by decide), M1a]
      have e8 : ∀ p, p < 8 → m1 8 p = mem (71 + i) p := fun p hp => by rw [← hm1, xu2_ne (by decide), a3 8 (by decide)]; exact M2a p hp
      have e6 : ∀ q, q < 4 → m1 6 q = mem (74 + i) q := fun q hq => by rw [← hm1, xu2_ne (by decide)]; exact M3a q hq
      have e55 : m1 55 = upd (mem 55) 0 (nI 0) := by rw [← hm1, xu2_eq, a3 55 (by decide), a2 55 (by decide), a1 55 (by decide)]
      intro Q2 k2
      have g1M := Ag.M g1 (by decide)
      have fb : ∀ c, c ∉ [48, 8, 6, 55] → c ≠ 108 → xu2 m1 108 20 (nI 0) c = mem c := fun c h1 h2 => by rw [xu2_ne h2, g1 c h1]
      refine c_in rfl rfl rfl fun P hP => b234_0 hP (c158r (a := 0) (b := 1) (by decide) (by decide) (fun q => absurd rfl (q i (Nat.zero_le _) hi)) (fun _ _ _ _ => Bk.i (b234_11 hP (fun z => absurd z (by decide)) (fun _ => b234_14 hP vi (fun z => ?_) (fun _ => b234_23 hP vi (fun _ => b234_38 hP ?_) (fun z => absurd ?_ z))))))
      · rw [ci, fb 142 (by decide) (by decide), h1] at z
        exact absurd z (by decide)
      · rw [nI_mul]
        refine c192 (k := 133 * i) (np := 266) (Or.inr (Or.inr (Or.inr rfl))) rfl (by omega) (by decide) hN8 (by rw [e20 (by decide), g1 108 (by decide), hN2]) (by rw [fb 141 (by decide) (by decide)]; exact l1) fun m3 a3 v3 => Bk.v (b234_53 hP ?_)
        rw [nI_add]
        have f108 : ∀ m, AgM [111, 109] [] m3 m → m 108 2 = nI n' ∧ m 108 0 = nI r' := fun m a => by
          refine ⟨?_, ?_⟩
          · rw [a.2 2 (by simp), a3.2 2 (by decide), e20 (by decide), g1 108 (by decide), hN2]
          · rw [a.2 0 (by simp), a3.2 0 (by decide), e20 (by decide), g1 108 (by decide), hR2]
        have f141 : ∀ m, AgM [111, 109] [] m3 m → m 141 = mem 141 := fun m a => by rw [a.1 141 (by decide) (by decide), a3.1 141 (by decide) (by decide), fb 141 (by decide) (by decide)]
        have key := xloop (N := n') (G := fun j => ∀ m', AgM [111, 109] [] m3 m' → m' 109 = m3 109 → (∀ p, p < j → m' 111 p = mem (71 + i) p) → P 58 [.ref 108, .int (nI i), .int (nI (133 * i + 121)), .int (nI j)] [] (0, 0) (LAY, RFu r, m')) ?_ ?_
        · exact key m3 AgM.rfl' rfl (fun p hp => absurd hp (Nat.not_lt_zero p))
        · intro m4 a4 _ s4
          refine b234_58 hP (fun _ => b234_95 hP ?_) (fun z => absurd (by rw [(f108 m4 a4).1]; exact Int32.le_refl _) z)
          have key2 := xloop (N := r') (G := fun j => ∀ m', AgM [111, 109] [] m3 m' → (∀ p, p < n' → m' 111 p = mem (71 + i) p) → (∀ q, q < j → m' 109 q = mem 141 (133 * i + 129 + q)) → P 97 [.ref 108, .int (nI i), .int (nI (133 * i + 121)), .int (nI j)] [] (0, 0) (LAY, RFu r, m')) ?_ ?_
          · exact key2 m4 a4 s4 (fun p hp => absurd hp (Nat.not_lt_zero p))
          · intro m5 a5 s5 q5
            refine b234_97 hP (fun _ => b234_128 hP (Or.inr rfl) (k2 _ _ (kEnd (N := n') (R := r') ?_ hB))) (fun z => absurd (by rw [(f108 m5 a5).2]; exact Int32.le_refl _) z)
            generalize hm6 : xu2 m5 108 37 (nI 0) = m6
            have g2 : AgM ([111, 109] ++ mvC) [20, 15, 37] m1 m6 := by
              rw [← hm6]
              exact (((th20.mono (by simp) (by simp)).trans (a3.mono (fun _ h => List.mem_append_right _ h) (by simp))).trans (a5.mono (by simp) (by simp))).us (by simp)
            have w111 : m6 111 = m5 111 := by rw [← hm6, xu2_ne (by decide)]
            have w109 : m6 109 = m5 109 := by rw [← hm6, xu2_ne (by decide)]
            have f48 : m6 48 = mem (68 + i) := by rw [g2.1 48 (by decide) (by decide), e48]
            have f55 : m6 55 = upd (mem 55) 0 (nI 0) := by rw [g2.1 55 (by decide) (by decide), e55]
            obtain ⟨u, fr, -, -, u3, u4, -, -⟩ := h.2.2.2.2.1
            have hmv : MV m6 n' (mem (68 + i)) := by
              rw [← hm6]
              exact (v3.ag a5 (by decide) (by simp)).ag ((AgM.rfl' (W := []) (V := [37])).us (by simp)) (by simp) (by decide)
            refine ⟨kTx h g1 g2 (by decide), kRw h g1 g2 (by decide), RTo_of (p0.mv (dj_eqs g1 g2 (by decide))) (fun x hx => ?_) (fun p hp => ?_) (ppl.mv (dj_eqs g1 g2 (by decide))) (psh.mv (dj_eqs g1 g2 (by decide))) (pr0.mv (by decide) (dj_eqs g1 g2 (by decide))) (pr1.mv (by decide) (dj_eqs g1 g2 (by decide))), ⟨by rw [f48]; exact hmv, by rw [f48]; exact l2⟩, RUn_0 (fr := fr) (by rw [f55, upd_at]) (by rw [f55, upd_ne (by decide), u3]) u4 (by rw [← hm6, xu2_eq, upd_at]), kOl h g1 g2 (by decide), kKe h g1 g2 (by decide), hZ.mv fun c hc => ?_⟩
            · obtain ⟨hh, y1, y2, y3⟩ := l4 x hx
              refine ⟨hh, y1, by rw [g2.1 6 (by decide) (by decide), e6 x hx, y2], fun hxr => ?_⟩
              rw [w109, q5 x hxr, y3 hxr]
            · obtain ⟨y1, y2⟩ := l3 p hp
              refine ⟨?_, ?_, ?_⟩
              · rw [g2.1 7 (by decide) (by decide), g2.1 110 (by decide) (by decide), g1 7 (by decide), g1 110 (by decide)]
                exact (ppe p hp).1
              · rw [w111, s5 p hp, g2.1 8 (by decide) (by decide), e8 p (by omega)]
              · rw [g2.1 8 (by decide) (by decide), e8 p (by omega)]; exact y2
            · have : ∀ c ∈ zC, c = 48 ∨ (c ∉ [48, 8, 6, 55] ∧ c ≠ 108 ∧ c ∉ [111, 109] ++ mvC) := by decide
              rcases this c hc with q | ⟨q1, q2, q3⟩
              · rw [q, f48]; exact Or.inr (hZ _ hzi)
              · exact Or.inl (by rw [g2.1 c q3 q2, g1 c q1])
          · intro j hj ih m5 a5 s5 q5
            refine b234_97 hP (fun z => absurd z (by rw [(f108 m5 a5).2]; exact nI_ge hj (by omega))) (fun _ => b234_105 hP (by rw [nI_add, nI_add]; exact vpn (by omega) (by decide)) (vpn (by omega) (by decide)) ?_)
            rw [nIs, nI_add, nI_add, nIc (by omega), nIc (by omega), f141 m5 a5]
            refine ih _ (a5.u2 (by simp) (by decide)) (fun p hp => by rw [xu2_ne (by decide)]; exact s5 p hp) (fun q hq => ?_)
            rw [xu2_eq]
            by_cases w : q = j
            · rw [w, upd_at, show 133 * i + 121 + 8 + j = 133 * i + 129 + j by omega]
            · rw [upd_ne w]; exact q5 q (by omega)
        · intro j hj ih m4 a4 w4 s4
          have fin : ∀ y, xNar 15 y = mem (71 + i) j → P 88 [.ref 108, .int (nI i), .int (nI (133 * i + 121)), .int (nI j)] [.int y, .int (nI j), .ref 111] (0, 0) (LAY, RFu r, m4) := fun y hy => by
            refine b234_88 hP (vpn (by omega) (by decide)) ?_
            rw [nIs, nIc (by omega), hy]
            refine ih _ (a4.u2 (by simp) (by decide)) (by rw [xu2_ne (by decide)]; exact w4) (fun p hp => ?_)
            rw [xu2_eq]
            by_cases w : p = j
            · rw [w, upd_at]
            · rw [upd_ne w]; exact s4 p (by omega)
          obtain ⟨y1, y2⟩ := l3 j hj
          refine b234_58 hP (fun z => absurd z (by rw [(f108 m4 a4).1]; exact nI_ge hj (by omega))) (fun _ => b234_66 hP (by rw [nI_add]; exact vpn (by omega) (by decide)) (fun z => b234_87 hP (fin _ ?_)) (fun z => b234_83 hP (fin _ ?_))) <;> rw [nI_add, nIc (by omega), f141 m4 a4, ← y1] at z
          · rw [y2.resolve_right (fun q => z (by rw [q]; rfl))]; decide
          · rw [z]; decide
      · rw [ci, fb 143 (by decide) (by decide), e20 (by decide), g1 108 (by decide), h4, h47, hkc]
    · have hno := no (Or.inr ⟨kc, h4, h5, hkc⟩)
      refine b29_0 hP2 (Or.inl rfl) (Or.inl rfl) vi (fun _ => out hno P2 hP2 _ _ _ _) (fun z => b29_13 hP2 (Or.inl rfl) (Or.inl rfl) vi (fun z2 => ?_) (fun _ => out hno P2 hP2 _ _ _ _))
      rw [ci, h2, hN] at z
      rw [ci, h3, hR] at z2
      exact absurd (h8.mpr ⟨nI_inj z (by omega) (by omega), nI_inj z2 (by omega) (by omega)⟩) hkc
end K
