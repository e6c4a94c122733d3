/-! count, lend, undo -/
theorem pose_out {N R B : Nat} {c : Nat → Int32} (h : SV N R B c) {x : Int32} (hx : x ≠ 0) : mkN (fun p => decide (c (8 + p) = x)) 8 = mkN (fun p => decide (c (8 + p) = x)) N := mkN_ext h.2.1 (fun p h1 h2 => by rw [(h.out h1 h2).2, decide_eq_false (fun q => hx q.symm)])
theorem c94 {d r t R : Nat} {mem : Nat → Nat → Int32} {Q : xQr} (ht : isTown t) (hR : mem t 0 = nI R) (hR4 : R ≤ 4) (k : Q (some (.int (sumI (mem (t + 1)) R))) (LAY, RFu r, mem)) : xCall (d + 1) 94 [.ref t] (LAY, RFu r, mem) Q := by
  refine c_in rfl rfl rfl fun P hP => b94_0 hP ht ?_
  refine xloop (N := R) (G := fun n => P 4 [.ref t, .int (sumI (mem (t + 1)) n), .int (nI n)] [] (0, 0) (LAY, RFu r, mem)) ?_ ?_
  · exact b94_4 hP ht (fun _ => b94_27 hP ht k) (fun h => absurd (by rw [hR]; exact Int32.le_refl _) h)
  · intro n hn ih
    refine b94_4 hP ht (fun h => absurd h (by rw [hR]; exact nI_ge hn (by omega))) (fun _ => b94_12 hP ht (vpn (by omega) (by decide)) ?_)
    rw [nIs, nIc (by omega)]
    exact ih
def cntV (mem : Nat → Nat → Int32) (N R : Nat) (z : Int) (v : Int32) : Prop :=
  (z = 0 → v = nI N) ∧ (z = 1 → v = nI R) ∧ (z = 2 → v = mem 48 120) ∧ (z = 3 → v = nI (mkN (fun p => decide (mem 48 (8 + p) = 2)) 8)) ∧ (z = 4 → v = nI (mkN (fun p => decide (mem 48 (8 + p) = 1)) 8)) ∧
  (z = 5 → v = mem 55 0) ∧ (z = 6 → v = mem 0 14) ∧ (z = 7 → v = mem 3 1) ∧ (z = 8 → v = mem 1 1) ∧ (z = 9 → v = sumI (mem 6) R) ∧ ((z < 0 ∨ 9 < z) → v = -1)
theorem tk_count (x : Int32) : Tk 149 235 [.int x] := by
  intro N R B r mem Q h hB K
  obtain ⟨p0, pch, -⟩ := RTo_parts h.2.2.1
  obtain ⟨hR, hR4, hN, hN8, hR2, hN2⟩ := id p0
  obtain ⟨hM, hS⟩ := h.2.2.2.1
  have fin : ∀ v, cntV mem N R x.toInt v → Q (some (.int v)) (LAY, RFu r, mem) := fun v hv => by
    refine K v mem ?_
    intro Q2 k2
    have k2 : Q2 (some (.int v)) (LAY, RFu r, xu2 mem 108 20 (nI 0)) := k2 _ _ (kEnd (kM20 h) hB)
    obtain ⟨v0, v1, v2, v3, v4, v5, v6, v7, v8, v9, vd⟩ := hv
    have hM1 : MV (xu2 mem 108 20 (nI 0)) N (mem 48) := hM.ag th20 (by simp) (by decide)
    have f2 : xu2 mem 108 20 (nI 0) 108 2 = nI N := by rw [e20 (by decide), hN2]
    have f0 : xu2 mem 108 20 (nI 0) 108 0 = nI R := by rw [e20 (by decide), hR2]
    refine c_in rfl rfl rfl fun P hP => b235_0 hP (fun z => b235_191 hP ?_) (fun z => b235_64 hP ?_) (fun z => b235_69 hP ?_) (fun z => b235_74 hP ?_) (fun z => b235_79 hP ?_) (fun z => b235_108 hP ?_) (fun z => b235_144 hP ?_) (fun z => b235_149 hP ?_) (fun z => b235_154 hP ?_) (fun z => b235_159 hP ?_) (fun z => b235_164 hP ?_)
    · rw [vd z] at k2; exact k2
    · rw [v0 z] at k2; rw [f2]; exact k2
    · rw [v1 z] at k2; rw [f0]; exact k2
    · rw [v2 z] at k2; rw [e20 (by decide), hM.2.2]; exact k2
    · rw [v3 z, pose_out hS i20] at k2
      refine xloop (N := N) (G := fun n => P 81 [.ref 108, .int x, .int (nI (mkN (fun p => decide (mem 48 (8 + p) = 2)) n)), .int (nI n)] [] (0, 0) (LAY, RFu r, xu2 mem 108 20 (nI 0))) ?_ ?_
      · exact b235_81 hP (fun _ => b235_106 hP k2) (fun z => absurd (by rw [f2]; exact Int32.le_refl _) z)
      · intro n hn ih
        refine b235_81 hP (fun z => absurd z (by rw [f2]; exact nI_ge hn (by omega))) (fun _ => b235_89 hP (vpn (by omega) (by decide)) ?_)
        rw [nIs, nIc (by omega), (hM1.1 n hn).2.1]
        rw [← mk_b (by omega)] at ih
        rw [fin_b (q := decide (mem 48 (8 + n) = 2) = true) (by simp)]
        exact ih
    · rw [v4 z, pose_out hS i10] at k2
      refine xloop (N := N) (G := fun n => P 110 [.ref 108, .int x, .int (nI (mkN (fun p => decide (mem 48 (8 + p) = 1)) n)), .int (nI n)] [] (0, 0) (LAY, RFu r, xu2 mem 108 20 (nI 0))) ?_ ?_
      · exact b235_110 hP (fun _ => b235_142 hP k2) (fun z => absurd (by rw [f2]; exact Int32.le_refl _) z)
      · intro n hn ih
        refine b235_110 hP (fun z => absurd z (by rw [f2]; exact nI_ge hn (by omega))) (fun _ => b235_118 hP (c193 hM1 hS.1 hn hN8 (Bk.i (b235_124 hP (fun z => b235_133 hP (b235_134 hP ?_)) (fun z => b235_127 hP (b235_134 hP ?_))))))
        · rw [nIs, show nI 0 = 0 from rfl, Int32.or_zero]
          rw [mk_f (by simp [b01_0.mp z])] at ih
          exact ih
        · rw [nIs, mk_t (by omega) (by simp [Decidable.by_contra fun q => z (b01_f q)])]
          exact ih
    · obtain ⟨u, fr, e1, -, -, -, e2, -⟩ := h.2.2.2.2.1
      rw [v5 z, e1] at k2; rw [e20 (by decide), e2]; exact k2
    · obtain ⟨T, hT, e1, e2, e3⟩ := h.2.2.2.2.2.1
      rw [v6 z, e1] at k2; rw [e20 (by decide), e2]; exact k2
    · obtain ⟨xs, ⟨-, e1, -⟩, e2, -⟩ := h.2.1
      rw [v7 z, e1] at k2; rw [e20 (by decide), e2]; exact k2
    · obtain ⟨len, tx, ⟨a1, -⟩, b1, -⟩ := h.1
      rw [v8 z, a1] at k2; rw [e20 (by decide), b1]; exact k2
    · rw [v9 z] at k2
      refine xloop (N := R) (G := fun n => P 166 [.ref 108, .int x, .int (sumI (mem 6) n), .int (nI n)] [] (0, 0) (LAY, RFu r, xu2 mem 108 20 (nI 0))) ?_ ?_
      · exact b235_166 hP (fun _ => b235_189 hP k2) (fun z => absurd (by rw [f0]; exact Int32.le_refl _) z)
      · intro n hn ih
        obtain ⟨hh, -, q2, q3⟩ := pch n (by omega)
        refine b235_166 hP (fun z => absurd z (by rw [f0]; exact nI_ge hn (by omega))) (fun _ => b235_174 hP (vpn (by omega) (by decide)) ?_)
        rw [nIs, nIc (by omega), xu2_ne (by decide), q3 hn, ← q2]
        exact ih
  have go : ∀ i : Int, ∀ v, x.toInt = i → (∀ z, z = i → cntV mem N R z v) → Q (some (.int v)) (LAY, RFu r, mem) := fun i v hi hv => fin v (hv _ hi)
  refine c_in rfl rfl rfl fun P hP => b149_0 hP (fun z => b149_138 hP (fin _ ?_)) (fun z => b149_56 hP ?_) (fun z => b149_64 hP ?_) (fun z => b149_72 hP (vpn (by decide) (by decide)) ?_) (fun z => b149_83 hP (c62 (Or.inl rfl) (Bk.i (b149_91 hP (fin _ ?_))))) (fun z => b149_92 hP (c62 (Or.inl rfl) (Bk.i (b149_100 hP (fin _ ?_))))) (fun z => b149_101 hP (fin _ ?_)) (fun z => b149_109 hP (fin _ ?_)) (fun z => b149_114 hP (fin _ ?_)) (fun z => b149_122 hP (fin _ ?_)) (fun z => b149_130 hP (c94 (Or.inl rfl) hR hR4 (Bk.i (b149_137 hP (fin _ ?_)))))
  · exact ⟨fun q => absurd q (by omega), fun q => absurd q (by omega), fun q => absurd q (by omega), fun q => absurd q (by omega), fun q => absurd q (by omega), fun q => absurd q (by omega), fun q => absurd q (by omega), fun q => absurd q (by omega), fun q => absurd q (by omega), fun q => absurd q (by omega), fun _ => rfl⟩
  · rw [hN]; exact fin _ ⟨fun _ => rfl, fun q => absurd q (by omega), fun q => absurd q (by omega), fun q => absurd q (by omega), fun q => absurd q (by omega), fun q => absurd q (by omega), fun q => absurd q (by omega), fun q => absurd q (by omega), fun q => absurd q (by omega), fun q => absurd q (by omega), fun q => absurd q (by omega)⟩
  · rw [hR]; exact fin _ ⟨fun q => absurd q (by omega), fun _ => rfl, fun q => absurd q (by omega), fun q => absurd q (by omega), fun q => absurd q (by omega), fun q => absurd q (by omega), fun q => absurd q (by omega), fun q => absurd q (by omega), fun q => absurd q (by omega), fun q => absurd q (by omega), fun q => absurd q (by omega)⟩
  · rw [nIc (by decide)]; exact fin _ ⟨fun q => absurd q (by omega), fun q => absurd q (by omega), fun _ => rfl, fun q => absurd q (by omega), fun q => absurd q (by omega), fun q => absurd q (by omega), fun q => absurd q (by omega), fun q => absurd q (by omega), fun q => absurd q (by omega), fun q => absurd q (by omega), fun q => absurd q (by omega)⟩
  · exact ⟨fun q => absurd q (by omega), fun q => absurd q (by omega), fun q => absurd q (by omega), fun _ => rfl, fun q => absurd q (by omega), fun q => absurd q (by omega), fun q => absurd q (by omega), fun q => absurd q (by omega), fun q => absurd q (by omega), fun q => absurd q (by omega), fun q => absurd q (by omega)⟩
  · exact ⟨fun q => absurd q (by omega), fun q => absurd q (by omega), fun q => absurd q (by omega), fun q => absurd q (by omega), fun _ => rfl, fun q => absurd q (by omega), fun q => absurd q (by omega), fun q => absurd q (by omega), fun q => absurd q (by omega), fun q => absurd q (by omega), fun q => absurd q (by omega)⟩
  · exact ⟨fun q => absurd q (by omega), fun q => absurd q (by omega), fun q => absurd q (by omega), fun q => absurd q (by omega), fun q => absurd q (by omega), fun _ => rfl, fun q => absurd q (by omega), fun q => absurd q (by omega), fun q => absurd q (by omega), fun q => absurd q (by omega), fun q => absurd q (by omega)⟩
  · exact ⟨fun q => absurd q (by omega), fun q => absurd q (by omega), fun q => absurd q (by omega), fun q => absurd q (by omega), fun q => absurd q (by omega), fun q => absurd q (by omega), fun _ => rfl, fun q => absurd q (by omega), fun q => absurd q (by omega), fun q => absurd q (by omega), fun q => absurd q (by omega)⟩
  · exact ⟨fun q => absurd q (by omega), fun q => absurd q (by omega), fun q => absurd q (by omega), fun q => absurd q (by omega), fun q => absurd q (by omega), fun q => absurd q (by omega), fun q => absurd q (by omega), fun _ => rfl, fun q => absurd q (by omega), fun q => absurd q (by omega), fun q => absurd q (by omega)⟩
  · exact ⟨fun q => absurd q (by omega), fun q => absurd q (by omega), fun q => absurd q (by omega), fun q => absurd q (by omega), fun q => absurd q (by omega), fun q => absurd q (by omega), fun q => absurd q (by omega), fun q => absurd q (by omega), fun _ => rfl, fun q => absurd q (by omega), fun q => absurd q (by omega)⟩
  · exact ⟨fun q => absurd q (by omega), fun q => absurd q (by omega), fun q => absurd q (by omega), fun q => absurd q (by omega), fun q => absurd q (by omega), fun q => absurd q (by omega), fun q => absurd q (by omega), fun q => absurd q (by omega), fun q => absurd q (by omega), fun _ => rfl, fun q => absurd q (by omega)⟩
/-- credits changed -/
theorem SV_cred {N R B B' : Nat} {c c' : Nat → Int32} (h : SV N R B c) (e : ∀ i, i < 48 ∨ 56 ≤ i → c' i = c i) (h0 : ∀ p, N ≤ p → p < 8 → c' (48 + p) = 0) (hC : CB B' c') (hB : B ≤ B') : SV N R B' c' := by
  obtain ⟨h1, h2, h3, h4, h5, h6, ⟨now, h7, h7'⟩, h8, h9⟩ := h
  refine ⟨fun p hp => ?_, h2, fun p hp => ?_, fun p hp hp8 => ⟨?_, fun t t1 t2 => ?_⟩, fun x y hx hy q => ?_, fun i hi => ?_, ⟨now, by omega, by rw [e 120 (by omega), h7']⟩, fun p hp => ?_, hC⟩
  · rw [e p (by omega), e (8 + p) (by omega)]; exact h1 p hp
  · rw [e p (by omega)]; exact h3 p hp
  · rw [e p (by omega)]; exact (h4 p hp hp8).1
  · by_cases q : t = 6
    · subst q; exact h0 p hp hp8
    · rw [e (8 * t + p) (by omega)]; exact (h4 p hp hp8).2 t t1 t2
  · rw [e _ (by omega)]; exact h5 x y hx hy q
  · rw [e i (by omega)]; exact h6 i hi
  · obtain ⟨s, t, q1, q2, q3⟩ := h8 p hp
    rw [e (16 + p) (by omega), e (24 + p) (by omega), e (8 + p) (by omega)]
    exact ⟨s, t, by omega, by omega, q3⟩
theorem MV_cred {m m' : Nat → Nat → Int32} {N : Nat} {c c' : Nat → Int32} (h : MV m N c) (hN : N ≤ 8) (e : ∀ i, i < 48 ∨ 56 ≤ i → c' i = c i) (g : m' 114 = m 114 ∧ m' 115 = m 115 ∧ m' 116 = m 116 ∧ m' 117 = m 117 ∧ m' 118 = m 118 ∧ m' 119 = m 119 ∧ m' 121 = m 121 ∧ m' 108 15 = m 108 15) (hc : ∀ p, p < N → m' 120 p = c' (48 + p)) : MV m' N c' := by
  obtain ⟨g1, g2, g3, g4, g5, g6, g7, g8⟩ := g
  obtain ⟨h1, h2, h3⟩ := h
  refine ⟨fun p hp => ?_, fun x hx => ?_, ?_⟩
  · obtain ⟨q1, q2, q3, q4, q5, q6, -⟩ := h1 p hp
    rw [g1, g2, g3, g4, g5, g6, e p (by omega), e (8 + p) (by omega), e (16 + p) (by omega), e (24 + p) (by omega), e (32 + p) (by omega), e (40 + p) (by omega)]
    exact ⟨q1, q2, q3, q4, q5, q6, hc p hp⟩
  · rw [g7, e _ (by omega)]; exact h2 x hx
  · rw [g8, e _ (by omega)]; exact h3
theorem RUn_0 {m : Nat → Nat → Int32} {N R B fr : Nat} (h1 : m 55 0 = nI 0) (h2 : m 55 2 = nI fr) (h3 : fr < 10) (h4 : m 108 37 = nI 0) : RUn m N R B := ⟨0, fr, h1, by decide, h2, h3, h4, fun k hk => absurd hk (Nat.not_lt_zero k)⟩
theorem c27 {d r : Nat} {mem : Nat → Nat → Int32} {Q : xQr} (k : Q none (LAY, RFu r, xu2 mem 55 0 (nI 0))) : xCall (d + 1) 27 [.ref 55] (LAY, RFu r, mem) Q := c_in rfl rfl rfl fun P hP => b27_0 hP k
/-- lend, at any place: what the class does, and what the reference does behind it -/
theorem tk_lend (x y w : Int32) {N R B r : Nat} {mem : Nat → Nat → Int32} {Q : xQr} {d : Nat} (h : RRc mem N R B) (hB : B + 999 < 500000000)
    (K : ∀ v m1, (v = nI 0 ∨ v = nI 1) → (∀ (d2 : Nat) (Q2 : xQr), (∀ r2 mem2, RRc mem2 N R (B + 999) → Q2 (some (.int v)) (LAY, RFu r2, mem2)) → xCall (d2 + 5) 207 [.ref 108, .int x, .int y, .int w] (LAY, RFu r, m1) Q2) → Q (some (.int v)) (LAY, RFu r, m1)) : xCall (d + 5) 122 [.ref 0, .int x, .int y, .int w] (LAY, RFu r, mem) Q := by
  obtain ⟨hR, hR4, hN, hN8, hR2, hN2⟩ := (RTo_parts h.2.2.1).1
  obtain ⟨hM, hS⟩ := h.2.2.2.1
  have no : ((∀ a b, ¬ TwoP N x y a b) ∨ (∀ n, 1 ≤ n → n ≤ 999 → w ≠ nI n)) → Q (some (.int (nI 0))) (LAY, RFu r, mem) := fun hno => by
    refine K _ _ (Or.inl rfl) ?_
    intro d2 Q2 k2
    refine c_in rfl rfl rfl fun P hP => ?_
    have f : ∀ v0 v1 v2 v3, P 25 [v0, v1, v2, v3] [] (0, 0) (LAY, RFu r, xu2 mem 108 20 (nI 0)) := fun v0 v1 v2 v3 => b207_25 hP (Or.inl rfl) (k2 _ _ ((kM20 h).mono (by omega)))
    refine b207_0 hP (c163 (N := N) (by rw [e20 (by decide), hN2]) (by omega) (fun _ => Bk.i (b207_11 hP (fun _ => f _ _ _ _) (fun z => absurd rfl z))) (fun a b hab => Bk.i (b207_11 hP (fun z => absurd z (by decide)) (fun _ => b207_14 hP (c158r (a := 1) (b := 999) (by decide) (by decide) (fun _ => Bk.i (b207_22 hP (fun z => absurd rfl z) (fun _ => f _ _ _ _))) (fun n hn1 hn2 en => ?_))))))
    rcases hno with q | q
    · exact absurd hab (q a b)
    · exact absurd en (q n hn1 hn2)
  refine c_in rfl rfl rfl fun P hP => b122_0 hP (c152 hN (by omega) (fun hp => Bk.i (b122_6 hP (fun _ => b122_20 hP (Or.inl rfl) (no (Or.inl hp))) (fun z => absurd rfl z))) (fun a b hab => Bk.i (b122_6 hP (fun z => absurd z (by decide)) (fun _ => b122_9 hP (c151 (a := 1) (b := 999) (by decide) (by decide) (fun hs => Bk.i (b122_17 hP (fun z => absurd rfl z) (fun _ => b122_20 hP (Or.inl rfl) (no (Or.inr hs))))) (fun n hn1 hn2 en => Bk.i (b122_17 hP (fun _ => b122_22 hP ?_) (fun z => absurd z (by decide)))))))))
  obtain ⟨ha, hb, hne, rfl, rfl⟩ := id hab
  subst en
  refine c68 (Or.inl rfl) (by omega) (by omega) hne fun m0 a0 e0 => Bk.v (b122_32 hP (c27 (Bk.v (b122_39 hP (Or.inr rfl) (K _ _ (Or.inr rfl) ?_)))))
  intro d2 Q2 k2
  generalize hm1 : xu2 m0 55 0 (nI 0) = m1
  have g1 : Ag [48, 55] mem m1 := by rw [← hm1]; exact (a0.mono (by decide)).u2 (by simp)
  have f2 : xu2 m1 108 20 (nI 0) 108 2 = nI N := by rw [e20 (by decide), g1 108 (by decide), hN2]
  refine c_in rfl rfl rfl fun P hP => b207_0 hP (c163 (N := N) f2 (by omega) (fun q => absurd hab (q a b)) (fun a' b' _ => Bk.i (b207_11 hP (fun z => absurd z (by decide)) (fun _ => b207_14 hP (c158r (a := 1) (b := 999) (by decide) (by decide) (fun q => absurd rfl (q n hn1 hn2)) (fun n' _ _ _ => Bk.i (b207_22 hP (fun _ => b207_27 hP (vpn (by omega) (by decide)) (vpn (by omega) (by decide)) (vpn (by omega) (by decide)) (vpn (by omega) (by decide)) (Or.inr rfl) ?_) (fun z => absurd z (by decide)))))))))
  have hM1 : MV (xu2 m1 108 20 (nI 0)) N (mem 48) := (hM.eqs (g1.eqs (by decide) (by decide))).ag th20 (by simp) (by decide)
  rw [nIc (by omega), nIc (by omega)]
  generalize hc' : upd (upd (mem 48) (48 + a) (mem 48 (48 + a) + nI n)) (48 + b) (mem 48 (48 + b) - nI n) = c' at e0
  have ec : ∀ i, i < 48 ∨ 56 ≤ i → c' i = mem 48 i := fun i hi => by rw [← hc', upd_ne (by omega), upd_ne (by omega)]
  have ec2 : ∀ p, p < 8 → c' (48 + p) = if p = a then mem 48 (48 + a) + nI n else if p = b then mem 48 (48 + b) - nI n else mem 48 (48 + p) := fun p hp => by
    rw [← hc']
    by_cases q : p = a
    · subst q; rw [if_pos rfl, upd_ne (by omega), upd_at]
    · rw [if_neg q]
      by_cases q2 : p = b
      · subst q2; rw [if_pos rfl, upd_at]
      · rw [if_neg q2, upd_ne (by omega), upd_ne (by omega)]
  generalize hm2 : xu2 (xu2 (xu2 (xu2 m1 108 20 (nI 0)) 120 a _) 120 b _) 108 37 (nI 0) = m2
  have g2 : AgM [120] [20, 37] m1 m2 := by rw [← hm2]; exact (((AgM.rfl'.us (by simp)).u2 (by simp) (by decide)).u2 (by simp) (by decide)).us (by simp)
  have e48 : m2 48 = c' := by rw [g2.1 48 (by simp) (by decide), ← hm1, xu2_ne (by decide)]; exact e0
  have e55 : m2 55 = upd (mem 55) 0 (nI 0) := by rw [g2.1 55 (by simp) (by decide), ← hm1, xu2_eq, a0 55 (by decide)]
  obtain ⟨u, fr, -, -, u3, u4, -, -⟩ := h.2.2.2.2.1
  refine k2 _ _ ?_
  refine RRc.mono (B := B + n) ⟨kTx h g1 g2 (by decide), kRw h g1 g2 (by decide), kTo h g1 g2 (by decide), ⟨?_, ?_⟩, RUn_0 (fr := fr) (by rw [e55, upd_at]) (by rw [e55, upd_ne (by decide), u3]) u4 (by rw [← hm2, xu2_eq, upd_at]), kOl h g1 g2 (by decide), (kKe h g1 g2 (by decide)).mono (by omega), h.2.2.2.2.2.2.2.mv fun x hx => ?_⟩ (by omega)
  · rw [e48]
    refine MV_cred (hM.eqs (g1.eqs (by decide) (by decide))) hN8 ec ⟨g2.1 _ (by simp) (by decide), g2.1 _ (by simp) (by decide), g2.1 _ (by simp) (by decide), g2.1 _ (by simp) (by decide), g2.1 _ (by simp) (by decide), g2.1 _ (by simp) (by decide), g2.1 _ (by simp) (by decide), g2.2 15 (by decide)⟩ (fun p hp => ?_)
    rw [ec2 p (by omega), ← hm2, xu2_ne (by decide), xu2_eq, xu2_eq]
    have e120 : ∀ p, p < N → xu2 m1 108 20 (nI 0) 120 p = mem 48 (48 + p) := fun p hp => (hM1.1 p hp).2.2.2.2.2.2
    by_cases q : p = a
    · subst q
      rw [if_pos rfl, upd_ne hne, upd_at, e120 p hp]
    · rw [if_neg q]
      by_cases q2 : p = b
      · subst q2
        rw [if_pos rfl, upd_at, upd_ne q, e120 p hp]
      · rw [if_neg q2, upd_ne q2, upd_ne q, e120 p hp]
  · rw [e48]
    exact SV_cred hS ec (fun p h1 h2 => by rw [ec2 p h2, if_neg (by omega), if_neg (by omega)]; exact (hS.2.2.2.1 p h1 h2).2 6 (by decide) (by decide)) (hS.2.2.2.2.2.2.2.2.pay (by omega) (by omega) hne (nI_toInt (by omega)) (by omega) ec2) (by omega)
  · by_cases q : x = 48
    · refine Or.inr fun i hi => ?_
      rw [q, e48, ec i (by omega)]
      exact hS.2.2.2.2.2.1 i hi
    · refine Or.inl ?_
      have : ∀ x ∈ zC, x ≠ 55 ∧ x ≠ 108 ∧ x ≠ 120 := by decide
      obtain ⟨y1, y2, y3⟩ := this x hx
      rw [g2.1 x (by simpa using y3) y2, g1 x (by simp; exact ⟨q, y1⟩)]
theorem tk_lend' (x y w : Int32) : Tk 122 207 [.int x, .int y, .int w] := by
  intro N R B r mem Q h hB K
  refine tk_lend x y w (d := 295) h (by omega) fun v m1 _ k => K v m1 ?_
  intro Q2 k2
  exact k 295 Q2 fun r2 mem2 h2 => k2 r2 mem2 (kEnd2 h2 (by omega) hB)
