/-! small calls -/
theorem pw {n : Nat} (h : n < 2147483648) : ¬ nI n < 0 := fun q => nI_pos h q
theorem tk_end (x : Int32) : Tk 99 166 [.int x] := by
  intro N R B r mem Q h hB K
  obtain ⟨⟨len, tx, ⟨a1, a2, a3⟩, b1, b2, b3⟩, -⟩ := id h
  refine c_in rfl rfl rfl fun P hP => b99_0 hP (c_in rfl rfl rfl fun P2 hP2 => ?_)
  by_cases q : ∃ n, 0 ≤ n ∧ n ≤ len ∧ x = nI n
  · obtain ⟨n, -, hn, rfl⟩ := q
    refine b72_0 hP2 (fun z => absurd z (pw (by omega))) (fun _ => b72_4 hP2 (fun _ => b72_14 hP2 (Or.inr rfl) (Bk.i (b99_8 hP (Or.inr rfl) (K _ _ ?_)))) (fun z => absurd (by rw [a1]; exact nI_le hn (by omega)) z))
    intro Q2 k2
    refine c_in rfl rfl rfl fun P hP => b166_0 hP ?_
    rw [e20 (by decide), xu2_ne (by decide), b1]
    refine c158r (a := 0) (b := len) (by decide) (by omega) (fun z => absurd rfl (z n (Nat.zero_le n) hn)) (fun n' _ _ e => Bk.i (b166_14 hP (fun _ => b166_19 hP (Or.inr rfl) (k2 _ _ (kEnd (N := N) (R := R) ?_ hB))) (fun z => absurd z (by decide))))
    have g1 : Ag [1] mem (xu2 mem 1 1 (nI n)) := Ag.rfl'.u2 (by simp)
    have g2 : AgM [] [17, 20] (xu2 mem 1 1 (nI n)) (xu2 (xu2 (xu2 mem 1 1 (nI n)) 108 20 (nI 0)) 108 17 (nI n)) := (AgM.rfl'.us (by simp)).us (by simp)
    refine ⟨⟨n, tx, ⟨?_, by omega, fun i hi => ?_⟩, ?_, by omega, fun i hi => ?_⟩, kRw h g1 g2 (by decide), kTo h g1 g2 (by decide), kSt h g1 g2 (by decide), kUn h g1 g2 (by decide), kOl h g1 g2 (by decide), kKe h g1 g2 (by decide), kZe h g1 g2 (by decide)⟩
    · rw [xu2_ne (by decide), xu2_ne (by decide), xu2_eq, upd_at]
    · rw [xu2_ne (by decide), xu2_ne (by decide), xu2_ne (by decide)]; exact a3 i (by omega)
    · rw [xu2_eq, upd_at]
    · rw [xu2_ne (by decide), xu2_ne (by decide), xu2_ne (by decide)]; exact b3 i (by omega)
  · have no : ¬ (nI 0 ≤ x ∧ x ≤ nI len) := fun z => q ((rng (by decide) (by omega)).mp z)
    have fin : ∀ v0 v1, P2 12 [v0, v1] [] (0, 0) (LAY, RFu r, mem) := fun v0 v1 => by
      refine b72_12 hP2 (Or.inl rfl) (Bk.i (b99_8 hP (Or.inl rfl) (K _ _ ?_)))
      intro Q2 k2
      refine c_in rfl rfl rfl fun P hP => b166_0 hP ?_
      rw [e20 (by decide), b1]
      refine c158r (a := 0) (b := len) (by decide) (by omega) (fun _ => Bk.i (b166_14 hP (fun z => absurd rfl z) (fun _ => b166_17 hP (Or.inl rfl) (k2 _ _ (kEnd (kM20 h) hB))))) (fun n hn1 hn2 e => absurd ⟨n, hn1, hn2, e⟩ q)
    refine b72_0 hP2 (fun _ => fin _ _) (fun z => b72_4 hP2 (fun z2 => absurd ⟨Int32.not_lt.mp z, by rw [← a1]; exact z2⟩ no) (fun _ => fin _ _))
theorem tk_forget : Tk 138 226 [] := by
  intro N R B r mem Q h hB K
  obtain ⟨T, hT, e1, e2, e3⟩ := h.2.2.2.2.2.1
  refine c_in rfl rfl rfl fun P hP => b138_0 hP (K _ _ ?_)
  intro Q2 k2
  refine c_in rfl rfl rfl fun P hP => b226_0 hP ?_
  rw [e20 (by decide), xu2_ne (by decide), e2, ← e1]
  refine k2 _ _ (kEnd (N := N) (R := R) ?_ hB)
  have g1 : Ag [0] mem (xu2 mem 0 14 (nI 0)) := Ag.rfl'.u2 (by simp)
  have g2 : AgM [] [20, 45] (xu2 mem 0 14 (nI 0)) (xu2 (xu2 (xu2 mem 0 14 (nI 0)) 108 20 (nI 0)) 108 45 (nI 0)) := (AgM.rfl'.us (by simp)).us (by simp)
  exact ⟨kTx h g1 g2 (by decide), kRw h g1 g2 (by decide), kTo h g1 g2 (by decide), kSt h g1 g2 (by decide), kUn h g1 g2 (by decide), ⟨0, by decide, by rw [xu2_ne (by decide), xu2_ne (by decide), xu2_eq, upd_at], by rw [xu2_eq, upd_at], fun k hk => absurd hk (Nat.not_lt_zero k)⟩, kKe h g1 g2 (by decide), kZe h g1 g2 (by decide)⟩
theorem tk_told (x y : Int32) : Tk 137 225 [.int x, .int y] := by
  intro N R B r mem Q h hB K
  obtain ⟨T, hT, e1, e2, e3⟩ := h.2.2.2.2.2.1
  have h0 := (RTo_parts h.2.2.1).1
  obtain ⟨-, -, hN, hN8, -, hN2⟩ := h0
  have no : ((∀ p, p < N → x ≠ nI p) ∨ (∀ s, 0 ≤ s → s ≤ 100 → y ≠ nI s) ∨ T = 8) → Q (some (.int (-1))) (LAY, RFu r, mem) := fun hno => by
    refine K _ _ ?_
    intro Q2 k2
    have f : ∀ P : xPr, Cl 299 none 225 P Q2 → ∀ v0 v1 v2, P 32 [v0, v1, v2] [] (0, 0) (LAY, RFu r, xu2 mem 108 20 (nI 0)) := fun P hP v0 v1 v2 => b225_32 hP (k2 _ _ (kEnd (kM20 h) hB))
    refine c_in rfl rfl rfl fun P hP => b225_0 hP (c162 (N := N) (by rw [e20 (by decide), hN2]) (by omega) (fun _ => Bk.i (b225_10 hP (fun _ => f P hP _ _ _) (fun z => absurd rfl z))) (fun p hp ep => Bk.i (b225_10 hP (fun z => absurd z (by decide)) (fun _ => b225_13 hP (c158r (a := 0) (b := 100) (by decide) (by decide) (fun _ => Bk.i (b225_20 hP (fun _ => f P hP _ _ _) (fun z => absurd rfl z))) (fun s hs1 hs2 es => Bk.i (b225_20 hP (fun z => absurd z (by decide)) (fun _ => b225_23 hP (fun z => ?_) (fun _ => f P hP _ _ _)))))))))
    rcases hno with q | q | q
    · exact absurd ep (q p hp)
    · exact absurd es (q s hs1 hs2)
    · exact absurd (by rw [e20 (by decide), e2, q]) z
  refine c_in rfl rfl rfl fun P hP => b137_0 hP (c83 (Or.inl rfl) hN (by omega) (fun hp => Bk.i (b137_8 hP (fun _ => b137_30 hP (no (Or.inl hp))) (fun z => absurd rfl z))) (fun p hp ep => Bk.i (b137_8 hP (fun z => absurd z (by decide)) (fun _ => b137_11 hP (c151 (a := 0) (b := 100) (by decide) (by decide) (fun hs => Bk.i (b137_18 hP (fun _ => b137_30 hP (no (Or.inr (Or.inl hs)))) (fun z => absurd rfl z))) (fun s hs1 hs2 es => Bk.i (b137_18 hP (fun z => absurd z (by decide)) (fun _ => b137_21 hP (fun z => ?_) (fun z => b137_30 hP (no (Or.inr (Or.inr ?_))))))))))))
  · have hT8 : T < 8 := Nat.not_le.mp fun q => nI_nlt q (by omega) (by rw [← e1]; exact z)
    subst ep
    subst es
    refine b137_32 hP (by rw [e1]; exact vpn hT8 (by decide)) (by rw [xu2_ne (by decide), e1]; exact vpn hT8 (by decide)) ?_
    have f1 : ∀ a b, xu2 (xu2 mem 104 a (nI p)) 105 b (nI s) 0 14 = nI T := fun a b => by rw [xu2_ne (by decide), xu2_ne (by decide), e1]
    have f0 : xu2 mem 104 T (nI p) 0 14 = nI T := by rw [xu2_ne (by decide), e1]
    have tc : (nI T).toNatClampNeg = T := nIc (by omega)
    rw [e1, tc, f0, tc, f1, nIs, xu2_eq, upd_at]
    refine K _ _ ?_
    intro Q2 k2
    generalize hm1 : xu2 (xu2 (xu2 mem 104 T (nI p)) 105 T (nI s)) 0 14 (nI (T + 1)) = m1
    have g1 : Ag [0, 104, 105] mem m1 := by rw [← hm1]; exact ((Ag.rfl'.u2 (by simp)).u2 (by simp)).u2 (by simp)
    have n2 : m1 108 2 = nI N := by rw [g1 108 (by simp), hN2]
    have t2 : m1 108 45 = nI T := by rw [g1 108 (by simp), e2]
    refine c_in rfl rfl rfl fun P hP => b225_0 hP (c162 (N := N) (by rw [e20 (by decide), n2]) (by omega) (fun q => absurd rfl (q p hp)) (fun p' _ _ => Bk.i (b225_10 hP (fun z => absurd z (by decide)) (fun _ => b225_13 hP (c158r (a := 0) (b := 100) (by decide) (by decide) (fun q => absurd rfl (q s hs1 hs2)) (fun s' _ _ _ => Bk.i (b225_20 hP (fun z => absurd z (by decide)) (fun _ => b225_23 hP (fun _ => b225_34 hP (by rw [e20 (by decide), t2]; exact vpn hT8 (by decide)) (by rw [xu2_ne (by decide), e20 (by decide), t2]; exact vpn hT8 (by decide)) ?_) (fun z => ?_)))))))))
    · have f20 : xu2 m1 108 20 (nI 0) 108 45 = nI T := by rw [e20 (by decide), t2]
      have tc : (nI T).toNatClampNeg = T := nIc (by omega)
      have fa : xu2 (xu2 m1 108 20 (nI 0)) 138 T (nI p) 108 45 = nI T := by rw [xu2_ne (by decide), f20]
      have fb : xu2 (xu2 (xu2 m1 108 20 (nI 0)) 138 T (nI p)) 139 T (nI s) 108 45 = nI T := by rw [xu2_ne (by decide), fa]
      rw [f20, tc, fa, tc, fb, nIs, xu2_eq, upd_at]
      refine k2 _ _ (kEnd (N := N) (R := R) ?_ hB)
      generalize hm2 : xu2 (xu2 (xu2 (xu2 m1 108 20 (nI 0)) 138 T (nI p)) 139 T (nI s)) 108 45 (nI (T + 1)) = m2
      have g2 : AgM [138, 139] [20, 45] m1 m2 := by rw [← hm2]; exact (((AgM.rfl'.us (by simp)).u2 (by simp) (by decide)).u2 (by simp) (by decide)).us (by simp)
      refine ⟨kTx h g1 g2 (by decide), kRw h g1 g2 (by decide), kTo h g1 g2 (by decide), kSt h g1 g2 (by decide), kUn h g1 g2 (by decide), ⟨T + 1, by omega, by rw [g2.1 0 (by simp) (by decide), ← hm1, xu2_eq, upd_at], by rw [← hm2, xu2_eq, upd_at], fun k hk => ?_⟩, kKe h g1 g2 (by decide), kZe h g1 g2 (by decide)⟩
      rw [g2.1 104 (by simp) (by decide), g2.1 105 (by simp) (by decide), ← hm1, ← hm2]
      simp only [xu2_ne, xu2_eq, ne_eq, Nat.reduceEqDiff, not_false_eq_true]
      rw [← hm1]
      simp only [xu2_ne, xu2_eq, ne_eq, Nat.reduceEqDiff, not_false_eq_true]
      by_cases e : k = T
      · subst e
        exact ⟨p, s, hp, hs2, upd_at, upd_at, upd_at, upd_at⟩
      · rw [upd_ne e, upd_ne e, upd_ne e, upd_ne e]
        exact e3 k (by omega)
    · rw [e20 (by decide), t2] at z
      have := nI_inj z (by omega) (by decide)
      omega
  · exact Nat.le_antisymm hT (Nat.not_lt.mp fun q => z (by rw [e1]; exact nI_lt q (by decide)))
theorem tk_gave (x y : Int32) : Tk 120 205 [.int x, .int y] := by
  intro N R B r mem Q h hB K
  obtain ⟨-, -, hN, hN8, -, hN2⟩ := (RTo_parts h.2.2.1).1
  have hM := h.2.2.2.1.1
  refine c_in rfl rfl rfl fun P hP => b120_0 hP (c152 hN (by omega) (fun hno => Bk.i (b120_6 hP (fun _ => b120_21 hP (b120_22 hP (K _ _ ?_))) (fun z => absurd rfl z))) (fun a b hab => Bk.i (b120_6 hP (fun z => absurd z (by decide)) (fun _ => b120_9 hP ?_))))
  · intro Q2 k2
    exact c_in rfl rfl rfl fun P hP => b205_0 hP (c163 (N := N) (by rw [e20 (by decide), hN2]) (by omega) (fun _ => Bk.i (b205_11 hP (fun _ => b205_28 hP (b205_29 hP (k2 _ _ (kEnd (kM20 h) hB)))) (fun z => absurd rfl z))) (fun a b q => absurd q (hno a b)))
  · obtain ⟨ha, hb, hne, rfl, rfl⟩ := id hab
    have ei : nI 56 + nI a * nI 8 + nI b = nI (56 + (8 * a + b)) := by rw [nI_mul, nI_add, nI_add]; congr 1; omega
    refine c_in rfl rfl rfl fun P2 hP2 => b67_0 hP2 (Or.inl rfl) (by rw [ei]; exact vpn (by omega) (by decide)) (Bk.i (b120_18 hP (b120_22 hP ?_)))
    rw [ei, nIc (by omega)]
    refine K _ _ ?_
    intro Q2 k2
    refine c_in rfl rfl rfl fun P hP => b205_0 hP (c163 (N := N) (by rw [e20 (by decide), hN2]) (by omega) (fun q => absurd hab (q a b)) (fun a' b' q => Bk.i (b205_11 hP (fun z => absurd z (by decide)) (fun _ => b205_14 hP (by rw [nI_mul, nI_add]; exact vpn (by omega) (by decide)) (b205_29 hP ?_)))))
    rw [nI_mul, nI_add, nIc (by omega), xu2_ne (by decide), hM.2.1 _ (by omega)]
    exact k2 _ _ (kEnd (kM20 h) hB)
theorem tk_chairs (x y : Int32) : Tk 105 183 [.int x, .int y] := by
  intro N R B r mem Q h hB K
  obtain ⟨p0, pch, ppe, ppl, psh, pr0, pr1⟩ := RTo_parts h.2.2.1
  obtain ⟨hR, hR4, hN, hN8, hR2, hN2⟩ := id p0
  have no : ((∀ p, p < R → x ≠ nI p) ∨ (∀ s, 0 ≤ s → s ≤ 8 → y ≠ nI s)) → Q (some (.int (-1))) (LAY, RFu r, mem) := fun hno => by
    refine K _ _ ?_
    intro Q2 k2
    refine c_in rfl rfl rfl fun P hP => ?_
    have f : ∀ v0 v1 v2 v3, P 23 [v0, v1, v2, v3] [] (0, 0) (LAY, RFu r, xu2 mem 108 20 (nI 0)) := fun v0 v1 v2 v3 => b183_23 hP (k2 _ _ (kEnd (kM20 h) hB))
    refine b183_0 hP (c164 (R := R) (by rw [e20 (by decide), hR2]) (by omega) (fun _ => Bk.i (b183_10 hP (fun _ => f _ _ _ _) (fun z => absurd rfl z))) (fun p hp ep => Bk.i (b183_10 hP (fun z => absurd z (by decide)) (fun _ => b183_13 hP (c158r (a := 0) (b := 8) (by decide) (by decide) (fun _ => Bk.i (b183_20 hP (fun z => absurd rfl z) (fun _ => f _ _ _ _))) (fun s hs1 hs2 es => ?_))))))
    rcases hno with q | q
    · exact absurd ep (q p hp)
    · exact absurd es (q s hs1 hs2)
  refine c_in rfl rfl rfl fun P hP => b105_0 hP (c82 (Or.inl rfl) hR (by omega) (fun hp => Bk.i (b105_8 hP (fun _ => b105_21 hP (no (Or.inl hp))) (fun z => absurd rfl z))) (fun p hp ep => Bk.i (b105_8 hP (fun z => absurd z (by decide)) (fun _ => b105_11 hP (c151 (a := 0) (b := 8) (by decide) (by decide) (fun hs => Bk.i (b105_18 hP (fun z => absurd rfl z) (fun _ => b105_21 hP (no (Or.inr hs))))) (fun s hs1 hs2 es => Bk.i (b105_18 hP (fun _ => ?_) (fun z => absurd z (by decide)))))))))
  subst ep
  subst es
  have hp4 : p < 4 := by omega
  have v4 : vp_in (nI p) 4 := vpn hp4 (by decide)
  obtain ⟨hh, q1, q2, q3⟩ := pch p hp4
  refine b105_23 hP v4 v4 ?_
  rw [nIc (by omega), q2]
  refine K _ _ ?_
  intro Q2 k2
  have g1 : Ag [6] mem (xu2 mem 6 p (nI s)) := Ag.rfl'.u2 (by simp)
  refine c_in rfl rfl rfl fun P hP => b183_0 hP (c164 (R := R) (by rw [e20 (by decide), xu2_ne (by decide), hR2]) (by omega) (fun q => absurd rfl (q p hp)) (fun p' _ _ => Bk.i (b183_10 hP (fun z => absurd z (by decide)) (fun _ => b183_13 hP (c158r (a := 0) (b := 8) (by decide) (by decide) (fun q => absurd rfl (q s hs1 hs2)) (fun s' _ _ _ => Bk.i (b183_20 hP (fun _ => b183_25 hP v4 v4 ?_) (fun z => absurd z (by decide)))))))))
  rw [nIc (by omega), xu2_ne (c := 109) (by decide), xu2_ne (c := 109) (by decide), q3 hp]
  have g2 : AgM [109] [20] (xu2 mem 6 p (nI s)) (xu2 (xu2 (xu2 mem 6 p (nI s)) 108 20 (nI 0)) 109 p (nI s)) := (AgM.rfl'.us (by simp)).u2 (by simp) (by decide)
  refine k2 _ _ (kEnd ⟨kTx h g1 g2 (by decide), kRw h g1 g2 (by decide), RTo_of (p0.mv (dj_eqs g1 g2 (by decide))) (fun x hx => ?_) (ppe.mv (dj_eqs g1 g2 (by decide))) (ppl.mv (dj_eqs g1 g2 (by decide))) (psh.mv (dj_eqs g1 g2 (by decide))) (pr0.mv (by decide) (dj_eqs g1 g2 (by decide))) (pr1.mv (by decide) (dj_eqs g1 g2 (by decide))), kSt h g1 g2 (by decide), kUn h g1 g2 (by decide), kOl h g1 g2 (by decide), kKe h g1 g2 (by decide), kZe h g1 g2 (by decide)⟩ hB)
  simp only [xu2_ne, xu2_eq, ne_eq, Nat.reduceEqDiff, not_false_eq_true]
  by_cases e : x = p
  · subst e
    exact ⟨s, hs2, upd_at, fun _ => upd_at⟩
  · rw [upd_ne e, upd_ne e]
    exact pch x hx
theorem tk_sick (x : Int32) {y : Int32} (hy : y = 0 ∨ y = 1) : Tk 106 184 [.int x, .int y] := by
  intro N R B r mem Q h hB K
  obtain ⟨p0, pch, ppe, ppl, psh, pr0, pr1⟩ := RTo_parts h.2.2.1
  obtain ⟨hR, hR4, hN, hN8, hR2, hN2⟩ := id p0
  refine c_in rfl rfl rfl fun P hP => b106_0 hP (c83 (Or.inl rfl) hN (by omega) (fun hp => Bk.i (b106_8 hP (fun z => absurd rfl z) (fun _ => b106_11 hP (Or.inl rfl) (K _ _ ?_)))) (fun p hp ep => Bk.i (b106_8 hP (fun _ => ?_) (fun z => absurd z (by decide)))))
  · intro Q2 k2
    exact c_in rfl rfl rfl fun P hP => b184_0 hP (c162 (N := N) (by rw [e20 (by decide), hN2]) (by omega) (fun _ => Bk.i (b184_10 hP (fun z => absurd rfl z) (fun _ => b184_13 hP (Or.inl rfl) (k2 _ _ (kEnd (kM20 h) hB))))) (fun p hp2 ep => absurd ep (hp p hp2)))
  · subst ep
    have v8 : vp_in (nI p) 8 := vpn (by omega) (by decide)
    have fin : Q (some (.int (nI 1))) (LAY, RFu r, xu2 mem 8 p y) := by
      refine K _ _ ?_
      intro Q2 k2
      have g1 : Ag [8] mem (xu2 mem 8 p y) := Ag.rfl'.u2 (by simp)
      refine c_in rfl rfl rfl fun P hP => b184_0 hP (c162 (N := N) (by rw [e20 (by decide), xu2_ne (by decide), hN2]) (by omega) (fun q => absurd rfl (q p hp)) (fun p' _ _ => Bk.i (b184_10 hP (fun _ => b184_15 hP v8 (Or.inr rfl) ?_) (fun z => absurd z (by decide)))))
      have ey : xNar 15 y = y := by rcases hy with q | q <;> rw [q] <;> decide
      rw [nIc (by omega), ey]
      have g2 : AgM [111] [20] (xu2 mem 8 p y) (xu2 (xu2 (xu2 mem 8 p y) 108 20 (nI 0)) 111 p y) := (AgM.rfl'.us (by simp)).u2 (by simp) (by decide)
      refine k2 _ _ (kEnd ⟨kTx h g1 g2 (by decide), kRw h g1 g2 (by decide), RTo_of (p0.mv (dj_eqs g1 g2 (by decide))) (pch.mv (dj_eqs g1 g2 (by decide))) (fun x hx => ?_) (ppl.mv (dj_eqs g1 g2 (by decide))) (psh.mv (dj_eqs g1 g2 (by decide))) (pr0.mv (by decide) (dj_eqs g1 g2 (by decide))) (pr1.mv (by decide) (dj_eqs g1 g2 (by decide))), kSt h g1 g2 (by decide), kUn h g1 g2 (by decide), kOl h g1 g2 (by decide), kKe h g1 g2 (by decide), kZe h g1 g2 (by decide)⟩ hB)
      simp only [xu2_ne, xu2_eq, ne_eq, Nat.reduceEqDiff, not_false_eq_true]
      by_cases e : x = p
      · subst e
        rw [upd_at, upd_at]
        exact ⟨(ppe x hx).1, rfl, hy⟩
      · rw [upd_ne e, upd_ne e]
        exact ppe x hx
    refine b106_13 hP (fun z => b106_29 hP (b106_30 hP v8 (Or.inr rfl) ?_)) (fun z => b106_25 hP (b106_30 hP v8 (Or.inr rfl) ?_))
    · rw [nIc (by omega)]
      rw [z] at fin
      exact fin
    · rw [nIc (by omega)]
      rw [hy.resolve_left z] at fin
      exact fin
