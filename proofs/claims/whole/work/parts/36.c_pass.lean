section C
variable {d r : Nat} {mem : Nat → Nat → Int32} {Q : xQr} {s t q p : Nat}
theorem oI_some {b : Nat} : oI (some b) = nI b := rfl
theorem asS_lt {f : xCf} {c : Nat → Int32} {rm p : Nat} (h : asS f c rm p = true) : p < fN f ∧ c p = nI rm ∧ c (8 + p) = 1 ∧ 1 ≤ c (24 + p) := by
  unfold asS psS at h
  simp only [Bool.and_eq_true, decide_eq_true_eq] at h
  exact ⟨h.1.1.1, h.1.1.2, h.1.2, h.2⟩
theorem giS_lt {f : xCf} {c : Nat → Int32} {rm p : Nat} (h : giS f c rm p = true) : p < fN f ∧ c p = nI rm ∧ c (8 + p) = 2 ∧ 1 ≤ c (16 + p) ∧ fK f p = 0 := by
  unfold giS psS at h
  simp only [Bool.and_eq_true, decide_eq_true_eq] at h
  exact ⟨h.1.1.1.1, h.1.1.1.2, h.1.1.2, h.1.2, h.2⟩
theorem asS_t {f : xCf} {c : Nat → Int32} {rm p : Nat} (h1 : p < fN f) (h2 : c p = nI rm) (h3 : c (8 + p) = 1) (h4 : 1 ≤ c (24 + p)) : asS f c rm p = true := by
  unfold asS psS
  simp only [Bool.and_eq_true, decide_eq_true_eq]
  exact ⟨⟨⟨h1, h2⟩, h3⟩, h4⟩
theorem giS_t {f : xCf} {c : Nat → Int32} {rm p : Nat} (h1 : p < fN f) (h2 : c p = nI rm) (h3 : c (8 + p) = 2) (h4 : 1 ≤ c (16 + p)) (h5 : fK f p = 0) : giS f c rm p = true := by
  unfold giS psS
  simp only [Bool.and_eq_true, decide_eq_true_eq]
  exact ⟨⟨⟨⟨h1, h2⟩, h3⟩, h4⟩, h5⟩
theorem bfalse {b : Bool} (h : ¬ b = true) : b = false := by cases b; rfl; exact absurd rfl h
theorem askR_n1 {f : xCf} {c : Nat → Int32} {rm : Nat} (h : pick (fA f c) (asS f c rm) 8 = none) : askR f c rm = none := by unfold askR; rw [h]
theorem askR_n2 {f : xCf} {c : Nat → Int32} {rm : Nat} (h : pick (fG f c) (giS f c rm) 8 = none) : askR f c rm = none := by unfold askR; rw [h]; cases pick (fA f c) (asS f c rm) 8 <;> rfl
theorem askR_s {f : xCf} {c : Nat → Int32} {rm a b : Nat} (h1 : pick (fA f c) (asS f c rm) 8 = some a) (h2 : pick (fG f c) (giS f c rm) 8 = some b) : askR f c rm = some (a, b) := by unfold askR; rw [h1, h2]
def oA (o : Option (Nat × Nat)) : Int32 := oI (o.map (·.1))
def oB (o : Option (Nat × Nat)) : Int32 := oI (o.map (·.2))
theorem c13 {rm : Nat} (ht : isTown t) (hs : isState s) (hT : TC mem t) (hrm : rm < 4)
    (k : ∀ mem', Ag [52, 53, 54, t + 17, t + 20, s + 1] mem mem' → mem' 52 = upd (mem 52) rm (oA (askR (cfC mem t) (mem (s + 1)) rm)) → mem' 53 = upd (mem 53) rm (oB (askR (cfC mem t) (mem (s + 1)) rm)) → mem' (s + 1) = rmG (cfC mem t) (mem (s + 1)) rm → Q (some (.int (b01 ((askR (cfC mem t) (mem (s + 1)) rm).isSome = true)))) (LAY, RFu r, mem')) :
    xCall (d + 4) 13 [.ref 51, .ref t, .ref s, .int (nI rm)] (LAY, RFu r, mem) Q := by
  have hs54 : s + 1 ≠ 52 ∧ s + 1 ≠ 53 ∧ s + 1 ≠ 54 ∧ s + 1 ≠ t + 15 + 2 ∧ s + 1 ≠ t + 18 + 2 := by unfold isState at hs; unfold isTown at ht; omega
  have htn := tc_ne ht hs
  have t53 : 52 ≠ t + 15 + 2 ∧ 52 ≠ t + 18 + 2 ∧ 53 ≠ t + 15 + 2 ∧ 53 ≠ t + 18 + 2 ∧ 54 ≠ t + 15 + 2 ∧ 54 ≠ t + 18 + 2 := by unfold isTown at ht; omega
  obtain ⟨-, -, hN, hN8, -, -, -, hA1, hG1⟩ := hT
  generalize hc : mem (s + 1) = c at k
  generalize hf : cfC mem t = f at k
  have hfN : fN f = tN mem t := by rw [← hf]; rfl
  refine c_in rfl rfl rfl fun P hP => b13_0 hP ht hs (vpn hrm (by decide)) (vpn hrm (by decide)) ?_
  rw [nIc (by omega)]
  generalize hm0 : xu2 (xu2 mem 52 rm (-1)) 53 rm (-1) = m0
  have a0 : Ag [52, 53] mem m0 := by rw [← hm0]; exact (Ag.rfl'.u2 (by simp)).u2 (by simp)
  have a52 : m0 52 = upd (mem 52) rm (-1) := by rw [← hm0, xu2_ne (by decide), xu2_eq]
  have a53 : m0 53 = upd (mem 53) rm (-1) := by rw [← hm0, xu2_eq, xu2_ne (by decide)]
  have hc0 : m0 (s + 1) = c := by rw [a0 (s + 1) (by simp; omega), hc]
  have hT0 : ∀ k, k ∈ tCells → m0 (t + k) = mem (t + k) := fun k hk => a0 (t + k) (by have := htn k hk; simp; omega)
  have hN0 : m0 t 1 = nI (fN f) := by rw [show m0 t = mem t from hT0 0 (by decide), hN, hfN]
  have hK0 : m0 (t + 3) = fK f := by rw [hT0 3 (by decide), ← hf]; rfl
  have key := xloop (N := fN f) (G := fun n => P 23 [.ref 51, .ref t, .ref s, .int (nI rm), .int (nI (mkN (asS f c rm) n)), .int (nI (mkN (giS f c rm) n)), .int (nI n)] [] (0, 0) (LAY, RFu r, m0)) ?_ ?_
  · exact key
  · refine b13_23 hP ht hs (fun _ => ?_) (fun h => absurd (by rw [hN0]; exact Int32.le_refl _) h)
    have eA := mkN_ext (f := asS f c rm) (N := fN f) (n := 8) (by rw [hfN]; exact hN8) (fun p h1 h2 => bfalse fun z => by have := (asS_lt z).1; omega)
    have eG := mkN_ext (f := giS f c rm) (N := fN f) (n := 8) (by rw [hfN]; exact hN8) (fun p h1 h2 => bfalse fun z => by have := (giS_lt z).1; omega)
    rw [← eA, ← eG]
    have none_ : ∀ v6, askR f c rm = none → P 140 [.ref 51, .ref t, .ref s, .int (nI rm), .int (nI (mkN (asS f c rm) 8)), .int (nI (mkN (giS f c rm) 8)), v6] [] (0, 0) (LAY, RFu r, m0) := fun v6 e => by
      refine b13_140 hP ht hs (Or.inl rfl) ?_
      have := k m0 (a0.mono (fun c hc => by simp at hc ⊢; omega)) (by rw [a52, e]; rfl) (by rw [a53, e]; rfl) (by rw [hc0]; unfold rmG; rw [e])
      rw [e] at this
      exact this
    refine b13_130 hP ht hs (fun h => none_ _ (askR_n1 (pick_none.mpr (mkN_none h)))) (fun hA0 => b13_135 hP ht hs (fun hG0 => ?_) (fun h => none_ _ (askR_n2 (pick_none.mpr (mkN_none h)))))
    cases e1 : pick (fA f c) (asS f c rm) 8 with
    | none => exact absurd (by rw [mkN_zero (pick_none.mp e1)]; rfl) hA0
    | some a =>
      cases e2 : pick (fG f c) (giS f c rm) 8 with
      | none => exact absurd (by rw [mkN_zero (pick_none.mp e2)]; rfl) hG0
      | some b =>
        obtain ⟨ha8, haS⟩ := pick_in e1
        obtain ⟨hb8, hbS⟩ := pick_in e2
        have hab : b ≠ a := fun z => by
          have h1 := (asS_lt haS).2.2.1
          have h2 := (giS_lt hbS).2.2.1
          rw [z, h1] at h2
          exact absurd h2 (by decide)
        have e := askR_s e1 e2
        have rA : RuL m0 (t + 15) (ruX mem (t + 15)) := by
          unfold RuL
          rw [hT0 15 (by decide), show m0 (t + 15 + 1) = mem (t + 15 + 1) from hT0 16 (by decide)]
          exact hA1
        refine b13_142 hP ht hs (c15 (ruT ht).1 ht hs (mkN8 _) rA fun m1 g1 w1 => Bk.v (b13_154 hP ht hs (c16 (mkN8 _) (Bk.i ?_))))
        have p1 : pick (m1 54) (fun p => (mkN (asS f c rm) 8).testBit p) 8 = some a := by
          rw [← e1]
          refine pick_congr (fun p hp => mkN_bit _ 8 p hp) (fun p hp hpS => ?_)
          rw [w1, hT0 2 (by decide), hT0 3 (by decide), hc0]
          unfold wts
          rw [if_pos ⟨hp, hpS⟩, ← hf]
          rfl
        rw [p1, oI_some]
        refine b13_165 hP ht hs (vpn hrm (by decide)) ?_
        rw [nIc (by omega)]
        have hT1 : ∀ k, k ∈ tCells → m1 (t + k) = mem (t + k) := fun k hk => by rw [g1 (t + k) (by have := htn k hk; simp; omega), hT0 k hk]
        have hT2 : ∀ k, k ∈ tCells → xu2 m1 52 rm (nI a) (t + k) = mem (t + k) := fun k hk => by rw [xu2_ne (htn k hk).1, hT1 k hk]
        have rG : RuL (xu2 m1 52 rm (nI a)) (t + 18) (ruX mem (t + 18)) := by
          unfold RuL
          rw [hT2 18 (by decide), show xu2 m1 52 rm (nI a) (t + 18 + 1) = mem (t + 18 + 1) from hT2 19 (by decide)]
          exact hG1
        refine c15 (ruT ht).2 ht hs (mkN8 _) rG fun m2 g2 w2 => Bk.v (b13_178 hP ht hs (c16 (mkN8 _) (Bk.i ?_)))
        have hc2 : xu2 m1 52 rm (nI a) (s + 1) = c := by rw [xu2_ne hs54.1, g1 (s + 1) (by simp; omega), hc0]
        have p2 : pick (m2 54) (fun p => (mkN (giS f c rm) 8).testBit p) 8 = some b := by
          rw [← e2]
          refine pick_congr (fun p hp => mkN_bit _ 8 p hp) (fun p hp hpS => ?_)
          rw [w2, hT2 2 (by decide), hT2 3 (by decide), hc2]
          unfold wts
          rw [if_pos ⟨hp, hpS⟩, ← hf]
          rfl
        rw [p2, oI_some]
        refine b13_189 hP ht hs (vpn hrm (by decide)) (vpn hrm (by decide)) (vpn hrm (by decide)) ?_
        rw [nIc (by omega), xu2_same]
        have h52 : xu2 m2 53 rm (nI b) 52 = upd (mem 52) rm (nI a) := by
          rw [xu2_ne (by decide), g2 52 (by simp; omega), xu2_eq, g1 52 (by simp; omega), a52]
          funext i
          unfold upd
          by_cases z : i = rm
          · rw [if_pos z, if_pos z]
          · rw [if_neg z, if_neg z, if_neg z]
        rw [h52, upd_at]
        refine c69 hs ha8 hb8 hab fun m3 g3 h3 => Bk.v (b13_206 hP ht hs (Or.inr rfl) ?_)
        have := k m3 ?_ ?_ ?_ ?_
        · rw [e] at this
          exact this
        · refine (((a0.mono ?_).trans (g1.mono ?_)).u2 (by simp)).trans (g2.mono ?_) |>.u2 (by simp) |>.trans (g3.mono ?_) <;> intro c hc <;> simp at hc ⊢ <;> omega
        · rw [g3 52 (by simp; omega), h52, e]
          rfl
        · rw [g3 53 (by simp; omega), xu2_eq, g2 53 (by simp; omega), xu2_ne (by decide), g1 53 (by simp; omega), a53, e]
          funext i
          unfold upd
          by_cases z : i = rm
          · rw [if_pos z, if_pos z]; rfl
          · rw [if_neg z, if_neg z, if_neg z]
        · rw [h3, xu2_ne hs54.2.1, g2 (s + 1) (by simp; omega), hc2]
          unfold rmG
          rw [e]
  · intro n hn ih
    have hn8 : n < 8 := by omega
    have nx : P 124 [.ref 51, .ref t, .ref s, .int (nI rm), .int (nI (mkN (asS f c rm) (n + 1))), .int (nI (mkN (giS f c rm) (n + 1))), .int (nI n)] [] (0, 0) (LAY, RFu r, m0) := b13_124 hP ht hs (by rw [nIs]; exact ih)
    refine b13_23 hP ht hs (fun h => absurd h (by rw [hN0]; exact nI_ge hn (by omega))) (fun _ => b13_32 hP ht hs (vpx (by omega) (by decide)) (fun h32 => ?_) (fun h32 => b13_45 hP ht hs ?_))
    · rw [nIz, nIc (by omega), hc0] at h32
      have hS : P 81 [.ref 51, .ref t, .ref s, .int (nI rm), .int (nI (mkN (asS f c rm) (n + 1))), .int (nI (mkN (giS f c rm) n)), .int (nI n)] [] (0, 0) (LAY, RFu r, m0) := by
        have no : giS f c rm n ≠ true → P 124 [.ref 51, .ref t, .ref s, .int (nI rm), .int (nI (mkN (asS f c rm) (n + 1))), .int (nI (mkN (giS f c rm) n)), .int (nI n)] [] (0, 0) (LAY, RFu r, m0) := fun h => by rw [mk_f (bfalse h)] at nx; exact nx
        refine b13_81 hP ht hs (c61 hs hn8 (Bk.i (b13_87 hP ht hs (fun h => no (fun z => h ?_)) (fun h => b13_91 hP ht hs (vpx (by omega) (by decide)) (fun h2 => no (fun z => ?_)) (fun h2 => b13_105 hP ht hs (vpn hn8 (by decide)) (fun h3 => no (fun z => h3 ?_)) (fun h3 => ?_))))))
        · rw [hc0, (giS_lt z).2.2.1]; rfl
        · rw [nIx (by omega), hc0] at h2
          exact absurd (giS_lt z).2.2.2.1 (Int32.not_le.mpr h2)
        · rw [nIc (by omega), hK0]; exact (giS_lt z).2.2.2.2
        · rw [hc0] at h
          rw [nIx (by omega), hc0] at h2
          rw [nIc (by omega), hK0] at h3
          refine b13_115 hP ht hs ?_
          rw [mk_t hn8 (giS_t hn h32 h (Int32.not_lt.mp h2) h3)]
          exact nx
      have no : asS f c rm n ≠ true → P 81 [.ref 51, .ref t, .ref s, .int (nI rm), .int (nI (mkN (asS f c rm) n)), .int (nI (mkN (giS f c rm) n)), .int (nI n)] [] (0, 0) (LAY, RFu r, m0) := fun h => by rw [mk_f (bfalse h)] at hS; exact hS
      refine b13_48 hP ht hs (c61 hs hn8 (Bk.i (b13_54 hP ht hs (fun h => no (fun z => h ?_)) (fun h => b13_58 hP ht hs (vpx (by omega) (by decide)) (fun h2 => no (fun z => ?_)) (fun h2 => ?_)))))
      · rw [hc0, (asS_lt z).2.2.1]; rfl
      · rw [nIx (by omega), hc0] at h2
        exact absurd (asS_lt z).2.2.2 (Int32.not_le.mpr h2)
      · rw [hc0] at h
        rw [nIx (by omega), hc0] at h2
        refine b13_72 hP ht hs ?_
        rw [mk_t hn8 (asS_t hn h32 h (Int32.not_lt.mp h2))]
        exact hS
    · rw [nIz, nIc (by omega), hc0] at h32
      rw [mk_f (bfalse fun z => h32 (asS_lt z).2.1), mk_f (bfalse fun z => h32 (giS_lt z).2.1)] at nx
      exact nx
theorem cntQn_s {c : Nat → Int32} {n : Nat} (hn : n < 8) : cntQn c (n + 1) = upd (upd (upd (upd (cntQn c n) (16 + n) (if c (8 + n) = 2 then c (16 + n) + 1 else 0)) (24 + n) (if c (8 + n) = 1 then c (24 + n) + 1 else 0)) (32 + n) (c (32 + n) + b01 (c (8 + n) = 2))) (40 + n) (c (40 + n) + b01 (c (8 + n) = 1)) := by
  unfold cntQn
  rw [← wr_s (k := 16), ← wr_s (k := 24), wr_upd (k := 24) (i := 16 + n) (by omega), ← wr_s (k := 32), wr_upd (k := 32) (i := 24 + n) (by omega), wr_upd (k := 32) (i := 16 + n) (by omega), ← wr_s (k := 40), wr_upd (k := 40) (i := 32 + n) (by omega), wr_upd (k := 40) (i := 24 + n) (by omega), wr_upd (k := 40) (i := 16 + n) (by omega)]
theorem cntQn_o {c : Nat → Int32} {n i : Nat} (hn : n < 8) (h : i < 16 ∨ 48 ≤ i ∨ i = 16 + n ∨ i = 24 + n ∨ i = 32 + n ∨ i = 40 + n) : cntQn c n i = c i := by
  unfold cntQn
  rw [wr_ne (by omega), wr_ne (by omega), wr_ne (by omega), wr_ne (by omega)]
theorem c14 (ht : isTown t) (hs : isState s) (hT : TC mem t)
    (k : ∀ mem', Ag [s + 1] mem mem' → mem' (s + 1) = cntQ (tN mem t) (mem (s + 1)) → Q none (LAY, RFu r, mem')) : xCall (d + 1) 14 [.ref 51, .ref t, .ref s] (LAY, RFu r, mem) Q := by
  have hst : t ≠ s + 1 := by unfold isState at hs; unfold isTown at ht; omega
  obtain ⟨-, -, hN, hN8, -⟩ := hT
  generalize hc : mem (s + 1) = c at k
  refine c_in rfl rfl rfl fun P hP => b14_0 hP ht hs ?_
  have key := xloop (N := tN mem t) (G := fun n => ∀ m' v5 v6, Ag [s + 1] mem m' → m' (s + 1) = cntQn c n → P 8 [.ref 51, .ref t, .ref s, .ref (s + 1), .int (nI n), v5, v6] [] (0, 0) (LAY, RFu r, m')) ?_ ?_
  · exact key mem _ _ Ag.rfl' (by rw [hc]; unfold cntQn; rw [wr_0, wr_0, wr_0, wr_0])
  · intro m' v5 v6 hA h
    have hN0 : m' t 1 = nI (tN mem t) := by rw [hA t (by simpa using hst), hN]
    refine b14_8 hP ht hs (fun _ => b14_149 hP ht hs (vpn (by decide) (by decide)) (vpn (by decide) (by decide)) (k _ (hA.u2 (by simp)) ?_)) (fun z => absurd (by rw [hN0]; exact Int32.le_refl _) z)
    rw [xu2_eq, nIc (by decide), h]
    unfold cntQ
    congr 1
    unfold cntQn
    rw [wr_ne (by omega), wr_ne (by omega), wr_ne (by omega), wr_ne (by omega)]
    rfl
  · intro n hn ih m' v5 v6 hA h
    have hn8 : n < 8 := by omega
    have hN0 : m' t 1 = nI (tN mem t) := by rw [hA t (by simpa using hst), hN]
    have h8 : m' (s + 1) (8 + n) = c (8 + n) := by rw [h, cntQn_o hn8 (by omega)]
    have h16 : m' (s + 1) (16 + n) = c (16 + n) := by rw [h, cntQn_o hn8 (by omega)]
    have h24 : m' (s + 1) (24 + n) = c (24 + n) := by rw [h, cntQn_o hn8 (by omega)]
    have h32 : m' (s + 1) (32 + n) = c (32 + n) := by rw [h, cntQn_o hn8 (by omega)]
    have h40 : m' (s + 1) (40 + n) = c (40 + n) := by rw [h, cntQn_o hn8 (by omega)]
    have A0 : c (8 + n) ≠ 2 → b01 (c (8 + n) = 2) = 0 := fun z => if_neg z
    have A1 : c (8 + n) = 2 → b01 (c (8 + n) = 2) = 1 := fun z => if_pos z
    have B0 : c (8 + n) ≠ 1 → b01 (c (8 + n) = 1) = 0 := fun z => if_neg z
    have B1 : c (8 + n) = 1 → b01 (c (8 + n) = 1) = 1 := fun z => if_pos z
    have hs8 := cntQn_s (c := c) hn8
    generalize hV1 : (if c (8 + n) = 2 then c (16 + n) + 1 else 0) = V1 at hs8
    generalize hV2 : (if c (8 + n) = 1 then c (24 + n) + 1 else 0) = V2 at hs8
    have k141 : ∀ v5 v6 y3, y3 = b01 (c (8 + n) = 1) → P 141 [.ref 51, .ref t, .ref s, .ref (s + 1), .int (nI n), v5, v6] [.int y3, .int (c (40 + n)), .int (nI 40 + nI n), .ref (s + 1)] (0, 0) (LAY, RFu r, xu2 (xu2 (xu2 m' (s + 1) (16 + n) V1) (s + 1) (24 + n) V2) (s + 1) (32 + n) (c (32 + n) + b01 (c (8 + n) = 2))) := fun v5 v6 y3 e => by
      refine b14_141 hP ht hs (vpx (by omega) (by decide)) ?_
      rw [nIx (by omega), nIs, e]
      exact ih _ _ _ ((((hA.u2 (by simp)).u2 (by simp)).u2 (by simp)).u2 (by simp)) (by simp only [xu2_eq]; rw [h, hs8])
    have k121 : ∀ v5 y3, y3 = b01 (c (8 + n) = 2) → P 121 [.ref 51, .ref t, .ref s, .ref (s + 1), .int (nI n), v5, .int (b01 (c (8 + n) = 1))] [.int y3, .int (c (32 + n)), .int (nI 32 + nI n), .ref (s + 1)] (0, 0) (LAY, RFu r, xu2 (xu2 m' (s + 1) (16 + n) V1) (s + 1) (24 + n) V2) := fun v5 y3 e => by
      have e40 : xu2 (xu2 (xu2 m' (s + 1) (16 + n) V1) (s + 1) (24 + n) V2) (s + 1) (32 + n) (c (32 + n) + b01 (c (8 + n) = 2)) (s + 1) (40 + n) = c (40 + n) := by
        simp only [xu2_eq]
        rw [upd_ne (by omega), upd_ne (by omega), upd_ne (by omega), h40]
      refine b14_121 hP ht hs (vpx (by omega) (by decide)) (vpx (by omega) (by decide)) (fun z => ?_) (fun z => ?_)
      · rw [nIx (by omega), nIx (by omega), e, e40]
        exact b14_140 hP ht hs (k141 _ _ _ z.symm)
      · rw [nIx (by omega), nIx (by omega), e, e40]
        refine b14_136 hP ht hs (k141 _ _ _ ?_)
        by_cases q : c (8 + n) = 1
        · rw [B1 q]; rfl
        · exact absurd (B0 q) z
    have k102 : ∀ y2, y2 = V2 → P 102 [.ref 51, .ref t, .ref s, .ref (s + 1), .int (nI n), .int (b01 (c (8 + n) = 2)), .int (b01 (c (8 + n) = 1))] [.int y2, .int (nI 24 + nI n), .ref (s + 1)] (0, 0) (LAY, RFu r, xu2 m' (s + 1) (16 + n) V1) := fun y2 e => by
      have e32 : xu2 (xu2 m' (s + 1) (16 + n) V1) (s + 1) (24 + n) V2 (s + 1) (32 + n) = c (32 + n) := by
        simp only [xu2_eq]
        rw [upd_ne (by omega), upd_ne (by omega), h32]
      refine b14_102 hP ht hs (vpx (by omega) (by decide)) (vpx (by omega) (by decide)) (fun z => ?_) (fun z => ?_)
      · rw [nIx (by omega), nIx (by omega), e, e32]
        exact b14_120 hP ht hs (k121 _ _ z.symm)
      · rw [nIx (by omega), nIx (by omega), e, e32]
        refine b14_116 hP ht hs (k121 _ _ ?_)
        by_cases q : c (8 + n) = 2
        · rw [A1 q]; rfl
        · exact absurd (A0 q) z
    have k77 : ∀ y2, y2 = V1 → P 77 [.ref 51, .ref t, .ref s, .ref (s + 1), .int (nI n), .int (b01 (c (8 + n) = 2)), .int (b01 (c (8 + n) = 1))] [.int y2, .int (nI 16 + nI n), .ref (s + 1)] (0, 0) (LAY, RFu r, m') := fun y2 e => by
      refine b14_77 hP ht hs (vpx (by omega) (by decide)) (fun z => ?_) (fun z => ?_)
      · rw [nIx (by omega), e]
        refine b14_101 hP ht hs (k102 _ ?_)
        by_cases q : c (8 + n) = 1
        · rw [B1 q] at z; exact absurd z (by decide)
        · rw [← hV2, if_neg q]; rfl
      · rw [nIx (by omega), e]
        refine b14_89 hP ht hs (vpx (by omega) (by decide)) (k102 _ ?_)
        by_cases q : c (8 + n) = 1
        · rw [← hV2, if_pos q, nIx (by omega)]
          simp only [xu2_eq]
          rw [upd_ne (by omega), h24]
          rfl
        · exact absurd (B0 q) z
    have k51 : ∀ v6 y0, y0 = b01 (c (8 + n) = 1) → P 51 [.ref 51, .ref t, .ref s, .ref (s + 1), .int (nI n), .int (b01 (c (8 + n) = 2)), v6] [.int y0] (0, 0) (LAY, RFu r, m') := fun v6 y0 e => by
      rw [e]
      refine b14_51 hP ht hs (fun z => b14_76 hP ht hs (k77 _ ?_)) (fun z => b14_64 hP ht hs (vpx (by omega) (by decide)) (k77 _ ?_))
      · by_cases q : c (8 + n) = 2
        · rw [A1 q] at z; exact absurd z (by decide)
        · rw [← hV1, if_neg q]; rfl
      · by_cases q : c (8 + n) = 2
        · rw [← hV1, if_pos q, nIx (by omega), h16]; rfl
        · exact absurd (A0 q) z
    have k33 : ∀ v5 v6 y0, y0 = b01 (c (8 + n) = 2) → P 33 [.ref 51, .ref t, .ref s, .ref (s + 1), .int (nI n), v5, v6] [.int y0] (0, 0) (LAY, RFu r, m') := fun v5 v6 y0 e => by
      rw [e]
      refine b14_33 hP ht hs (vpx (by omega) (by decide)) (fun z => b14_50 hP ht hs (k51 _ _ ?_)) (fun z => b14_46 hP ht hs (k51 _ _ ?_))
      · rw [nIx (by omega), h8] at z
        exact (B0 z).symm
      · rw [nIx (by omega), h8] at z
        exact (B1 z).symm
    refine b14_8 hP ht hs (fun z => absurd z (by rw [hN0]; exact nI_ge hn (by omega))) (fun _ => b14_17 hP ht hs (vpx (by omega) (by decide)) (fun z => b14_32 hP ht hs (k33 _ _ _ ?_)) (fun z => b14_28 hP ht hs (k33 _ _ _ ?_)))
    · rw [nIx (by omega), h8] at z
      exact (A0 z).symm
    · rw [nIx (by omega), h8] at z
      exact (A1 z).symm
end C
