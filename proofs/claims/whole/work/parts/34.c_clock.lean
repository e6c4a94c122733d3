/-! the class's Clock -/
def tR (mem : Nat → Nat → Int32) (t : Nat) : Nat := (mem t 0).toNatClampNeg
def tN (mem : Nat → Nat → Int32) (t : Nat) : Nat := (mem t 1).toNatClampNeg
def tH (mem : Nat → Nat → Int32) (t r : Nat) : Nat := (mem (t + 1) r).toNatClampNeg
def tL (mem : Nat → Nat → Int32) (t p : Nat) : Nat := (mem (t + 13) p).toNatClampNeg
def tF (mem : Nat → Nat → Int32) (t p : Nat) : Nat := (mem (t + 14) p).toNatClampNeg
def ruX (mem : Nat → Nat → Int32) (q : Nat) : List Int32 := (List.range (mem q 2).toNatClampNeg).map (mem (q + 1))
/-- a town as the class keeps it -/
def cfC (mem : Nat → Nat → Int32) (t : Nat) : xCf :=
  (tR mem t, tN mem t, tH mem t, mem (t + 3), fun now p => if tL mem t p = 0 ∨ 8 ≤ p then -1 else mem (t + 5 + p) ((now.toNatClampNeg + tF mem t p) % tL mem t p),
    fun c p => rv (envF (mem (t + 2)) (mem (t + 3)) c p) (ruX mem (t + 15)), fun c p => rv (envF (mem (t + 2)) (mem (t + 3)) c p) (ruX mem (t + 18)))
def TC (mem : Nat → Nat → Int32) (t : Nat) : Prop :=
  mem t 0 = nI (tR mem t) ∧ tR mem t ≤ 4 ∧ mem t 1 = nI (tN mem t) ∧ tN mem t ≤ 8 ∧ (∀ r, r < 4 → mem (t + 1) r = nI (tH mem t r) ∧ tH mem t r ≤ 16) ∧
  (∀ p, p < 8 → mem (t + 13) p = nI (tL mem t p) ∧ tL mem t p ≤ 24) ∧ (∀ p, p < 8 → mem (t + 14) p = nI (tF mem t p) ∧ tF mem t p < 24) ∧ RuL mem (t + 15) (ruX mem (t + 15)) ∧ RuL mem (t + 18) (ruX mem (t + 18))
/-- what a town's meaning is made of -/
def tCells : List Nat := [0, 1, 2, 3, 5, 6, 7, 8, 9, 10, 11, 12, 13, 14, 15, 16, 18, 19]
theorem cf_eq {mem m' : Nat → Nat → Int32} {t : Nat} (h : ∀ k, k ∈ tCells → m' (t + k) = mem (t + k)) : cfC m' t = cfC mem t := by
  have h0 : m' t = mem t := h 0 (by decide)
  have h1 := h 1 (by decide)
  have h2 := h 2 (by decide)
  have h3 := h 3 (by decide)
  have h13 := h 13 (by decide)
  have h14 := h 14 (by decide)
  have h15 := h 15 (by decide)
  have h16 : m' (t + 15 + 1) = mem (t + 15 + 1) := h 16 (by decide)
  have h18 := h 18 (by decide)
  have h19 : m' (t + 18 + 1) = mem (t + 18 + 1) := h 19 (by decide)
  have hp : (fun (now : Int32) p => if tL m' t p = 0 ∨ 8 ≤ p then -1 else m' (t + 5 + p) ((now.toNatClampNeg + tF m' t p) % tL m' t p)) = (fun (now : Int32) p => if tL mem t p = 0 ∨ 8 ≤ p then -1 else mem (t + 5 + p) ((now.toNatClampNeg + tF mem t p) % tL mem t p)) := by
    funext now p
    unfold tL tF
    rw [h13, h14]
    by_cases z : (mem (t + 13) p).toNatClampNeg = 0 ∨ 8 ≤ p
    · rw [if_pos z, if_pos z]
    · have h5 : m' (t + 5 + p) = mem (t + 5 + p) := by
        have : 5 + p ∈ tCells := by
          have h : ∀ p < 8, 5 + p ∈ tCells := by decide
          exact h p (by omega)
        have := h (5 + p) this
        rw [← Nat.add_assoc] at this
        exact this
      rw [if_neg z, if_neg z, h5]
  unfold cfC
  rw [hp]
  unfold tR tN tH ruX
  rw [h0, h2, h3, h15, h16, h18, h19]
  have hh : (fun r => (m' (t + 1) r).toNatClampNeg) = (fun r => (mem (t + 1) r).toNatClampNeg) := by rw [h1]
  show (_, _, (fun r => (m' (t + 1) r).toNatClampNeg), _) = (_, _, (fun r => (mem (t + 1) r).toNatClampNeg), _)
  rw [hh]
theorem TC_eq {mem m' : Nat → Nat → Int32} {t : Nat} (h : ∀ k, k ∈ tCells → m' (t + k) = mem (t + k)) (hT : TC mem t) : TC m' t := by
  have h0 : m' t = mem t := h 0 (by decide)
  have h1 := h 1 (by decide)
  have h13 := h 13 (by decide)
  have h14 := h 14 (by decide)
  have h15 := h 15 (by decide)
  have h16 : m' (t + 15 + 1) = mem (t + 15 + 1) := h 16 (by decide)
  have h18 := h 18 (by decide)
  have h19 : m' (t + 18 + 1) = mem (t + 18 + 1) := h 19 (by decide)
  unfold TC tR tN tH tL tF RuL ruX at hT ⊢
  rw [h0, h1, h13, h14, h15, h16, h18, h19]
  exact hT
section C
variable {d r : Nat} {mem : Nat → Nat → Int32} {Q : xQr} {s t q p : Nat}
theorem c89 {now : Nat} (ht : isTown t) (hT : TC mem t) (hp : p < 8) (hw : now < 1073741824) (k : Q (some (.int (fP (cfC mem t) (nI now) p))) (LAY, RFu r, mem)) : xCall (d + 1) 89 [.ref t, .int (nI p), .int (nI now)] (LAY, RFu r, mem) Q := by
  obtain ⟨-, -, -, -, -, hL, hF, -⟩ := hT
  obtain ⟨hL, hL2⟩ := hL p hp
  obtain ⟨hF, hF2⟩ := hF p hp
  replace k : Q (some (.int (if tL mem t p = 0 ∨ 8 ≤ p then -1 else mem (t + 5 + p) (((nI now).toNatClampNeg + tF mem t p) % tL mem t p)))) (LAY, RFu r, mem) := k
  rw [nIc (by omega)] at k
  refine c_in rfl rfl rfl fun P hP => b89_0 hP ht (vpn hp (by decide)) (fun h => ?_) (fun h => ?_)
  · rw [nIc (by omega), hL] at h
    rw [nIc (by omega), hL]
    have : tL mem t p = 0 := Decidable.by_contra fun z => nI_nle (by omega) (by omega) h
    rw [if_pos (Or.inl this)] at k
    exact b89_17 hP ht k
  · rw [nIc (by omega), hL] at h ⊢
    have h0 : ¬ tL mem t p = 0 := fun z => h (by rw [z]; decide)
    have hm : (now + tF mem t p) % tL mem t p < tL mem t p := Nat.mod_lt _ (by omega)
    have e : Jvm.Free.MCB.fmod (nI now + nI (tF mem t p)) (nI (tL mem t p)) = nI ((now + tF mem t p) % tL mem t p) := by rw [nI_add, nI_fmod (by omega) (by omega) (by omega)]
    rw [if_neg (fun z => z.elim h0 (fun z => by omega))] at k
    refine b89_11 hP ht (fun _ => b89_19 hP ht (vpn hp (by decide)) (vpn hp (by decide)) (nI_ne0 (by omega) (by omega)) ?_ ?_) (fun h => absurd (nI_le (by omega) (by decide)) h)
    · rw [nIc (by omega), hF, e]
      exact vpn (by omega) (by decide)
    · rw [nIc (by omega), hF, e, nIc (by omega)]
      exact k
/-- weights of those of a set -/
def wts (w0 w : Nat → Int32) (m : Nat) (n : Nat) : Nat → Int32 := fun p => if p < n ∧ m.testBit p = true then w p else w0 p
theorem wts_s {w0 w : Nat → Int32} {m n : Nat} (h : m.testBit n = true) : upd (wts w0 w m n) n (w n) = wts w0 w m (n + 1) := by
  funext i
  unfold upd wts
  by_cases e : i = n
  · subst e
    rw [if_pos rfl, if_pos ⟨by omega, h⟩]
  · rw [if_neg e]
    by_cases h2 : i < n ∧ m.testBit i = true
    · rw [if_pos h2, if_pos ⟨by omega, h2.2⟩]
    · rw [if_neg h2, if_neg (fun z => h2 ⟨by omega, z.2⟩)]
theorem wts_u {w0 w : Nat → Int32} {m n : Nat} (h : ¬ m.testBit n = true) : wts w0 w m (n + 1) = wts w0 w m n := by
  funext i
  unfold wts
  by_cases h2 : i < n ∧ m.testBit i = true
  · rw [if_pos h2, if_pos ⟨by omega, h2.2⟩]
  · rw [if_neg h2, if_neg]
    intro z
    by_cases e : i = n
    · subst e; exact h z.2
    · exact h2 ⟨by omega, z.2⟩
theorem c15 {m : Nat} {xs : List Int32} (hq : isRule q) (ht : isTown t) (hs : isState s) (hm : m < 256) (hr : RuL mem q xs)
    (k : ∀ mem', Ag [54, q + 2] mem mem' → mem' 54 = wts (mem 54) (fun p => rv (envF (mem (t + 2)) (mem (t + 3)) (mem (s + 1)) p) xs) m 8 → Q none (LAY, RFu r, mem')) : xCall (d + 3) 15 [.ref 51, .ref q, .ref t, .ref s, .int (nI m)] (LAY, RFu r, mem) Q := by
  obtain ⟨e1, e2, e3, e4, e5⟩ := isR_ne hq ht hs
  have g : q ≠ 54 ∧ q + 1 ≠ 54 ∧ t + 2 ≠ 54 ∧ t + 3 ≠ 54 ∧ s + 1 ≠ 54 ∧ 54 ≠ q + 2 := by
    unfold isRule at hq; unfold isTown at ht; unfold isState at hs; omega
  obtain ⟨g1, g2, g3, g4, g5, g6⟩ := g
  generalize hw : (fun p => rv (envF (mem (t + 2)) (mem (t + 3)) (mem (s + 1)) p) xs) = w at k
  have no : ∀ c, c ≠ 54 → c ≠ q + 2 → c ∉ [54, q + 2] := fun c h1 h2 z => by
    rcases List.mem_cons.mp z with z | z
    · exact h1 z
    · exact h2 (List.mem_singleton.mp z)
  refine c_in rfl rfl rfl fun P hP => b15_0 hP hq ht hs ?_
  have key := xloop (N := 8) (G := fun n => ∀ m', Ag [54, q + 2] mem m' → m' 54 = wts (mem 54) w m n → P 3 [.ref 51, .ref q, .ref t, .ref s, .int (nI m), .int (nI n)] [] (0, 0) (LAY, RFu r, m')) ?_ ?_
  · refine key mem Ag.rfl' ?_
    funext i
    unfold wts
    rw [if_neg (fun z => absurd z.1 (Nat.not_lt_zero i))]
  · intro m' hA h54
    exact b15_3 hP hq ht hs (fun _ => b15_42 hP hq ht hs (k m' hA h54)) (fun h => absurd (nI_le (Nat.le_refl 8) (by decide)) h)
  · intro n hn ih m' hA h54
    refine b15_3 hP hq ht hs (fun h => absurd h (nI_ge hn (by decide))) (fun _ => b15_10 hP hq ht hs (fun h => ?_) (fun h => ?_))
    · rw [bit_in hm hn] at h
      have hb : ¬ m.testBit n = true := fun z => h (by rw [if_pos z])
      refine b15_36 hP hq ht hs ?_
      rw [nIs]
      exact ih m' hA (by rw [wts_u hb]; exact h54)
    · rw [bit_in hm hn] at h
      have hb : m.testBit n = true := by
        by_cases z : m.testBit n = true
        · exact z
        · rw [if_neg z] at h; exact absurd h (by decide)
      have hr' : RuL m' q xs := by
        unfold RuL
        rw [hA q (no _ g1 e5), hA (q + 1) (no _ g2 e1)]
        exact hr
      refine b15_21 hP hq ht hs (c40 hq ht hs hn hr' fun m2 hA2 => Bk.i (b15_35 hP hq ht hs (vpn hn (by decide)) (b15_36 hP hq ht hs ?_)))
      rw [nIs, nIc (by omega), hA (t + 2) (no _ g3 e2), hA (t + 3) (no _ g4 e3), hA (s + 1) (no _ g5 e4)]
      have ew : rv (envF (mem (t + 2)) (mem (t + 3)) (mem (s + 1)) n) xs = w n := by rw [← hw]
      rw [ew]
      refine ih _ ((hA.trans (hA2.mono (fun c hc => List.mem_cons_of_mem _ hc))).u2 (by simp)) ?_
      rw [xu2_eq, hA2 54 (fun z => g6 (List.mem_singleton.mp z)), h54, wts_s hb]
theorem c16 {m : Nat} (hm : m < 256) (k : Q (some (.int (oI (pick (mem 54) (fun p => m.testBit p) 8)))) (LAY, RFu r, mem)) : xCall (d + 1) 16 [.ref 51, .int (nI m)] (LAY, RFu r, mem) Q := by
  refine c_in rfl rfl rfl fun P hP => b16_0 hP ?_
  refine xloop (N := 8) (G := fun n => P 4 [.ref 51, .int (nI m), .int (oI (pick (mem 54) (fun p => m.testBit p) n)), .int (nI n)] [] (0, 0) (LAY, RFu r, mem)) ?_ ?_
  · exact b16_4 hP (fun _ => b16_47 hP k) (fun h => absurd (nI_le (Nat.le_refl 8) (by decide)) h)
  · intro n hn ih
    have ih' : P 41 [.ref 51, .int (nI m), .int (oI (pick (mem 54) (fun p => m.testBit p) (n + 1))), .int (nI n)] [] (0, 0) (LAY, RFu r, mem) := b16_41 hP (by rw [nIs]; exact ih)
    refine b16_4 hP (fun h => absurd h (nI_ge hn (by decide))) (fun _ => b16_10 hP (fun h => ?_) (fun h => ?_))
    · rw [bit_in hm hn] at h
      have hb : ¬ m.testBit n = true := fun z => h (by rw [if_pos z])
      rw [pick_s] at ih'
      cases e : pick (mem 54) (fun p => m.testBit p) n with
      | none => rw [e] at ih'; simp only [if_neg hb] at ih'; exact ih'
      | some b => rw [e] at ih'; simp only [Bool.and_eq_true, hb, false_and, if_false, Bool.false_eq_true] at ih'; exact ih'
    · rw [bit_in hm hn] at h
      have hb : m.testBit n = true := by
        by_cases z : m.testBit n = true
        · exact z
        · rw [if_neg z] at h; exact absurd h (by decide)
      rw [pick_s] at ih'
      cases e : pick (mem 54) (fun p => m.testBit p) n with
      | none =>
        rw [e] at ih'
        simp only [if_pos hb] at ih'
        exact b16_19 hP (fun _ => b16_39 hP ih') (fun h => absurd rfl h)
      | some b =>
        have hbn := (pick_in e).1
        rw [e] at ih'
        simp only [hb, Bool.true_and, decide_eq_true_eq] at ih'
        refine b16_19 hP (fun h => absurd h ?_) (fun _ => b16_24 hP (vpn hn (by decide)) (vpn (by omega) (by decide)) (fun h => ?_) (fun h => ?_))
        · intro z
          have : nI b < 0 := by show oI (some b) < 0; rw [z]; decide
          exact nI_pos (by omega) this
        · change mem 54 (nI n).toNatClampNeg ≤ mem 54 (nI b).toNatClampNeg at h
          rw [nIc (by omega), nIc (by omega)] at h
          rw [if_neg (Int32.not_lt.mpr h)] at ih'
          exact ih'
        · change ¬ mem 54 (nI n).toNatClampNeg ≤ mem 54 (nI b).toNatClampNeg at h
          rw [nIc (by omega), nIc (by omega)] at h
          rw [if_pos (Int32.not_le.mp h)] at ih'
          exact b16_39 hP ih'
end C
