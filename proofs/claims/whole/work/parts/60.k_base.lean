/-! the calls: how what holds goes on -/
def M2 (Mm : Nat) (As : List Value) (B : Nat) (x : Int32) (r1 : Nat) (m1 : Nat → Nat → Int32) : Prop := ∀ Q2 : xQr, (∀ r2 mem2, RR B mem2 → Q2 (some (.int x)) (LAY, RFu r2, mem2)) → xCall 300 Mm (.ref 108 :: As) (LAY, RFu r1, m1) Q2
def Tk (Mc Mm : Nat) (As : List Value) : Prop := ∀ (N R B r : Nat) (mem : Nat → Nat → Int32) (Q : xQr), RRc mem N R B → B + 20000 < 500000000 → (∀ x m1, M2 Mm As (B + 20000) x r m1 → Q (some (.int x)) (LAY, RFu r, m1)) → xCall 300 Mc (.ref 0 :: As) (LAY, RFu r, mem) Q
def dj (C S W W2 V2 : List Nat) : Bool := C.all (fun c => decide (c ∉ W) && decide (c ∉ W2) && decide (c ≠ 108)) && S.all (fun j => decide (j ∉ V2)) && decide (108 ∉ W)
section K
variable {mem m1 m2 : Nat → Nat → Int32} {W W2 V2 C S : List Nat} {N R B : Nat}
theorem dj_eqs (a1 : Ag W mem m1) (a2 : AgM W2 V2 m1 m2) (d : dj C S W W2 V2 = true) : Eqs C S mem m2 := by
  simp only [dj, Bool.and_eq_true, List.all_eq_true, decide_eq_true_eq] at d
  obtain ⟨⟨d1, d2⟩, d3⟩ := d
  exact (a1.eqs (fun c hc => (d1 c hc).1.1) d3).tr (a2.eqs (fun c hc => ⟨(d1 c hc).1.2, (d1 c hc).2⟩) d2)
theorem kTx (h : RRc mem N R B) (a1 : Ag W mem m1) (a2 : AgM W2 V2 m1 m2) (d : dj [1, 2, 122] [17] W W2 V2 = true) : RTx m2 := h.1.mv (dj_eqs a1 a2 d)
theorem kRw (h : RRc mem N R B) (a1 : Ag W mem m1) (a2 : AgM W2 V2 m1 m2) (d : dj [3, 4, 123] [19] W W2 V2 = true) : RRw m2 := h.2.1.mv (dj_eqs a1 a2 d)
theorem kTo (h : RRc mem N R B) (a1 : Ag W mem m1) (a2 : AgM W2 V2 m1 m2) (d : dj (toC ++ toM) toS W W2 V2 = true) : RTo m2 N R := h.2.2.1.mv (dj_eqs a1 a2 d)
theorem kSt (h : RRc mem N R B) (a1 : Ag W mem m1) (a2 : AgM W2 V2 m1 m2) (d : dj (48 :: mvC) [15] W W2 V2 = true) : RSt m2 N R B := h.2.2.2.1.mv (dj_eqs a1 a2 d)
theorem kUn (h : RRc mem N R B) (a1 : Ag W mem m1) (a2 : AgM W2 V2 m1 m2) (d : dj (132 :: unC) [37] W W2 V2 = true) : RUn m2 N R B := h.2.2.2.2.1.mv (dj_eqs a1 a2 d)
theorem kOl (h : RRc mem N R B) (a1 : Ag W mem m1) (a2 : AgM W2 V2 m1 m2) (d : dj [0, 104, 105, 138, 139] [45] W W2 V2 = true) : ROl m2 N := h.2.2.2.2.2.1.mv (dj_eqs a1 a2 d)
theorem kKe (h : RRc mem N R B) (a1 : Ag W mem m1) (a2 : AgM W2 V2 m1 m2) (d : dj [68, 69, 71, 72, 74, 75, 76, 77, 91, 141, 142, 143] [47] W W2 V2 = true) : RKe m2 N R B := h.2.2.2.2.2.2.1.mv (dj_eqs a1 a2 d)
theorem kZe (h : RRc mem N R B) (a1 : Ag W mem m1) (a2 : AgM W2 V2 m1 m2) (d : dj zC [] W W2 V2 = true) : RZe m2 := h.2.2.2.2.2.2.2.mv (fun c hc => Or.inl ((dj_eqs a1 a2 d).1 c hc))
/-- nothing changed but what nobody looks at -/
theorem kAll (h : RRc mem N R B) (a1 : Ag W mem m1) (a2 : AgM W2 V2 m1 m2) (d : dj [1, 2, 122, 3, 4, 123] [17, 19] W W2 V2 = true) (d2 : dj (toC ++ toM) toS W W2 V2 = true) (d3 : dj (48 :: mvC) [15] W W2 V2 = true) (d4 : dj (132 :: unC) [37] W W2 V2 = true) (d5 : dj [0, 104, 105, 138, 139] [45] W W2 V2 = true) (d6 : dj [68, 69, 71, 72, 74, 75, 76, 77, 91, 141, 142, 143] [47] W W2 V2 = true) (d7 : dj zC [] W W2 V2 = true) : RRc m2 N R B := by
  have e := dj_eqs a1 a2 d
  exact ⟨h.1.mv ⟨fun c hc => e.1 c (by simp at hc ⊢; omega), fun j hj => e.2 j (by simp at hj ⊢; omega)⟩, h.2.1.mv ⟨fun c hc => e.1 c (by simp at hc ⊢; omega), fun j hj => e.2 j (by simp at hj ⊢; omega)⟩, kTo h a1 a2 d2, kSt h a1 a2 d3, kUn h a1 a2 d4, kOl h a1 a2 d5, kKe h a1 a2 d6, kZe h a1 a2 d7⟩
/-- the reference alone did something that nobody looks at -/
theorem kM (h : RRc mem N R B) (a2 : AgM [130, 131, 133, 134, 135, 136, 137, 140] [20, 22, 23, 24, 25, 28] mem m2) : RRc m2 N R B := kAll h (Ag.rfl' (W := [])) a2 (by decide) (by decide) (by decide) (by decide) (by decide) (by decide) (by decide)
theorem kM20 (h : RRc mem N R B) {x : Int32} : RRc (xu2 mem 108 20 x) N R B := kM h ((AgM.rfl'.us (W := []) (V := [20]) (by simp)).mono (by simp) (by simp))
theorem kEnd (h : RRc mem N R B) (hB : B + 20000 < 500000000) : RR (B + 20000) mem := ⟨hB, N, R, h.mono (Nat.le_add_right _ _)⟩
theorem kEnd2 {B' : Nat} (h : RRc mem N R B') (hb : B' ≤ B + 20000) (hB : B + 20000 < 500000000) : RR (B + 20000) mem := ⟨hB, N, R, h.mono hb⟩
theorem th20 {m : Nat → Nat → Int32} {x : Int32} : AgM [] [20] m (xu2 m 108 20 x) := AgM.rfl'.us (by simp)
theorem e20 {m : Nat → Nat → Int32} {x : Int32} {j : Nat} (h : j ≠ 20) : xu2 m 108 20 x 108 j = m 108 j := by rw [xu2_eq, upd_ne h]
end K
/-! the parts of a town -/
def RTch (mem : Nat → Nat → Int32) (R : Nat) : Prop := ∀ r, r < 4 → ∃ h, h ≤ 8 ∧ mem 6 r = nI h ∧ (r < R → mem 109 r = nI h)
def RTpe (mem : Nat → Nat → Int32) (N : Nat) : Prop := ∀ p, p < N → mem 7 p = mem 110 p ∧ mem 8 p = mem 111 p ∧ (mem 8 p = 0 ∨ mem 8 p = 1)
def RTpl (mem : Nat → Nat → Int32) (N R : Nat) : Prop := ∀ p, p < 8 → ∃ L, L ≤ 24 ∧ mem 18 p = nI L ∧ (N ≤ p → L = 0) ∧ (p < N → mem 113 p = nI L ∧ ∀ k, k < L → mem (10 + p) k = mem 112 (24 * p + k) ∧ (mem (10 + p) k = -1 ∨ ∃ rm, rm < R ∧ mem (10 + p) k = nI rm))
def RTsh (mem : Nat → Nat → Int32) : Prop := (∀ p, p < 8 → mem 19 p = 0 ∧ mem 128 p = nI 99 ∧ mem 129 p = 0) ∧ mem 108 29 = nI 0 ∧ mem 108 32 = -1
def RTru (mem : Nat → Nat → Int32) (q : Nat) : Prop := ∃ n tx, RmT mem q n tx ∧ RuL mem (20 + 3 * q) (rsM q n tx)
def RT0 (mem : Nat → Nat → Int32) (N R : Nat) : Prop := mem 5 0 = nI R ∧ R ≤ 4 ∧ mem 5 1 = nI N ∧ N ≤ 8 ∧ mem 108 0 = nI R ∧ mem 108 2 = nI N
section K
variable {m m' : Nat → Nat → Int32} {N R : Nat}
theorem RTo_parts (h : RTo m N R) : RT0 m N R ∧ RTch m R ∧ RTpe m N ∧ RTpl m N R ∧ RTsh m ∧ RTru m 0 ∧ RTru m 1 := by
  obtain ⟨h1, h2, h3, h4, h5, h6, h7, h8, h9, h10, h11, h12, h13, h14⟩ := h
  exact ⟨⟨h1, h2, h3, h4, h5, h6⟩, h7, h8, h9, ⟨h10, h11, h12⟩, h13, h14⟩
theorem RTo_of (h0 : RT0 m N R) (h1 : RTch m R) (h2 : RTpe m N) (h3 : RTpl m N R) (h4 : RTsh m) (h5 : RTru m 0) (h6 : RTru m 1) : RTo m N R :=
  ⟨h0.1, h0.2.1, h0.2.2.1, h0.2.2.2.1, h0.2.2.2.2.1, h0.2.2.2.2.2, h1, h2, h3, h4.1, h4.2.1, h4.2.2, h5, h6⟩
theorem RT0.mv (h : RT0 m N R) (e : Eqs [5] [0, 2] m m') : RT0 m' N R := by
  unfold RT0 at h ⊢
  rw [e.1 5 (by decide), e.2 0 (by decide), e.2 2 (by decide)]
  exact h
theorem RTch.mv (h : RTch m R) (e : Eqs [6, 109] [] m m') : RTch m' R := by
  unfold RTch at h ⊢
  rw [e.1 6 (by decide), e.1 109 (by decide)]
  exact h
theorem RTpe.mv (h : RTpe m N) (e : Eqs [7, 8, 110, 111] [] m m') : RTpe m' N := by
  unfold RTpe at h ⊢
  rw [e.1 7 (by decide), e.1 8 (by decide), e.1 110 (by decide), e.1 111 (by decide)]
  exact h
theorem RTpl.mv (h : RTpl m N R) (e : Eqs [10, 11, 12, 13, 14, 15, 16, 17, 18, 112, 113] [] m m') : RTpl m' N R := by
  have hp : ∀ p < 8, 10 + p ∈ [10, 11, 12, 13, 14, 15, 16, 17, 18, 112, 113] := by decide
  intro p hp8
  rw [e.1 18 (by decide), e.1 112 (by decide), e.1 113 (by decide), e.1 (10 + p) (hp p hp8)]
  exact h p hp8
theorem RTsh.mv (h : RTsh m) (e : Eqs [19, 128, 129] [29, 32] m m') : RTsh m' := by
  unfold RTsh at h ⊢
  rw [e.1 19 (by decide), e.1 128 (by decide), e.1 129 (by decide), e.2 29 (by decide), e.2 32 (by decide)]
  exact h
theorem RTru.mv {q : Nat} (hq : q < 2) (h : RTru m q) (e : Eqs [20, 21, 23, 24, 125, 126, 127] [] m m') : RTru m' q := by
  have hp : ∀ q < 2, 20 + 3 * q ∈ [20, 21, 23, 24, 125, 126, 127] ∧ 20 + 3 * q + 1 ∈ [20, 21, 23, 24, 125, 126, 127] ∧ 125 + q ∈ [20, 21, 23, 24, 125, 126, 127] := by decide
  obtain ⟨h1, h2, h3⟩ := hp q hq
  unfold RTru RmT RuL at h ⊢
  rw [e.1 127 (by decide), e.1 _ h1, e.1 _ h2, e.1 _ h3]
  exact h
end K
