/-! in, count, lend, undo, sign, sheet -/
theorem nI_or {a b : Nat} (ha : a < 2147483648) (hb : b < 2147483648) : nI a ||| nI b = nI (a ||| b) := by
  apply Int32.toBitVec_inj.mp
  rw [Int32.toBitVec_or]
  show BitVec.ofNat 32 a ||| BitVec.ofNat 32 b = BitVec.ofNat 32 (a ||| b)
  apply BitVec.eq_of_toNat_eq
  rw [BitVec.toNat_or, BitVec.toNat_ofNat, BitVec.toNat_ofNat, BitVec.toNat_ofNat, Nat.mod_eq_of_lt (by omega), Nat.mod_eq_of_lt (by omega), Nat.mod_eq_of_lt (Nat.lt_of_lt_of_le (Nat.or_lt_two_pow (n := 31) ha hb) (by decide))]
theorem mk_or {f g : Nat → Bool} : nI (mkN f 8) ||| nI (mkN g 8) = nI (mkN (fun p => f p || g p) 8) := by
  have h1 := mkN8 f
  have h2 := mkN8 g
  have h3 := mkN8 (fun p => f p || g p)
  rw [nI_or (by omega) (by omega)]
  congr 1
  apply Nat.eq_of_testBit_eq
  intro p
  rw [Nat.testBit_or]
  by_cases hp : p < 8
  · rw [mkN_bit f 8 p hp, mkN_bit g 8 p hp, mkN_bit _ 8 p hp]
  · have e : ∀ m, m < 256 → m.testBit p = false := fun m hm => Nat.testBit_lt_two_pow (Nat.lt_of_lt_of_le hm (Nat.pow_le_pow_right (show 0 < 2 by decide) (by omega : 8 ≤ p)))
    rw [e _ h1, e _ h2, e _ h3]
    rfl
/-- one more of a set, as the reference writes it -/
theorem mk_b {f : Nat → Bool} {n : Nat} (hn : n < 8) : nI (mkN f n) ||| (b01 (f n = true) <<< (nI n &&& 31)) = nI (mkN f (n + 1)) := by
  by_cases h : f n = true
  · rw [b01_t h]; exact mk_t hn h
  · rw [b01_f h, mk_f (bfalse h)]
    have z : ∀ n < 8, (0 : Int32) <<< (nI n &&& 31) = 0 := by decide +kernel
    rw [z n hn, Int32.or_zero]
theorem fin_b {p q : Prop} [Decidable p] [Decidable q] (h : p ↔ q) : b01 p = b01 q := by
  by_cases x : p
  · rw [b01_t x, b01_t (h.mp x)]
  · rw [b01_f x, b01_f (fun y => x (h.mpr y))]
section K
variable {N R B : Nat} {c : Nat → Int32}
theorem SV.out (h : SV N R B c) {p : Nat} (h1 : N ≤ p) (h2 : p < 8) : c p = -1 ∧ c (8 + p) = 0 := ⟨(h.2.2.2.1 p h1 h2).1, (h.2.2.2.1 p h1 h2).2 1 (by decide) (by decide)⟩
/-- who is in a room -/
theorem in_room (h : SV N R B c) {rm : Nat} (hrm : rm < 4) : nI (mkN (fun p => decide (c p = nI rm) && decide (c (8 + p) = 2)) 8) ||| nI (mkN (fun p => decide (c p = nI rm) && decide (c (8 + p) = 1)) 8) = nI (mkN (fun p => decide (c p = nI rm)) N) := by
  rw [mk_or, mkN_ext (N := N) h.2.1 (fun p h1 h2 => by rw [(h.out h1 h2).1, decide_eq_false (fun q => nI_nm' hrm q.symm)]; rfl)]
  congr 1
  apply mkN_congr
  intro p hp
  by_cases q : c p = nI rm
  · rw [decide_eq_true q]
    rcases h.1.p12 hp (by rw [q]; exact nI_nm' hrm) with e | e <;> rw [e] <;> decide
  · rw [decide_eq_false q]; rfl
end K
theorem RZe_ag {m m1 : Nat → Nat → Int32} {W : List Nat} (h : RZe m) (a : Ag W m m1) (d : zC.all (fun c => decide (c ∉ W)) = true) : RZe m1 := h.mv fun c hc => Or.inl (a c (of_decide_eq_true (List.all_eq_true.mp d c hc)))
theorem st19 {m : Nat → Nat → Int32} {x y : Int32} : AgM [] [20, 19] m (xu2 (xu2 m 108 20 x) 108 19 y) := (AgM.rfl'.us (by simp)).us (by simp)
theorem tk_in (x : Int32) : Tk 112 197 [.int x] := by
  intro N R B r mem Q h hB K
  obtain ⟨hR, hR4, hN, hN8, hR2, hN2⟩ := (RTo_parts h.2.2.1).1
  obtain ⟨hM, hS⟩ := h.2.2.2.1
  refine c_in rfl rfl rfl fun P hP => b112_0 hP (c82 (Or.inl rfl) hR (by omega) (fun hp => Bk.i (b112_8 hP (fun z => absurd rfl z) (fun _ => b112_11 hP (K _ _ ?_)))) (fun rm hp ep => Bk.i (b112_8 hP (fun _ => b112_13 hP (c63 (Or.inl rfl) (Bk.i (b112_22 hP (c31 fun m1 a1 w1 => Bk.v (b112_30 hP (c32 w1 (by decide) fun m2 a2 w2 => Bk.v (b112_38 hP (c63 (Or.inl rfl) (Bk.i (b112_48 hP ?_))))))))))) (fun z => absurd z (by decide)))))
  · intro Q2 k2
    exact c_in rfl rfl rfl fun P hP => b197_0 hP (c164 (R := R) (by rw [e20 (by decide), hR2]) (by omega) (fun _ => Bk.i (b197_10 hP (fun z => absurd rfl z) (fun _ => b197_13 hP (k2 _ _ (kEnd (kM20 h) hB))))) (fun p hp2 ep => absurd ep (hp p hp2)))
  · subst ep
    have g0 : Ag [3, 4] mem m2 := (a1.mono (by decide)).trans (a2.mono (by decide))
    have g1 : Ag scW mem m2 := g0.mono (by decide)
    have e48 : m2 48 = mem 48 := by rw [a2 48 (by decide), a1 48 (by decide)]
    show Q (some (.int (nI (mkN (fun p => decide (mem 48 p = nI rm) && decide (mem 48 (8 + p) = nI 2)) 8) ||| nI (mkN (fun p => decide (m2 48 p = nI rm) && decide (m2 48 (8 + p) = nI 1)) 8)))) _
    rw [e48, n2, n1, in_room hS (by omega)]
    refine K _ _ ?_
    intro Q2 k2
    have hM1 : MV (xu2 m2 108 20 (nI 0)) N (mem 48) := (hM.eqs (g1.eqs (by decide) (by decide))).ag th20 (by simp) (by decide)
    have f2 : xu2 m2 108 20 (nI 0) 108 2 = nI N := by rw [e20 (by decide), g1 108 (by decide), hN2]
    refine c_in rfl rfl rfl fun P hP => b197_0 hP (c164 (R := R) (by rw [e20 (by decide), g1 108 (by decide), hR2]) (by omega) (fun q => absurd rfl (q rm hp)) (fun p' _ _ => Bk.i (b197_10 hP (fun _ => b197_15 hP ?_) (fun z => absurd z (by decide)))))
    have key := xloop (N := N) (G := fun n => P 22 [.ref 108, .int (nI rm), .int (nI (mkN (fun p => decide (mem 48 p = nI rm)) n)), .int (nI (mkN (fun p => decide (mem 48 p = nI rm) && decide (mem 48 (8 + p) = 2)) n)), .int (nI n)] [] (0, 0) (LAY, RFu r, xu2 m2 108 20 (nI 0))) ?_ ?_
    · exact key
    · refine b197_22 hP (fun _ => b197_71 hP (c161 (xs := []) (RwM_nil (by rw [xu2_eq, upd_at])) (by decide) fun m3 a3 w3 => Bk.v (b197_81 hP (k2 _ _ (kEnd (N := N) (R := R) ?_ hB))))) (fun z => absurd (by rw [f2]; exact Int32.le_refl _) z)
      have g2 : AgM smW smV m2 m3 := (st19.mono (by simp) (by decide)).trans (a3.mono (by decide) (by decide))
      rw [← mkN_ext (N := N) (n := 8) hN8 (fun p h1 h2 => by rw [(hS.out h1 h2).1, decide_eq_false (fun q => nI_nm' (by omega : rm < 4) q.symm)]; rfl)] at w3
      rw [n2] at w2
      refine RR_ro h g1 (RZe_ag h.2.2.2.2.2.2.2 g0 (by decide)) w2 g2 ?_ w3
      exact (hM1.ag (AgM.rfl'.us (W := []) (V := [19]) (by simp)) (by simp) (by decide)).ag a3 (by decide) (by decide)
    · intro n hn ih
      have vn : vp_in (nI n) 8 := vpn (by omega) (by decide)
      obtain ⟨e1, e2, -⟩ := hM1.1 n hn
      refine b197_22 hP (fun z => absurd z (by rw [f2]; exact nI_ge hn (by omega))) (fun _ => b197_31 hP vn (fun z => b197_45 hP vn (b197_65 hP ?_)) (fun z => b197_42 hP (b197_65 hP ?_)))
      · rw [nIc (by omega), e1] at z
        rw [nIs, nIc (by omega), e2]
        rw [← mk_b (by omega), ← mk_b (by omega), b01_t (decide_eq_true z)] at ih
        rw [fin_b (q := (decide (mem 48 n = nI rm) && decide (mem 48 (8 + n) = 2)) = true) (by simp [z])]
        exact ih
      · rw [nIc (by omega), e1] at z
        rw [nIs]
        rw [mk_f (by simp [z]), mk_f (by simp [z])] at ih
        exact ih
