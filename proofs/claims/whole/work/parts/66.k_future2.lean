/-! longest, both, often, calm -/
def lgF (F : Nat → Nat → Int32) (i : Nat) : Nat → Int32 × Nat
  | 0 => (F 0 (24 + i), 0)
  | k + 1 => if (lgF F i k).1 < F (k + 1) (24 + i) then (F (k + 1) (24 + i), k + 1) else lgF F i k
theorem lgF_s {F : Nat → Nat → Int32} {i k : Nat} : lgF F i (k + 1) = if (lgF F i k).1 < F (k + 1) (24 + i) then (F (k + 1) (24 + i), k + 1) else lgF F i k := rfl
theorem tk_longest (x y : Int32) : Tk 119 204 [.int x, .int y] := by
  intro N R B r mem Q h hB K
  obtain ⟨hR, hR4, hN, hN8, hR2, hN2⟩ := (RTo_parts h.2.2.1).1
  obtain ⟨hM, hS⟩ := h.2.2.2.1
  obtain ⟨g1, g2, g3, g4, g5, g6, g7⟩ := RRc_g h
  have no : ((∀ p, p < N → x ≠ nI p) ∨ (∀ s, 0 ≤ s → s ≤ 200 → y ≠ nI s)) → Q (some (.int (-1))) (LAY, RFu r, mem) := fun hno => by
    refine K _ _ ?_
    intro Q2 k2
    refine c_in rfl rfl rfl fun P hP => ?_
    have f : ∀ v0 v1 v2 v3 v4 v5, P 24 [v0, v1, v2, v3, v4, v5] [] (0, 0) (LAY, RFu r, xu2 mem 108 20 (nI 0)) := fun _ _ _ _ _ _ => b204_24 hP (k2 _ _ (kEnd (kM20 h) hB))
    refine b204_0 hP (c162 (N := N) (by rw [e20 (by decide), hN2]) (by omega) (fun _ => Bk.i (b204_10 hP (fun _ => f _ _ _ _ _ _) (fun z => absurd rfl z))) (fun p hp ep => Bk.i (b204_10 hP (fun z => absurd z (by decide)) (fun _ => b204_13 hP (c158r (a := 0) (b := 200) (by decide) (by decide) (fun _ => Bk.i (b204_21 hP (fun z => absurd rfl z) (fun _ => f _ _ _ _ _ _))) (fun s hs1 hs2 es => ?_))))))
    rcases hno with q | q
    · exact absurd ep (q p hp)
    · exact absurd es (q s hs1 hs2)
  refine c_in rfl rfl rfl fun P hP => b119_0 hP (c83 (Or.inl rfl) hN (by omega) (fun hp => Bk.i (b119_8 hP (fun _ => b119_22 hP (no (Or.inl hp))) (fun z => absurd rfl z))) (fun i hi ei => Bk.i (b119_8 hP (fun z => absurd z (by decide)) (fun _ => b119_11 hP (c151 (a := 0) (b := 200) (by decide) (by decide) (fun hs => Bk.i (b119_19 hP (fun z => absurd rfl z) (fun _ => b119_22 hP (no (Or.inr hs))))) (fun n hn1 hn2 en => Bk.i (b119_19 hP (fun _ => ?_) (fun z => absurd z (by decide)))))))))
  subst ei
  subst en
  have v24 : vp_in (nI 24 + nI i) 121 := vpx (by omega) (by decide)
  have t24 : (nI 24 + nI i).toNatClampNeg = 24 + i := nIx (by omega)
  refine b119_24 hP v24 (c60i h fun m0 f0 => Bk.v (b119_51 hP ?_))
  rw [t24]
  generalize hF : qtrs (gD mem) (mem 48) = F
  have hF0 : F 0 = mem 48 := by rw [← hF]; rfl
  have key := xloop (N := n) (G := fun j => ∀ m', FI mem j m' → P 54 [.ref 0, .int (nI i), .int (nI n), .int (lgF F i j).1, .int (nI (lgF F i j).2), .int (nI (j + 1))] [] (0, 0) (LAY, RFu r, m')) ?_ ?_
  · have := key m0 f0
    rw [show (lgF F i 0).1 = mem 48 (24 + i) by rw [← hF0]; rfl] at this
    exact this
  · intro m' f'
    refine b119_54 hP (fun _ => b119_115 hP (c31 fun m1 a1 w1 => Bk.v (b119_122 hP (c32 w1 (by decide) fun m2 a2 w2 => Bk.v (b119_131 hP (K _ _ ?_)))))) (fun z => absurd (nI_lt (by omega) (by omega)) z)
    intro Q2 k2
    have a3 : Ag [3, 4] m' m2 := (a1.mono (by decide)).trans a2
    have aa : Ag (3 :: 4 :: fuW) mem m2 := (f'.1.mono (fun _ h => List.mem_cons_of_mem _ (List.mem_cons_of_mem _ h))).trans (a3.mono (by decide))
    have hMB := RRc_MB h (by omega) aa (by decide) (by decide)
    refine c_in rfl rfl rfl fun P hP => b204_0 hP (c162 (N := N) (by rw [e20 (by decide), aa 108 (by decide), hN2]) (by omega) (fun q => absurd rfl (q i hi)) (fun _ _ _ => Bk.i (b204_10 hP (fun z => absurd z (by decide)) (fun _ => b204_13 hP (c158r (a := 0) (b := 200) (by decide) (by decide) (fun q => absurd rfl (q n hn1 hn2)) (fun _ _ _ _ => Bk.i (b204_21 hP (fun _ => b204_26 hP (m191 (MB20 hMB) fun m3 i3 => Bk.v (b204_35 hP (vpn (by omega) (by decide)) ?_))) (fun z => absurd z (by decide)))))))))
    rw [nIc (by omega), (i3.2.2.1 i (by omega)).2.2.2.1]
    have key2 := xloop (N := n) (G := fun j => ∀ r' m', MI (xu2 m2 108 20 (nI 0)) (gD mem) (mem 48) j m' → P 48 [.ref 108, .int (nI i), .int (nI n), .int (lgF F i j).1, .int (nI (lgF F i j).2), .int (nI (j + 1))] [] (0, 0) (LAY, RFu r', m')) ?_ ?_
    · have := key2 r m3 i3
      rw [show (lgF F i 0).1 = mem 48 (24 + i) by rw [← hF0]; rfl] at this
      exact this
    · intro r' m4 i'
      refine b204_48 hP (fun _ => b204_89 hP (m192 (MB20 hMB) i' fun m5 a5 v5 => Bk.v (b204_98 hP (m161 a5 v5 fun m6 a6 v6 w6 => Bk.v (b204_109 hP (k2 _ _ (kEnd (kR1 h f' a3 w2 (t20 a6) (by rw [← g1]; exact v6) w6) hB))))))) (fun z => absurd (nI_lt (by omega) (by omega)) z)
    · intro j hj ih r' m4 i'
      refine b204_48 hP (fun z => absurd z (nI_nlt (by omega) (by omega))) (fun _ => b204_54 hP (m190 (MB20 hMB) i' (by omega) fun r2 m5 y i2 => Bk.i ?_))
      have e : m5 117 i = F (j + 1) (24 + i) := by rw [(i2.2.2.1 i (by omega)).2.2.2.1, hF]
      have := ih r2 m5 i2
      rw [lgF_s] at this
      refine b204_58 hP (vpn (by omega) (by decide)) (fun z => b204_72 hP (vpn (by omega) (by decide)) (b204_83 hP ?_)) (fun z => b204_69 hP (b204_83 hP ?_))
      · rw [nIc (by omega), e] at z ⊢
        rw [if_pos z] at this
        rw [nIs]
        exact this
      · rw [nIc (by omega), e] at z
        rw [if_neg z] at this
        rw [nIs]
        exact this
  · intro j hj ih m' f'
    refine b119_54 hP (fun z => absurd z (nI_nlt (by omega) (by omega))) (fun _ => b119_60 hP (c8f h (by omega) (by omega) f' fun m2 y f2 => Bk.i ?_))
    have e : m2 50 (24 + i) = F (j + 1) (24 + i) := by rw [f2.2, hF]
    have := ih m2 f2
    rw [lgF_s] at this
    refine b119_75 hP v24 (fun z => b119_109 hP ?_) (fun z => b119_92 hP v24 (b119_109 hP ?_))
    · rw [t24, e] at z
      rw [if_neg (Int32.not_lt.mpr z)] at this
      rw [nIs]
      exact this
    · rw [t24, e] at z ⊢
      rw [if_pos (Int32.not_le.mp z)] at this
      rw [nIs]
      exact this
/-- two sit in one room -/
def sitT (c : Nat → Int32) (a b : Nat) : Prop := c (8 + a) = 2 ∧ c (8 + b) = 2 ∧ c a = c b
def sitB (c : Nat → Int32) (a b : Nat) : Bool := decide (c (8 + a) = 2 ∧ c (8 + b) = 2 ∧ c a = c b)
theorem sitB_t {c : Nat → Int32} {a b : Nat} (z : ¬ b01 (c (8 + a) = 2 ∧ c (8 + b) = 2 ∧ c a = c b) = 0) : sitB c a b = true := decide_eq_true (Decidable.by_contra fun q => z (b01_f q))
theorem sitB_f {c : Nat → Int32} {a b : Nat} (z : b01 (c (8 + a) = 2 ∧ c (8 + b) = 2 ∧ c a = c b) = 0) : ¬ sitB c a b = true := fun q => (b01_0.mp z) (of_decide_eq_true q)
/-- the first k .. at which it is so, in t tries -/
def fnd (S : Nat → Bool) : Nat → Nat → Int32
  | 0, _ => -2
  | t + 1, k => if S k = true then nI k else fnd S t (k + 1)
theorem tk_both (x y : Int32) : Tk 127 214 [.int x, .int y] := by
  intro N R B r mem Q h hB K
  obtain ⟨hR, hR4, hN, hN8, hR2, hN2⟩ := (RTo_parts h.2.2.1).1
  obtain ⟨hM, hS⟩ := h.2.2.2.1
  obtain ⟨g1, g2, g3, g4, g5, g6, g7⟩ := RRc_g h
  refine c_in rfl rfl rfl fun P hP => b127_0 hP (c152 hN (by omega) (fun hno => Bk.i (b127_6 hP (fun z => absurd rfl z) (fun _ => b127_9 hP (K _ _ ?_)))) (fun a b hab => Bk.i (b127_6 hP (fun _ => b127_11 hP (c60i h fun m0 f0 => Bk.v (b127_22 hP ?_))) (fun z => absurd z (by decide)))))
  · intro Q2 k2
    exact c_in rfl rfl rfl fun P hP => b214_0 hP (c163 (N := N) (by rw [e20 (by decide), hN2]) (by omega) (fun _ => Bk.i (b214_11 hP (fun z => absurd rfl z) (fun _ => b214_14 hP (k2 _ _ (kEnd (kM20 h) hB))))) (fun a b q => absurd q (hno a b)))
  · obtain ⟨ha, hb, hne, rfl, rfl⟩ := id hab
    generalize hF : qtrs (gD mem) (mem 48) = F
    have fin : ∀ j m' v, FI mem j m' → v = fnd (fun k => sitB (F k) a b) 200 1 → Q (some (.int v)) (LAY, RFu r, m') := fun j0 m' v f' hv => by
      refine K _ _ ?_
      intro Q2 k2
      have aa : Ag fuW mem m' := f'.1
      have hMB := RRc_MB h (by omega) aa (by decide) (by decide)
      refine c_in rfl rfl rfl fun P hP => b214_0 hP (c163 (N := N) (by rw [e20 (by decide), aa 108 (by decide), hN2]) (by omega) (fun q => absurd hab (q a b)) (fun _ _ _ => Bk.i (b214_11 hP (fun _ => b214_16 hP (m191 (MB20 hMB) fun m3 i3 => Bk.v (b214_25 hP ?_))) (fun z => absurd z (by decide)))))
      have done : ∀ r' m4 j w v4, MI (xu2 m' 108 20 (nI 0)) (gD mem) (mem 48) j m4 → w = v → P 71 [.ref 108, .int (nI a), .int (nI b), .int w, v4] [] (0, 0) (LAY, RFu r', m4) := fun r' m4 j w v4 i4 hw => by
        rw [hw]
        exact b214_71 hP (m192 (MB20 hMB) i4 fun m5 a5 v5 => Bk.v (b214_80 hP (k2 _ _ (kEnd (kR0 h f' Ag.rfl' (Or.inl rfl) (t20 a5) (by rw [← g1]; exact v5)) hB))))
      have key2 : ∀ t j r' m4, t + j = 200 → MI (xu2 m' 108 20 (nI 0)) (gD mem) (mem 48) j m4 → v = fnd (fun k => sitB (F k) a b) t (j + 1) → P 31 [.ref 108, .int (nI a), .int (nI b), .int (-2), .int (nI (j + 1))] [] (0, 0) (LAY, RFu r', m4) := by
        intro t
        induction t with
        | zero =>
          intro j r' m4 hj i4 hv
          refine b214_31 hP (fun _ => done r' m4 j _ _ i4 hv.symm) (fun z => absurd (nI_lt (by omega) (by omega)) z)
        | succ t ih =>
          intro j r' m4 hj i4 hv
          refine b214_31 hP (fun z => absurd z (nI_nlt (by omega) (by omega))) (fun _ => b214_39 hP (fun z => absurd z (by decide)) (fun _ => b214_43 hP (m190 (MB20 hMB) i4 (by omega) fun r2 m5 y i2 => Bk.i (b214_47 hP (c212 (N := fN (gD mem)) i2.2.2 (by omega) (qtrs_PV (by omega) (by omega) (by rw [g1]; exact hS.1) _) (by omega) (by omega) (Bk.i (b214_54 hP (fun z => b214_62 hP (b214_64 hP ?_)) (fun z => b214_57 hP (b214_64 hP ?_)))))))))
          · rw [hF] at z
            rw [nIs]
            exact ih (j + 1) r2 m5 (by omega) i2 (hv.trans (if_neg (sitB_f z)))
          · rw [hF] at z
            have hv := hv.trans (if_pos (sitB_t z))
            rw [nIs]
            refine b214_31 hP (fun _ => done r2 m5 _ _ _ i2 hv.symm) (fun _ => b214_39 hP (fun _ => done r2 m5 _ _ _ i2 hv.symm) (fun q => absurd (nI_pos' (by omega)) q))
      exact key2 200 0 r m3 rfl i3 hv
    have key : ∀ t j m', t + j = 200 → FI mem j m' → fnd (fun k => sitB (F k) a b) t (j + 1) = fnd (fun k => sitB (F k) a b) 200 1 → P 24 [.ref 0, .int (nI a), .int (nI b), .int (nI (j + 1))] [] (0, 0) (LAY, RFu r, m') := by
      intro t
      induction t with
      | zero =>
        intro j m' hj f' hv
        exact b127_24 hP (fun _ => b127_67 hP (fin j m' _ f' hv)) (fun z => absurd (nI_lt (by omega) (by omega)) z)
      | succ t ih =>
        intro j m' hj f' hv
        refine b127_24 hP (fun z => absurd z (nI_nlt (by omega) (by omega))) (fun _ => b127_31 hP (c8f h (by omega) (by omega) f' fun m2 y f2 => Bk.i (b127_46 hP (c66 (Or.inr (Or.inl rfl)) (by omega) (by omega) (Bk.i (b127_56 hP (fun z => b127_61 hP ?_) (fun z => b127_59 hP (fin (j + 1) m2 _ f2 ?_))))))))
        · rw [show m2 (49 + 1) = _ from f2.2, hF] at z
          rw [nIs]
          exact ih (j + 1) m2 (by omega) f2 ((if_neg (sitB_f z)).symm.trans hv)
        · rw [show m2 (49 + 1) = _ from f2.2, hF] at z
          exact (if_pos (sitB_t z)).symm.trans hv
    exact key 200 0 m0 rfl f0 rfl
theorem tk_often (x y w : Int32) : Tk 128 215 [.int x, .int y, .int w] := by
  intro N R B r mem Q h hB K
  obtain ⟨hR, hR4, hN, hN8, hR2, hN2⟩ := (RTo_parts h.2.2.1).1
  obtain ⟨hM, hS⟩ := h.2.2.2.1
  obtain ⟨g1, g2, g3, g4, g5, g6, g7⟩ := RRc_g h
  have no : ((∀ a b, ¬ TwoP N x y a b) ∨ (∀ n, 0 ≤ n → n ≤ 200 → w ≠ nI n)) → Q (some (.int (-1))) (LAY, RFu r, mem) := fun hno => by
    refine K _ _ ?_
    intro Q2 k2
    refine c_in rfl rfl rfl fun P hP => ?_
    have f : ∀ v0 v1 v2 v3 v4 v5, P 25 [v0, v1, v2, v3, v4, v5] [] (0, 0) (LAY, RFu r, xu2 mem 108 20 (nI 0)) := fun _ _ _ _ _ _ => b215_25 hP (k2 _ _ (kEnd (kM20 h) hB))
    refine b215_0 hP (c163 (N := N) (by rw [e20 (by decide), hN2]) (by omega) (fun _ => Bk.i (b215_11 hP (fun _ => f _ _ _ _ _ _) (fun z => absurd rfl z))) (fun a b hab => Bk.i (b215_11 hP (fun z => absurd z (by decide)) (fun _ => b215_14 hP (c158r (a := 0) (b := 200) (by decide) (by decide) (fun _ => Bk.i (b215_22 hP (fun z => absurd rfl z) (fun _ => f _ _ _ _ _ _))) (fun s hs1 hs2 es => ?_))))))
    rcases hno with q | q
    · exact absurd hab (q a b)
    · exact absurd es (q s hs1 hs2)
  refine c_in rfl rfl rfl fun P hP => b128_0 hP (c152 hN (by omega) (fun hno => Bk.i (b128_6 hP (fun _ => b128_20 hP (no (Or.inl hno))) (fun z => absurd rfl z))) (fun a b hab => Bk.i (b128_6 hP (fun z => absurd z (by decide)) (fun _ => b128_9 hP (c151 (a := 0) (b := 200) (by decide) (by decide) (fun hs => Bk.i (b128_17 hP (fun z => absurd rfl z) (fun _ => b128_20 hP (no (Or.inr hs))))) (fun n hn1 hn2 en => Bk.i (b128_17 hP (fun _ => b128_22 hP (c60i h fun m0 f0 => Bk.v (b128_36 hP ?_))) (fun z => absurd z (by decide)))))))))
  obtain ⟨ha, hb, hne, rfl, rfl⟩ := id hab
  subst en
  generalize hF : qtrs (gD mem) (mem 48) = F
  have cs : ∀ j, cnt (fun k => sitB (F (k + 1)) a b) (j + 1) = cnt (fun k => sitB (F (k + 1)) a b) j + (if sitB (F (j + 1)) a b = true then 1 else 0) := fun j => rfl
  have key := xloop (N := n) (G := fun j => ∀ m', FI mem j m' → P 39 [.ref 0, .int (nI a), .int (nI b), .int (nI n), .int (nI (cnt (fun k => sitB (F (k + 1)) a b) j)), .int (nI j)] [] (0, 0) (LAY, RFu r, m')) ?_ ?_
  · exact key m0 f0
  · intro m' f'
    refine b128_39 hP (fun _ => b128_82 hP (K _ _ ?_)) (fun z => absurd (Int32.le_refl _) z)
    intro Q2 k2
    have hMB := RRc_MB h (by omega) f'.1 (by decide) (by decide)
    refine c_in rfl rfl rfl fun P hP => b215_0 hP (c163 (N := N) (by rw [e20 (by decide), f'.1 108 (by decide), hN2]) (by omega) (fun q => absurd hab (q a b)) (fun _ _ _ => Bk.i (b215_11 hP (fun z => absurd z (by decide)) (fun _ => b215_14 hP (c158r (a := 0) (b := 200) (by decide) (by decide) (fun q => absurd rfl (q n hn1 hn2)) (fun _ _ _ _ => Bk.i (b215_22 hP (fun _ => b215_27 hP (m191 (MB20 hMB) fun m3 i3 => Bk.v (b215_36 hP ?_))) (fun z => absurd z (by decide)))))))))
    have key2 := xloop (N := n) (G := fun j => ∀ r' m4, MI (xu2 m' 108 20 (nI 0)) (gD mem) (mem 48) j m4 → P 42 [.ref 108, .int (nI a), .int (nI b), .int (nI n), .int (nI (cnt (fun k => sitB (F (k + 1)) a b) j)), .int (nI j)] [] (0, 0) (LAY, RFu r', m4)) ?_ ?_
    · exact key2 r m3 i3
    · intro r' m4 i'
      refine b215_42 hP (fun _ => b215_78 hP (m192 (MB20 hMB) i' fun m5 a5 v5 => Bk.v (b215_87 hP (k2 _ _ (kEnd (kR0 h f' Ag.rfl' (Or.inl rfl) (t20 a5) (by rw [← g1]; exact v5)) hB))))) (fun z => absurd (Int32.le_refl _) z)
    · intro j hj ih r' m4 i'
      refine b215_42 hP (fun z => absurd z (nI_ge hj (by omega))) (fun _ => b215_48 hP (m190 (MB20 hMB) i' (by omega) fun r2 m5 y i2 => Bk.i (b215_52 hP (c212 (N := fN (gD mem)) i2.2.2 (by omega) (qtrs_PV (by omega) (by omega) (by rw [g1]; exact hS.1) _) (by omega) (by omega) (Bk.i (b215_61 hP (fun z => b215_68 hP (b215_69 hP ?_)) (fun z => b215_64 hP (b215_69 hP ?_))))))))
      · rw [hF] at z
        have := ih r2 m5 i2
        rw [cs, if_neg (sitB_f z)] at this
        rw [nI_add, nIs]
        exact this
      · rw [hF] at z
        have := ih r2 m5 i2
        rw [cs, if_pos (sitB_t z)] at this
        rw [nI_add, nIs]
        exact this
  · intro j hj ih m' f'
    refine b128_39 hP (fun z => absurd z (nI_ge hj (by omega))) (fun _ => b128_45 hP (c8f h (by omega) (by omega) f' fun m2 y f2 => Bk.i (b128_60 hP (c66 (Or.inr (Or.inl rfl)) (by omega) (by omega) (Bk.i (b128_70 hP (fun z => b128_76 hP ?_) (fun z => b128_73 hP (b128_76 hP ?_))))))))
    · rw [show m2 (49 + 1) = _ from f2.2, hF] at z
      have := ih m2 f2
      rw [cs, if_neg (sitB_f z)] at this
      rw [nIs]
      exact this
    · rw [show m2 (49 + 1) = _ from f2.2, hF] at z
      have := ih m2 f2
      rw [cs, if_pos (sitB_t z)] at this
      rw [nIs, nIs]
      exact this
def noSt (N : Nat) (c : Nat → Int32) : Bool := decide (mkN (fun p => decide (c (8 + p) = 1)) N = 0)
def clF (N : Nat) (F : Nat → Nat → Int32) : Nat → Nat × Nat
  | 0 => (0, 0)
  | k + 1 => if noSt N (F (k + 1)) = true then ((clF N F k).1 + 1, if (clF N F k).1 = 0 then k + 1 else (clF N F k).2) else clF N F k
theorem clF_le {N : Nat} {F : Nat → Nat → Int32} : ∀ k, (clF N F k).1 ≤ k ∧ (clF N F k).2 ≤ k
  | 0 => ⟨Nat.le_refl _, Nat.le_refl _⟩
  | k + 1 => by
    have := clF_le (N := N) (F := F) k
    unfold clF
    split
    · refine ⟨by dsimp only; omega, ?_⟩
      dsimp only
      split <;> omega
    · omega
def clA (p : Nat × Nat) : Int32 := if p.1 = 0 then -1 else nI p.2
theorem tk_calm (y : Int32) : Tk 133 221 [.int y] := by
  intro N R B r mem Q h hB K
  obtain ⟨hR, hR4, hN, hN8, hR2, hN2⟩ := (RTo_parts h.2.2.1).1
  obtain ⟨hM, hS⟩ := h.2.2.2.1
  obtain ⟨g1, g2, g3, g4, g5, g6, g7⟩ := RRc_g h
  refine c_in rfl rfl rfl fun P hP => b133_0 hP (c151 (a := 0) (b := 200) (by decide) (by decide) (fun hs => Bk.i (b133_8 hP (fun z => absurd rfl z) (fun _ => b133_11 hP (K _ _ ?_)))) (fun n hn1 hn2 en => Bk.i (b133_8 hP (fun _ => b133_13 hP (c60i h fun m0 f0 => Bk.v (b133_28 hP ?_))) (fun z => absurd z (by decide)))))
  · intro Q2 k2
    exact c_in rfl rfl rfl fun P hP => b221_0 hP (c158r (a := 0) (b := 200) (by decide) (by decide) (fun _ => Bk.i (b221_13 hP (fun z => absurd rfl z) (fun _ => b221_16 hP (k2 _ _ (kEnd (kM20 h) hB))))) (fun n hn1 hn2 en => absurd en (hs n hn1 hn2)))
  · subst en
    generalize hF : qtrs (gD mem) (mem 48) = F
    have hSV : ∀ j, j ≤ 200 → SV N R (B + 4 * j) (F j) := fun j hj => by
      have := SV_qs (f := gD mem) (R := R) (B := B) (c := mem 48) (by rw [g1]; exact hS) (by rw [g2]; exact hR4) g6 j (by omega)
      rw [g1, hF] at this
      exact this
    have key := xloop (N := n) (G := fun j => ∀ m', FI mem j m' → P 31 [.ref 0, .int (nI n), .int (nI (clF N F j).1), .int (clA (clF N F j)), .int (nI (j + 1))] [] (0, 0) (LAY, RFu r, m')) ?_ ?_
    · exact key m0 f0
    · intro m' f'
      refine b133_31 hP (fun _ => b133_85 hP (c31 fun m1 a1 w1 => Bk.v (b133_92 hP (c32 w1 (by decide) fun m2 a2 w2 => Bk.v (b133_100 hP (K _ _ ?_)))))) (fun z => absurd (nI_lt (by omega) (by omega)) z)
      intro Q2 k2
      have a3 : Ag [3, 4] m' m2 := (a1.mono (by decide)).trans a2
      have aa : Ag (3 :: 4 :: fuW) mem m2 := (f'.1.mono (fun _ h => List.mem_cons_of_mem _ (List.mem_cons_of_mem _ h))).trans (a3.mono (by decide))
      have hMB := RRc_MB h (by omega) aa (by decide) (by decide)
      refine c_in rfl rfl rfl fun P hP => b221_0 hP (c158r (a := 0) (b := 200) (by decide) (by decide) (fun q => absurd rfl (q n hn1 hn2)) (fun _ _ _ _ => Bk.i (b221_13 hP (fun _ => b221_18 hP (m191 (MB20 hMB) fun m3 i3 => Bk.v (b221_27 hP ?_))) (fun z => absurd z (by decide)))))
      have key2 := xloop (N := n) (G := fun j => ∀ r' m4 v5 v6, MI (xu2 m2 108 20 (nI 0)) (gD mem) (mem 48) j m4 → P 34 [.ref 108, .int (nI n), .int (nI (clF N F j).1), .int (clA (clF N F j)), .int (nI (j + 1)), v5, v6] [] (0, 0) (LAY, RFu r', m4)) ?_ ?_
      · exact key2 r m3 _ _ i3
      · intro r' m4 v5 v6 i'
        refine b221_34 hP (fun _ => b221_115 hP (m192 (MB20 hMB) i' fun m5 a5 v5 => Bk.v (b221_124 hP (m161 a5 v5 fun m6 a6 v6 w6 => Bk.v (b221_134 hP (k2 _ _ (kEnd (kR1 h f' a3 w2 (t20 a6) (by rw [← g1]; exact v6) w6) hB))))))) (fun z => absurd (nI_lt (by omega) (by omega)) z)
      · intro j hj ih r' m4 v5 v6 i'
        have hle := clF_le (N := N) (F := F) j
        refine b221_34 hP (fun z => absurd z (nI_nlt (by omega) (by omega))) (fun _ => b221_40 hP (m190 (MB20 hMB) i' (by omega) fun r2 m5 y i2 => Bk.i (b221_44 hP ?_)))
        have f2 : m5 108 2 = nI N := by rw [i2.1.2 2 (by decide), e20 (by decide), aa 108 (by decide), hN2]
        have hPV := (hSV (j + 1) (by omega)).1
        have hMV := i2.2.2
        rw [hF, g1] at hMV
        have ih' := fun v5 v6 => ih r2 m5 v5 v6 i2
        have key3 := xloop (N := N) (G := fun p => P 51 [.ref 108, .int (nI n), .int (nI (clF N F j).1), .int (clA (clF N F j)), .int (nI (j + 1)), .int (b01 (mkN (fun p => decide (F (j + 1) (8 + p) = 1)) p ≠ 0)), .int (nI p)] [] (0, 0) (LAY, RFu r2, m5)) ?_ ?_
        · exact key3
        · refine b221_51 hP (fun _ => b221_87 hP (fun z => ?_) (fun z => b221_92 hP (b221_109 hP ?_))) (fun z => absurd (by rw [f2]; exact Int32.le_refl _) z)
          · have hns : noSt N (F (j + 1)) = true := decide_eq_true (Decidable.not_not.mp (b01_0.mp z))
            have es : clF N F (j + 1) = ((clF N F j).1 + 1, if (clF N F j).1 = 0 then j + 1 else (clF N F j).2) := if_pos hns
            rw [es] at ih'
            refine b221_95 hP (fun z2 => b221_104 hP (b221_105 hP (b221_109 hP ?_))) (fun z2 => b221_99 hP (b221_105 hP (b221_109 hP ?_)))
            · have hne : ¬ (clF N F j).1 = 0 := fun q => z2 (by rw [q]; rfl)
              have ec : clA ((clF N F j).1 + 1, if (clF N F j).1 = 0 then j + 1 else (clF N F j).2) = clA (clF N F j) := by
                unfold clA
                rw [if_neg (by dsimp only; omega), if_neg hne]
                dsimp only
                rw [if_neg hne]
              have := ih' (.int (b01 (mkN (fun p => decide (F (j + 1) (8 + p) = 1)) N ≠ 0))) (.int (nI N))
              rw [ec] at this
              rw [nIs, nIs]
              exact this
            · have h0 : (clF N F j).1 = 0 := nI_inj (b := 0) z2 (by omega) (by decide)
              have ec : clA ((clF N F j).1 + 1, if (clF N F j).1 = 0 then j + 1 else (clF N F j).2) = nI (j + 1) := by
                unfold clA
                rw [if_neg (by dsimp only; omega), if_pos h0]
              have := ih' (.int (b01 (mkN (fun p => decide (F (j + 1) (8 + p) = 1)) N ≠ 0))) (.int (nI N))
              rw [ec] at this
              rw [nIs, nIs]
              exact this
          · have hns : ¬ noSt N (F (j + 1)) = true := fun q => z (b01_f (fun w => w (of_decide_eq_true q)))
            have es : clF N F (j + 1) = clF N F j := if_neg hns
            rw [es] at ih'
            rw [nIs]
            exact ih' _ _
        · intro p hp ih3
          have e1 : mkN (fun p => decide (F (j + 1) (8 + p) = 1)) (p + 1) = if decide (F (j + 1) (8 + p) = 1) = true then mkN (fun p => decide (F (j + 1) (8 + p) = 1)) p + 2 ^ p else mkN (fun p => decide (F (j + 1) (8 + p) = 1)) p := rfl
          have hpow : 0 < 2 ^ p := Nat.pow_pos (by decide)
          have nx : ∀ w v5, w = b01 (mkN (fun p => decide (F (j + 1) (8 + p) = 1)) (p + 1) ≠ 0) → P 79 [.ref 108, .int (nI n), .int (nI (clF N F j).1), .int (clA (clF N F j)), .int (nI (j + 1)), v5, .int (nI p)] [.int w] (0, 0) (LAY, RFu r2, m5) := fun w v5 hw => by
            refine b221_79 hP ?_
            rw [nIs, hw]
            exact ih3
          refine b221_51 hP (fun z => absurd z (by rw [f2]; exact nI_ge hp (by omega))) (fun _ => b221_60 hP (fun z => b221_74 hP (nx _ _ ?_)) (fun z => b221_65 hP (c193 hMV hPV hp hN8 (Bk.i (b221_71 hP (fun z2 => b221_78 hP (nx _ _ ?_)) (fun z2 => b221_74 hP (nx _ _ ?_)))))))
          · have h1 : mkN (fun p => decide (F (j + 1) (8 + p) = 1)) p ≠ 0 := fun q => z (b01_f (fun w => w q))
            rw [b01_t]
            · rfl
            · rw [e1]; split <;> omega
          · have h1 : mkN (fun p => decide (F (j + 1) (8 + p) = 1)) p = 0 := Decidable.not_not.mp (b01_0.mp z)
            rw [e1, if_neg (by simp [b01_0.mp z2]), h1, b01_f (fun q => q rfl)]
            rfl
          · have h1 : F (j + 1) (8 + p) = 1 := Decidable.by_contra fun q => z2 (b01_f q)
            rw [b01_t]
            · rfl
            · rw [e1, if_pos (by simp [h1])]; omega
    · intro j hj ih m' f'
      have hle := clF_le (N := N) (F := F) j
      have hSj := hSV (j + 1) (by omega)
      refine b133_31 hP (fun z => absurd z (nI_nlt (by omega) (by omega))) (fun _ => b133_37 hP (c8f h (by omega) (by omega) f' fun m2 y f2 => Bk.i (b133_52 hP (c62 (Or.inr (Or.inl rfl)) (Bk.i ?_)))))
      have ih' := ih m2 f2
      have e8 : mkN (fun p => decide (m2 (49 + 1) (8 + p) = nI 1)) 8 = mkN (fun p => decide (F (j + 1) (8 + p) = 1)) N := by
        rw [show m2 (49 + 1) = _ from f2.2, hF, n1]
        exact pose_out hSj i10
      rw [e8]
      refine b133_61 hP (fun z => b133_79 hP ?_) (fun z => ?_)
      · have hns : ¬ noSt N (F (j + 1)) = true := fun q => z (by rw [of_decide_eq_true q]; rfl)
        rw [show clF N F (j + 1) = clF N F j from if_neg hns] at ih'
        rw [nIs]
        exact ih'
      · have hm8 := mkN_lt (fun p => decide (F (j + 1) (8 + p) = 1)) N
        have hp8 : 2 ^ N ≤ 256 := Nat.pow_le_pow_right (show 0 < 2 by decide) hN8
        have hns : noSt N (F (j + 1)) = true := decide_eq_true (nI_inj (b := 0) z (by omega) (by decide))
        have es : clF N F (j + 1) = ((clF N F j).1 + 1, if (clF N F j).1 = 0 then j + 1 else (clF N F j).2) := if_pos hns
        rw [es] at ih'
        refine b133_64 hP (fun z2 => b133_77 hP (b133_78 hP (b133_79 hP ?_))) (fun z2 => b133_72 hP (b133_78 hP (b133_79 hP ?_)))
        · have hne : ¬ (clF N F j).1 = 0 := fun q => z2 (by unfold clA; rw [if_pos q])
          have ec : clA ((clF N F j).1 + 1, if (clF N F j).1 = 0 then j + 1 else (clF N F j).2) = clA (clF N F j) := by
            unfold clA
            rw [if_neg (by dsimp only; omega), if_neg hne]
            dsimp only
            rw [if_neg hne]
          rw [ec] at ih'
          rw [nIs, nIs]
          exact ih'
        · have h0 : (clF N F j).1 = 0 := Decidable.by_contra fun q => by
            unfold clA at z2
            rw [if_neg q] at z2
            exact nI_nm (by omega) z2
          have ec : clA ((clF N F j).1 + 1, if (clF N F j).1 = 0 then j + 1 else (clF N F j).2) = nI (j + 1) := by
            unfold clA
            rw [if_neg (by dsimp only; omega), if_pos h0]
          rw [ec] at ih'
          rw [nIs, nIs]
          exact ih'
