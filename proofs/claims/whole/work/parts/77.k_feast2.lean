section K
variable {N R B r d n T now j rm : Nat} {mem m' m0 m1 m2 m3 m4 m5 : Nat → Nat → Int32} {Q : xQr} {g : xCf} {D : xD}
theorem tk_feast (x : Int32) : Tk 136 224 [.int x] := by
  intro N R B r mem Q h hB K
  obtain ⟨hR, hR4, hN, hN8, hR2, hN2⟩ := (RTo_parts h.2.2.1).1
  obtain ⟨g1, g2, g3, g4, g5, g6, g7, g8, g9⟩ := RRc_g h
  have gN : dN (D0 mem) = N := g1
  have gR : dR (D0 mem) = R := g2
  have hb : B < 500000000 := by omega
  have hH : ∀ r, r < 4 → dH (D0 mem) r ≤ 8 := fun r hr => by
    obtain ⟨-, -, -, -, -, -, h7, -⟩ := h.2.2.1
    obtain ⟨v, q1, q2, -⟩ := h7 r hr
    have q3 : mem 6 r = nI (dH (D0 mem) r) := g8.2.2.1 r hr
    rw [q2] at q3
    have := nI_inj q3 (by omega) (by have := g7.2.2.1 r hr; omega)
    omega
  refine c_in rfl rfl rfl fun P hP => b136_0 hP (c151 (a := 0) (b := 100) (by decide) (by decide) (fun hno => Bk.i (b136_7 hP (fun z => absurd rfl z) (fun _ => b136_10 hP (K _ _ ?_)))) (fun n hn1 hn2 en => Bk.i (b136_7 hP (fun _ => b136_12 hP (fun h2 => b136_26 hP ?_) (fun h2 => b136_23 hP (K _ _ ?_))) (fun z => absurd z (by decide)))))
  · intro Q2 k2
    exact c_in rfl rfl rfl fun P hP => b224_0 hP (c158r (a := 0) (b := 100) (by decide) (by decide) (fun _ => Bk.i (b224_12 hP (fun z => absurd rfl z) (fun _ => b224_15 hP (k2 _ _ (kEnd (kM20 h) hB))))) (fun n h1 h2 e => absurd e (hno n h1 h2)))
  rotate_left
  · intro Q2 k2
    subst en
    exact c_in rfl rfl rfl fun P hP => b224_0 hP (c158r (a := 0) (b := 100) (by decide) (by decide) (fun q => absurd rfl (q n hn1 hn2)) (fun _ _ _ _ => Bk.i (b224_12 hP (fun _ => b224_17 hP (fun z => absurd (by rw [e20 (by decide), hR2] at z; rw [hR]; exact z) h2) (fun _ => b224_25 hP (k2 _ _ (kEnd (kM20 h) hB)))) (fun z => absurd z (by decide)))))
  subst en
  have h2R : 2 ≤ R := Decidable.by_contra fun q => by rw [hR] at h2; exact nI_ge (by omega) (by omega) h2
  obtain ⟨now, nw1, nw2⟩ : ∃ now, now < 500000000 ∧ (mem 48) 120 = nI now := let ⟨now, w1, w2⟩ := h.2.2.2.1.2.now; ⟨now, by omega, w2⟩
  generalize hS0 : (fun a b => stA (cfD (dsE (D0 mem) a b)) (mem 48) n) = S
  have hS : ∀ a b, S a b = stA (cfD (dsE (D0 mem) a b)) (mem 48) n := fun a b => by rw [← hS0]
  have hSk : ∀ a b, ∃ m, m ≤ 8000 ∧ S a b = nI m := fun a b => by
    obtain ⟨m, q1, q2⟩ := stA_nI (f := cfD (dsE (D0 mem) a b)) (c := mem 48) (n := n) (show dN (D0 mem) ≤ 8 by omega)
    exact ⟨m, by omega, by rw [hS]; exact q2⟩
  have inner : ∀ i, i < R → ∀ s, exk s → (∀ v4 v5 m2, TI mem m2 → exRow (exI S i s (R - (i + 1))) m2 → exk (exI S i s (R - (i + 1))) → P 138 [.ref 0, .int (nI n), .int (exL (exI S i s (R - (i + 1)))), .int (nI i), v4, v5] [] (0, 0) (LAY, RFu r, m2)) → ∀ v5 m', TI mem m' → exRow s m' → P 46 [.ref 0, .int (nI n), .int (exL s), .int (nI i), .int (nI (i + 1)), v5] [] (0, 0) (LAY, RFu r, m') := by
    intro i hi s hs kk
    have key := xloop (N := R - (i + 1)) (G := fun k => ∀ v5 m', TI mem m' → exRow (exI S i s k) m' → exk (exI S i s k) → P 46 [.ref 0, .int (nI n), .int (exL (exI S i s k)), .int (nI i), .int (nI (i + 1 + k)), v5] [] (0, 0) (LAY, RFu r, m')) ?_ ?_
    · exact fun v5 m' f rw' => key v5 m' f rw' hs
    · intro v5 m' f w q
      refine b136_46 hP (fun _ => kk _ _ m' f w q) (fun z => absurd (Int32.le_refl _) (by rw [f.1 5 (by decide), hR, show i + 1 + (R - (i + 1)) = R by omega] at z; exact z))
    · intro k hk ih v5 m' f w q
      have hj : i + 1 + k < R := by omega
      generalize ej : i + 1 + k = j at hj
      have hex : exI S i s (k + 1) = ex1 S (exI S i s k) i j := by rw [← ej]; rfl
      rw [hex, show i + 1 + (k + 1) = j + 1 by omega] at ih
      refine b136_46 hP (fun z => absurd z (by rw [f.1 5 (by decide), hR]; exact nI_ge hj (by omega))) (fun _ => b136_58 hP (c88T h f fun m2 f2 a2 t2 => Bk.v (b136_69 hP (c93 (a := i) (b := j) (by omega) (by omega) (show dN (D0 mem) ≤ 8 by omega) (fun p => (g7.2.2.2.2.1 p).1) t2 fun m3 a3 t3 => Bk.v (b136_79 hP ?_)))))
      refine c153T (D := dsE (D0 mem) i j) (Or.inr rfl) h hb (f2.ag a3 (by decide)) t3 (DOk_E g7 hH (by omega) (by omega) (by omega)) gN (by omega) fun m4 f4 a4 e4 e48' => Bk.v (b136_88 hP (c155 (g := cfD (dsE (D0 mem) i j)) (show dN (D0 mem) ≤ 8 by omega) e4 (Bk.i ?_)))
      rw [e48', ← hS]
      have w4 : exRow (exI S i s k) m4 := fun v hv => RwC_tr (RwC_tr (RwC_tr (w v hv) a2 (by decide)) a3 (by decide)) a4 (by decide)
      have rep : ex1 S (exI S i s k) i j = some (S i j, i, j) → ∀ v3, P 105 [.ref 0, .int (nI n), v3, .int (nI i), .int (nI j), .int (S i j)] [] (0, 0) (LAY, RFu r, m4) := fun he v3 => by
        refine b136_105 hP (c31 fun m5 a5 w5 => Bk.v (b136_115 hP (c32 w5 (by decide) fun m6 a6 w6 => Bk.v (b136_123 hP (c32 w6 (by simp) fun m7 a7 w7 => Bk.v (b136_132 hP ?_))))))
        rw [nIs]
        have := ih (.int (S i j)) m7 (((f4.ag a5 (by decide)).ag a6 (by decide)).ag a7 (by decide)) (by rw [he]; intro v hv; injection hv with hv; rw [← hv]; exact w7) (ex1_k q (by omega) (hSk i j))
        rw [he] at this
        exact this
      cases hs' : exI S i s k with
      | none =>
        rw [hs'] at rep
        exact b136_92 hP (fun _ => rep rfl _) (fun z => absurd rfl z)
      | some v =>
        obtain ⟨-, m, q1, q2⟩ := q v hs'
        refine b136_92 hP (fun z => absurd z (by show v.1 ≠ -1; rw [q2]; exact nI_nm (by omega))) (fun _ => b136_99 hP (fun z => b136_132 hP ?_) (fun z => ?_))
        · have z : v.1 ≤ S i j := z
          have he : ex1 S (exI S i s k) i j = some v := by rw [hs']; exact if_neg (Int32.not_lt.mpr z)
          rw [nIs]
          have := ih (.int (S i j)) m4 f4 (by rw [he, ← hs']; exact w4) (ex1_k q (by omega) (hSk i j))
          rw [he] at this
          exact this
        · have z : ¬ v.1 ≤ S i j := z
          rw [hs'] at rep
          exact rep (if_pos (Int32.not_le.mp z)) _
  have key := xloop (N := R) (G := fun i => ∀ v4 v5 m', TI mem m' → exRow (exO S R i) m' → exk (exO S R i) → P 30 [.ref 0, .int (nI n), .int (exL (exO S R i)), .int (nI i), v4, v5] [] (0, 0) (LAY, RFu r, m')) ?_ ?_
  · exact key _ _ mem (TI0 h) (fun v hv => by cases hv) (fun v hv => by cases hv)
  · intro v4 v5 m1 f1 w1 q1
    obtain ⟨v, hv⟩ := exO_s (S := S) h2R R (by omega)
    rw [hv]
    refine b136_30 hP (fun _ => b136_144 hP (K _ _ ?_)) (fun z => absurd (Int32.le_refl _) (by rw [f1.1 5 (by decide), hR] at z; exact z))
    intro Q2 k2
    obtain ⟨t1, t2, t3, t4⟩ := TI_M h f1
    have b1 : MwD (xu2 m1 108 20 (nI 0)) (D0 mem) := MwD_ag t1 th20 (by simp) (by decide)
    have b2 : MV (xu2 m1 108 20 (nI 0)) N (mem 48) := t2.ag th20 (by simp) (by decide)
    have bR : xu2 m1 108 20 (nI 0) 108 0 = nI R := by rw [b1.1, gR]
    have b32 : xu2 m1 108 20 (nI 0) 108 32 = -1 := b1.2.2.2.2.1
    refine c_in rfl rfl rfl fun P hP => b224_0 hP ?_
    generalize hm2 : xu2 m1 108 20 (nI 0) = mb at b1 b2 bR b32
    refine c158r (a := 0) (b := 100) (by decide) (by decide) (fun q => absurd rfl (q n hn1 hn2)) (fun _ _ _ _ => Bk.i (b224_12 hP (fun _ => b224_17 hP (fun _ => b224_28 hP ?_) (fun z => absurd (by rw [bR]; rw [hR] at h2; exact h2) z)) (fun z => absurd z (by decide))))
    have step : ∀ (s : exT) i j r' m', i < R → j < R → i ≠ j → AgM mtW (33 :: 32 :: mqV) mb m' → MV m' N (mem 48) → exk s → ∀ v7, (∀ v7 r2 m5, AgM mtW (33 :: 32 :: mqV) mb m5 → MV m5 N (mem 48) → P 110 [.ref 108, .int (nI n), .int (exA (ex1 S s i j)), .int (exB (ex1 S s i j)), .int (exl (ex1 S s i j)), .int (nI i), .int (nI j), v7] [] (0, 0) (LAY, RFu r2, m5)) → P 62 [.ref 108, .int (nI n), .int (exA s), .int (exB s), .int (exl s), .int (nI i), .int (nI j), v7] [] (0, 0) (LAY, RFu r', m') := by
      intro s i j r' m' hi hj hne a v q v7 kk
      refine b224_62 hP ?_
      have a3' : AgM [] [33, 32] m' (xu2 (xu2 m' 108 33 (nI i)) 108 32 (nI j)) := (AgM.rfl'.us (by simp)).us (by simp)
      have e32 : xu2 (xu2 m' 108 33 (nI i)) 108 32 (nI j) 108 32 = nI j := by rw [xu2_eq, upd_at]
      have e33 : xu2 (xu2 m' 108 33 (nI i)) 108 32 (nI j) 108 33 = nI i := by rw [xu2_eq, upd_ne (by decide), xu2_eq, upd_at]
      generalize xu2 (xu2 m' 108 33 (nI i)) 108 32 (nI j) = m3 at a3' e32 e33
      have a3 : AgM mtW (33 :: 32 :: mqV) mb m3 := a.trans (a3'.mono (by simp) (by decide))
      have w3 := CfM_E (a := i) (b := j) b1 g7 hH (by omega) (by omega) hne a3 e32 e33
      refine m222 (g := setH (cfD (dsE (D0 mem) i j)) (fH2 (D0 mem) i j)) (Or.inr rfl) w3 (by show PV (dN (D0 mem)) _; rw [gN]; exact t3) (by show MV m3 (dN (D0 mem)) _; rw [gN]; exact v.ag a3' (by simp) (by decide)) ⟨now, nw1, nw2⟩ (by omega) fun r4 m4 a4 v4 _ _ => Bk.i ?_
      have v4 : MV m4 (dN (D0 mem)) (mem 48) := v4
      rw [gN] at v4
      rw [← stA_E g7 (by omega) (by omega) hne nw2 (by omega), ← hS]
      have a6 : AgM mtW (33 :: 32 :: mqV) mb m4 := a3.trans (a4.mono (fun _ h => h) (by decide))
      have rep : ex1 S s i j = some (S i j, i, j) → ∀ v2 v3 v4, P 100 [.ref 108, .int (nI n), v2, v3, v4, .int (nI i), .int (nI j), .int (S i j)] [] (0, 0) (LAY, RFu r4, m4) := fun he v2 v3 v4' => by
        have := kk (.int (S i j)) r4 m4 a6 v4
        rw [he] at this
        exact b224_100 hP this
      cases s with
      | none => exact b224_83 hP (fun _ => rep rfl _ _ _) (fun z => absurd rfl z)
      | some v =>
        obtain ⟨q0, m, q1, q2⟩ := q v rfl
        refine b224_83 hP (fun z => absurd z (nI_nm (by omega))) (fun _ => b224_90 hP (fun z => rep (if_pos z) _ _ _) (fun z => b224_97 hP ?_))
        have he : ex1 S (some v) i j = some v := if_neg z
        have := kk (.int (S i j)) r4 m4 a6 v4
        rw [he] at this
        exact this
    have inn : ∀ i, i < R → ∀ s, exk s → (∀ v6 v7 r' m', AgM mtW (33 :: 32 :: mqV) mb m' → MV m' N (mem 48) → exk (exI S i s (R - (i + 1))) → P 116 [.ref 108, .int (nI n), .int (exA (exI S i s (R - (i + 1)))), .int (exB (exI S i s (R - (i + 1)))), .int (exl (exI S i s (R - (i + 1)))), .int (nI i), v6, v7] [] (0, 0) (LAY, RFu r', m')) → ∀ v7 r' m', AgM mtW (33 :: 32 :: mqV) mb m' → MV m' N (mem 48) → P 53 [.ref 108, .int (nI n), .int (exA s), .int (exB s), .int (exl s), .int (nI i), .int (nI (i + 1)), v7] [] (0, 0) (LAY, RFu r', m') := by
      intro i hi s hs kk
      have key := xloop (N := R - (i + 1)) (G := fun k => ∀ v7 r' m', AgM mtW (33 :: 32 :: mqV) mb m' → MV m' N (mem 48) → exk (exI S i s k) → P 53 [.ref 108, .int (nI n), .int (exA (exI S i s k)), .int (exB (exI S i s k)), .int (exl (exI S i s k)), .int (nI i), .int (nI (i + 1 + k)), v7] [] (0, 0) (LAY, RFu r', m')) ?_ ?_
      · exact fun v7 r' m' a v => key v7 r' m' a v hs
      · intro v7 r' m' a v q
        refine b224_53 hP (fun _ => kk _ _ r' m' a v q) (fun z => absurd (Int32.le_refl _) (by rw [a.2 0 (by decide), bR, show i + 1 + (R - (i + 1)) = R by omega] at z; exact z))
      · intro k hk ih v7 r' m' a v q
        have hj : i + 1 + k < R := by omega
        generalize ej : i + 1 + k = j at hj
        have hex : exI S i s (k + 1) = ex1 S (exI S i s k) i j := by rw [← ej]; rfl
        rw [hex, show i + 1 + (k + 1) = j + 1 by omega] at ih
        refine b224_53 hP (fun z => absurd z (by rw [a.2 0 (by decide), bR]; exact nI_ge hj (by omega))) (fun _ => step _ i j r' m' hi hj (by omega) a v q v7 fun v7 r2 m5 a5 v5 => b224_110 hP ?_)
        rw [nIs]
        exact ih _ r2 m5 a5 v5 (ex1_k q (by omega) (hSk i j))
    have key2 := xloop (N := R) (G := fun i => ∀ v6 v7 r' m', AgM mtW (33 :: 32 :: mqV) mb m' → MV m' N (mem 48) → exk (exO S R i) → P 38 [.ref 108, .int (nI n), .int (exA (exO S R i)), .int (exB (exO S R i)), .int (exl (exO S R i)), .int (nI i), v6, v7] [] (0, 0) (LAY, RFu r', m')) ?_ ?_
    · exact key2 _ _ r mb AgM.rfl' b2 (fun v hv => by cases hv)
    · intro v6 v7 r' m' a v' q
      rw [hv]
      have a19 : AgM [] [32, 19] m' (xu2 (xu2 m' 108 32 (-1)) 108 19 (nI 0)) := (AgM.rfl'.us (by simp)).us (by simp)
      have e32 : xu2 (xu2 m' 108 32 (-1)) 108 19 (nI 0) 108 32 = -1 := by rw [xu2_eq, upd_ne (by decide), xu2_eq, upd_at]
      refine b224_38 hP (fun _ => b224_122 hP (c161 (xs := []) (RwM_nil (by rw [xu2_eq, upd_at])) (by decide) fun m4 a4 w4 => Bk.v (b224_137 hP (c161 w4 (by simp) fun m5 a5 w5 => Bk.v (b224_142 hP (k2 _ _ (kEnd (N := N) (R := R) ?_ hB))))))) (fun z => absurd (Int32.le_refl _) (by rw [a.2 0 (by decide), bR] at z; exact z))
      have aa : AgM (123 :: mtW) (33 :: 32 :: 19 :: mqV) mb m5 := (((a.mono (by decide) (by decide)).trans (a19.mono (by simp) (by decide))).trans (a4.mono (by simp) (by decide))).trans (a5.mono (by simp) (by decide))
      have v5 : MV m5 N (mem 48) := ((v'.ag a19 (by simp) (by decide)).ag a4 (by decide) (by decide)).ag a5 (by decide) (by decide)
      have e325 : m5 108 32 = mb 108 32 := by rw [a5.2 32 (by decide), a4.2 32 (by decide), e32, b32]
      have am : AgM [] [33] m5 (xu2 m5 108 33 (mb 108 33)) := AgM.rfl'.us (by simp)
      have ar : AgM (123 :: mtW) (19 :: mqV) mb (xu2 m5 108 33 (mb 108 33)) := ((aa.us (by decide)).drops (by rw [xu2_eq, upd_at])).drops (by rw [xu2_eq, upd_ne (by decide), e325])
      rw [← hm2] at ar
      refine kM33 (mem := xu2 m5 108 33 (xu2 m1 108 20 (nI 0) 108 33)) (kT1 h f1 (Ag.rfl' (W := [3, 4])) (w1 v hv) (t20 ar) (v5.ag (by rw [hm2]; exact am) (by simp) (by decide)) ?_) ?_
      · rw [hm2]
        exact ⟨by rw [am.2 19 (by decide)]; exact w5.1, by rw [am.1 123 (by decide) (by decide)]; exact w5.2⟩
      · rw [hm2]
        exact ⟨fun c hc h8 => (am.1 c hc h8).symm, fun j hj => (am.2 j hj).symm⟩
    · intro i hi ih v6 v7 r' m' a v' q
      refine b224_38 hP (fun z => absurd z (by rw [a.2 0 (by decide), bR]; exact nI_ge hi (by omega))) (fun _ => b224_47 hP ?_)
      rw [nIs]
      refine inn i hi (exO S R i) q (fun v6 v7 r' m' a v q => b224_116 hP ?_) _ r' m' a v'
      rw [nIs]
      exact ih _ _ r' m' a v q
  · intro i hi ih v4 v5 m1 f1 w1 q1
    refine b136_30 hP (fun z => absurd z (by rw [f1.1 5 (by decide), hR]; exact nI_ge hi (by omega))) (fun _ => b136_41 hP ?_)
    rw [nIs]
    refine inner i hi (exO S R i) q1 (fun v4 v5 m2 f2 w2 q2 => b136_138 hP ?_) _ m1 f1 w1
    rw [nIs]
    exact ih _ _ m2 f2 w2 q2
end K
