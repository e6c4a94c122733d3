/-! even -/
def evA (D : xD) (k : Nat) : List Int32 := if k = 1 then [nI 1103] else if k = 2 then [nI 1098] else if k = 3 then [nI 1099] else dA D
def mxF (f : Nat → Int32) : Nat → Int32 × Int32
  | 0 => (f 0, f 0)
  | k + 1 => (if (mxF f k).1 < f (k + 1) then f (k + 1) else (mxF f k).1, if f (k + 1) < (mxF f k).2 then f (k + 1) else (mxF f k).2)
theorem mxF_s {f : Nat → Int32} {k : Nat} : mxF f (k + 1) = (if (mxF f k).1 < f (k + 1) then f (k + 1) else (mxF f k).1, if f (k + 1) < (mxF f k).2 then f (k + 1) else (mxF f k).2) := rfl
def flI (F : Nat → Int32) : Nat → Nat
  | 0 => 0
  | k + 1 => if F (k + 1) < F (flI F k) then k + 1 else flI F k
theorem flI_s {F : Nat → Int32} {k : Nat} : flI F (k + 1) = if F (k + 1) < F (flI F k) then k + 1 else flI F k := rfl
theorem flI_le {F : Nat → Int32} : ∀ {k : Nat}, flI F k ≤ k
  | 0 => Nat.le_refl 0
  | k + 1 => by
    rw [flI_s]
    split
    · exact Nat.le_refl _
    · exact Nat.le_succ_of_le flI_le
theorem DOk_A {D : xD} {xs : List Int32} (hD : DOk D) : DOk (dsA D xs) := hD
section K
variable {N R B r d n T : Nat} {mem m' m1 m2 m3 m4 m5 : Nat → Nat → Int32} {Q : xQr} {g : xCf} {D : xD}
theorem MwD_A {W V : List Nat} {k : Nat} (h : MwD m1 D) (h29 : m1 108 29 = nI 0) (a : AgM W V m1 m2) (dW : ∀ x, x ∈ cfCells → x ∉ W) (dV : 0 ∉ V ∧ 2 ∉ V ∧ 32 ∉ V) (e29 : m2 108 29 = nI k) (hk : k < 4) : MwD m2 (dsA D (evA D k)) := by
  obtain ⟨h1, h2, h3, h4, h5, h6, h7, h8⟩ := h
  refine ⟨by rw [a.2 0 dV.1]; exact h1, by rw [a.2 2 dV.2.1]; exact h2, by rw [a.1 109 (dW _ (by decide)) (by decide)]; exact h3, by rw [a.1 110 (dW _ (by decide)) (by decide), a.1 111 (dW _ (by decide)) (by decide)]; exact h4, by rw [a.2 32 dV.2.2]; exact h5, by rw [a.1 113 (dW _ (by decide)) (by decide), a.1 128 (dW _ (by decide)) (by decide), a.1 112 (dW _ (by decide)) (by decide), a.1 129 (dW _ (by decide)) (by decide)]; exact h6, ?_, ?_⟩
  · show RuE m2 0 (evA D k)
    have hc : k = 0 ∨ k = 1 ∨ k = 2 ∨ k = 3 := by omega
    rcases hc with rfl | rfl | rfl | rfl
    · rcases h7 with q | q | q | q
      · exact absurd (h29.symm.trans q.2.1) (by decide)
      · exact absurd (h29.symm.trans q.2.1) (by decide)
      · exact absurd (h29.symm.trans q.2.1) (by decide)
      · obtain ⟨-, nn, tx, q1, q2⟩ := q
        refine Or.inr (Or.inr (Or.inr ⟨Or.inr e29, nn, tx, ?_, q2⟩))
        unfold RmT at q1 ⊢
        rw [a.1 (125 + 0) (dW _ (by decide)) (by decide), a.1 127 (dW _ (by decide)) (by decide)]
        exact q1
    · exact Or.inl ⟨rfl, e29, rfl⟩
    · exact Or.inr (Or.inl ⟨rfl, e29, rfl⟩)
    · exact Or.inr (Or.inr (Or.inl ⟨rfl, e29, rfl⟩))
  · rcases h8 with q | q | q | q
    · exact absurd q.1 (by decide)
    · exact absurd q.1 (by decide)
    · exact absurd q.1 (by decide)
    · obtain ⟨-, nn, tx, q1, q2⟩ := q
      refine Or.inr (Or.inr (Or.inr ⟨Or.inl rfl, nn, tx, ?_, q2⟩))
      unfold RmT at q1 ⊢
      rw [a.1 (125 + 1) (dW _ (by decide)) (by decide), a.1 127 (dW _ (by decide)) (by decide)]
      exact q1
theorem c142 {k : Nat} (hk : k < 4) (hN : dN D ≤ 8) (hT : TwD m' 26 D) (kk : ∀ m2, Ag [41, 42] m' m2 → TwD m2 26 (dsA D (evA D k)) → Q none (LAY, RFu r, m2)) : xCall (d + 3) 142 [.ref 0, .int (nI k)] (LAY, RFu r, m') Q := by
  have hc : k = 0 ∨ k = 1 ∨ k = 2 ∨ k = 3 := by omega
  have hq : isRule 41 := by unfold isRule; decide
  refine c_in rfl rfl rfl fun P hP => ?_
  rcases hc with rfl | rfl | rfl | rfl
  · exact b142_0 hP (fun _ => b142_73 hP (kk m' Ag.rfl' hT)) (fun z => absurd z (by decide)) (fun z => absurd z (by decide)) (fun z => absurd z (by decide))
  · exact b142_0 hP (fun z => absurd z (by decide)) (fun _ => b142_28 hP (c37 hq (by decide) fun m2 a e => Bk.v (b142_40 hP (b142_73 hP (kk m2 a (TwD_A hT a e hN)))))) (fun z => absurd z (by decide)) (fun z => absurd z (by decide))
  · exact b142_0 hP (fun z => absurd z (by decide)) (fun z => absurd z (by decide)) (fun _ => b142_43 hP (c37 hq (by decide) fun m2 a e => Bk.v (b142_55 hP (b142_73 hP (kk m2 a (TwD_A hT a e hN)))))) (fun z => absurd z (by decide))
  · exact b142_0 hP (fun z => absurd z (by decide)) (fun z => absurd z (by decide)) (fun z => absurd z (by decide)) (fun _ => b142_58 hP (c37 hq (by decide) fun m2 a e => Bk.v (b142_70 hP (b142_73 hP (kk m2 a (TwD_A hT a e hN))))))
theorem c65 (hN : 0 < N) (hN8 : N ≤ 8) (k : Q (some (.int ((mxF (fun p => mem 50 (40 + p)) (N - 1)).1 - (mxF (fun p => mem 50 (40 + p)) (N - 1)).2))) (LAY, RFu r, mem)) : xCall (d + 1) 65 [.ref 49, .int (nI N)] (LAY, RFu r, mem) Q := by
  have hs : isState 49 := by unfold isState; decide
  refine c_in rfl rfl rfl fun P hP => b65_0 hP hs (vpn (by decide) (by decide)) ?_
  rw [nIc (by decide)]
  have key := xloop (N := N - 1) (G := fun j => P 13 [.ref 49, .int (nI N), .int (mxF (fun p => mem 50 (40 + p)) j).1, .int (mxF (fun p => mem 50 (40 + p)) j).2, .int (nI (j + 1))] [] (0, 0) (LAY, RFu r, mem)) ?_ ?_
  · exact key
  · exact b65_13 hP hs (fun _ => b65_55 hP hs k) (fun z => absurd (Int32.le_refl _) (by rw [show N - 1 + 1 = N by omega] at z; exact z))
  · intro j hj ih
    have vj : vp_in (nI 40 + nI (j + 1)) 121 := vpx (by omega) (by decide)
    refine b65_13 hP hs (fun z => absurd z (nI_ge (by omega) (by omega))) (fun _ => b65_19 hP hs vj vj ?_)
    rw [nIx (by omega), nIs]
    exact ih
theorem c34 {F : Nat → Int32} {L : Nat} (hL : 0 < L) (h : RwC mem ((List.range L).map F)) (k : Q (some (.int (nI (flI F (L - 1))))) (LAY, RFu r, mem)) : xCall (d + 1) 34 [.ref 3] (LAY, RFu r, mem) Q := by
  obtain ⟨h1, h2, h3⟩ := h
  simp only [List.length_map, List.length_range] at h1 h2 h3
  have e : ∀ i, i < L → mem 4 i = F i := fun i hi => by
    rw [h3 i hi, List.getD_eq_getElem?_getD, List.getElem?_map, List.getElem?_range hi]
    rfl
  refine c_in rfl rfl rfl fun P hP => b34_0 hP ?_
  have key := xloop (N := L - 1) (G := fun j => P 4 [.ref 3, .int (nI (flI F j)), .int (nI (j + 1))] [] (0, 0) (LAY, RFu r, mem)) ?_ ?_
  · exact key
  · exact b34_4 hP (fun _ => b34_35 hP k) (fun z => absurd (Int32.le_refl _) (by rw [h2, show L - 1 + 1 = L by omega] at z; exact z))
  · intro j hj ih
    have hf := flI_le (F := F) (k := j)
    refine b34_4 hP (fun z => absurd z (by rw [h2]; exact nI_ge (by omega) (by omega))) (fun _ => b34_12 hP (vpn (by omega) (by decide)) (vpn (by omega) (by decide)) (fun z => b34_29 hP ?_) (fun z => b34_27 hP (b34_29 hP ?_)))
    · rw [nIc (by omega), nIc (by omega), e _ (by omega), e _ (by omega)] at z
      rw [flI_s, if_neg (Int32.not_lt.mpr z)] at ih
      rw [nIs]
      exact ih
    · rw [nIc (by omega), nIc (by omega), e _ (by omega), e _ (by omega)] at z
      rw [flI_s, if_pos (Int32.not_le.mp z)] at ih
      rw [nIs]
      exact ih
theorem tk_even (x : Int32) : Tk 141 229 [.int x] := by
  intro N R B r mem Q h hB K
  obtain ⟨hR, hR4, hN, hN8, hR2, hN2⟩ := (RTo_parts h.2.2.1).1
  obtain ⟨g1, g2, g3, g4, g5, g6, g7, g8, g9⟩ := RRc_g h
  have gN : dN (D0 mem) = N := g1
  have hb : B < 500000000 := by omega
  have m29 : mem 108 29 = nI 0 := by
    obtain ⟨-, -, -, -, -, -, -, -, -, -, h11, -⟩ := h.2.2.1
    exact h11
  refine c_in rfl rfl rfl fun P hP => b141_0 hP (c151 (a := 0) (b := 200) (by decide) (by decide) (fun hno => Bk.i (b141_8 hP (fun z => absurd rfl z) (fun _ => b141_11 hP (K _ _ ?_)))) (fun n hn1 hn2 en => Bk.i (b141_8 hP (fun _ => b141_13 hP (fun h2 => ?_) (fun h2 => b141_23 hP (K _ _ ?_))) (fun z => absurd z (by decide)))))
  · intro Q2 k2
    exact c_in rfl rfl rfl fun P hP => b229_0 hP (c158r (a := 0) (b := 200) (by decide) (by decide) (fun _ => Bk.i (b229_13 hP (fun z => absurd rfl z) (fun _ => b229_16 hP (k2 _ _ (kEnd (kM20 h) hB))))) (fun n h1 h2 e => absurd e (hno n h1 h2)))
  rotate_left
  · intro Q2 k2
    subst en
    exact c_in rfl rfl rfl fun P hP => b229_0 hP (c158r (a := 0) (b := 200) (by decide) (by decide) (fun q => absurd rfl (q n hn1 hn2)) (fun _ _ _ _ => Bk.i (b229_13 hP (fun _ => b229_18 hP (fun z => absurd (by rw [hN] at h2; rw [e20 (by decide), hN2]; exact h2) z) (fun _ => b229_25 hP (k2 _ _ (kEnd (kM20 h) hB)))) (fun z => absurd z (by decide)))))
  subst en
  have h0N : 0 < N := Nat.pos_of_ne_zero fun q => h2 (by rw [hN, q]; rfl)
  generalize hF0 : (fun k => (mxF (fun p => qtrs (cfD (dsA (D0 mem) (evA (D0 mem) k))) (mem 48) n (40 + p)) (N - 1)).1 - (mxF (fun p => qtrs (cfD (dsA (D0 mem) (evA (D0 mem) k))) (mem 48) n (40 + p)) (N - 1)).2) = F
  have hF : ∀ k, (mxF (fun p => qtrs (cfD (dsA (D0 mem) (evA (D0 mem) k))) (mem 48) n (40 + p)) (N - 1)).1 - (mxF (fun p => qtrs (cfD (dsA (D0 mem) (evA (D0 mem) k))) (mem 48) n (40 + p)) (N - 1)).2 = F k := fun k => by rw [← hF0]
  have hxs : ∀ k, (List.range k).map F ++ [F k] = (List.range (k + 1)).map F := fun k => by rw [List.range_succ, List.map_append]; rfl
  refine b141_26 hP (c31 fun ma aa wa => Bk.v (b141_33 hP ?_))
  have key := xloop (N := 4) (G := fun k => ∀ m', TI mem m' → RwC m' ((List.range k).map F) → P 35 [.ref 0, .int (nI n), .int (nI k)] [] (0, 0) (LAY, RFu r, m')) ?_ ?_
  · exact key ma ((TI0 h).ag aa (by decide)) wa
  · intro m1 f1 w1
    refine b141_35 hP (fun _ => b141_92 hP (c34 (F := F) (L := 4) (by decide) w1 (Bk.i (b141_99 hP (K _ _ ?_))))) (fun z => absurd (Int32.le_refl _) z)
    intro Q2 k2
    obtain ⟨t1, t2, t3, t4⟩ := TI_M h f1
    have b1 : MwD (xu2 m1 108 20 (nI 0)) (D0 mem) := MwD_ag t1 th20 (by simp) (by decide)
    have b2 : MV (xu2 m1 108 20 (nI 0)) N (mem 48) := t2.ag th20 (by simp) (by decide)
    have bN : xu2 m1 108 20 (nI 0) 108 2 = nI N := by rw [b1.2.1, gN]
    have b29 : xu2 m1 108 20 (nI 0) 108 29 = nI 0 := by rw [e20 (by decide), f1.1 108 (by decide)]; exact m29
    refine c_in rfl rfl rfl fun P hP => b229_0 hP ?_
    generalize hm2 : xu2 m1 108 20 (nI 0) = mb at b1 b2 bN b29
    refine c158r (a := 0) (b := 200) (by decide) (by decide) (fun q => absurd rfl (q n hn1 hn2)) (fun _ _ _ _ => Bk.i (b229_13 hP (fun _ => b229_18 hP (fun _ => b229_28 hP ?_) (fun z => absurd (by rw [bN] at z; rw [hN]; exact z) h2)) (fun z => absurd z (by decide))))
    have hw : ∃ now, now < 500000000 ∧ (mem 48) 120 = nI now := let ⟨now, w1, w2⟩ := h.2.2.2.1.2.now; ⟨now, by omega, w2⟩
    have aZ : AgM (123 :: mtW) (29 :: 19 :: mqV) mb (xu2 mb 108 19 (nI 0)) := AgM.rfl'.us (by decide)
    have key2 := xloop (N := 4) (G := fun k => ∀ r' m' v5 v6 v7, AgM (123 :: mtW) (29 :: 19 :: mqV) mb m' → MV m' N (mem 48) → RwM m' ((List.range k).map F) → P 40 [.ref 108, .int (nI n), .int (if k = 0 then nI 0 else nI (flI F (k - 1))), .int (if k = 0 then nI 0 else F (flI F (k - 1))), .int (nI k), v5, v6, v7] [] (0, 0) (LAY, RFu r', m')) ?_ ?_
    · exact key2 r _ _ _ _ aZ (b2.ag (AgM.rfl'.us (W := []) (V := [19]) (by simp)) (by simp) (by decide)) (RwM_nil (by rw [xu2_eq, upd_at]))
    · intro r' m6 v5 v6 v7 a6 v6' w6
      refine b229_40 hP (fun _ => b229_193 hP (k2 _ _ (kEnd (N := N) (R := R) ?_ hB))) (fun z => absurd (Int32.le_refl _) z)
      have a7 : AgM (123 :: mtW) (19 :: mqV) mb (xu2 m6 108 29 (nI 0)) := (a6.us (by decide)).drops (by rw [xu2_eq, upd_at]; exact b29.symm)
      rw [← hm2] at a7
      have a8 : AgM [] [29] m6 (xu2 m6 108 29 (nI 0)) := AgM.rfl'.us (by simp)
      refine kT1 h f1 (Ag.rfl' (W := [3, 4])) w1 (t20 a7) (v6'.ag a8 (by simp) (by decide)) ?_
      exact ⟨by rw [a8.2 19 (by decide)]; exact w6.1, by rw [a8.1 123 (by decide) (by decide)]; exact w6.2⟩
    · intro k hk ih r' m6 v5 v6 v7 a6 v6' w6
      refine b229_40 hP (fun z => absurd z (nI_ge hk (by decide))) (fun _ => b229_46 hP ?_)
      have a7 : AgM (123 :: mtW) (29 :: 19 :: mqV) mb (xu2 m6 108 29 (nI k)) := a6.us (by decide)
      have a8 : AgM [] [29] m6 (xu2 m6 108 29 (nI k)) := AgM.rfl'.us (by simp)
      have w7 : MwD (xu2 m6 108 29 (nI k)) (dsA (D0 mem) (evA (D0 mem) k)) := MwD_A b1 b29 a7 (by decide) (by decide) (by rw [xu2_eq, upd_at]) hk
      have row7 : RwM (xu2 m6 108 29 (nI k)) ((List.range k).map F) := ⟨by rw [a8.2 19 (by decide)]; exact w6.1, by rw [a8.1 123 (by decide) (by decide)]; exact w6.2⟩
      have v7' : MV (xu2 m6 108 29 (nI k)) N (mem 48) := v6'.ag a8 (by simp) (by decide)
      generalize hm7 : xu2 m6 108 29 (nI k) = m7 at a7 a8 w7 v7' row7
      have hMB : MB m7 (cfD (dsA (D0 mem) (evA (D0 mem) k))) (mem 48) := ⟨MwD_Cf w7 (DOk_A g7), by show PV (dN (D0 mem)) _; rw [gN]; exact t3, by show MV m7 (dN (D0 mem)) _; rw [gN]; exact v7', hw⟩
      refine m191 hMB fun m8 i8 => Bk.v (b229_61 hP ?_)
      have inn := xloop (N := n) (G := fun j => ∀ r' m', MI m7 (cfD (dsA (D0 mem) (evA (D0 mem) k))) (mem 48) j m' → P 64 [.ref 108, .int (nI n), .int (if k = 0 then nI 0 else nI (flI F (k - 1))), .int (if k = 0 then nI 0 else F (flI F (k - 1))), .int (nI k), .int (nI j), v6, v7] [] (0, 0) (LAY, RFu r', m')) ?_ ?_
      · exact inn r' m8 i8
      · intro r9 m9 i9
        refine b229_64 hP (fun _ => b229_81 hP (vpn (by decide) (by decide)) (vpn (by decide) (by decide)) ?_) (fun z => absurd (Int32.le_refl _) z)
        rw [nIc (by decide)]
        generalize hf0 : (fun p => qtrs (cfD (dsA (D0 mem) (evA (D0 mem) k))) (mem 48) n (40 + p)) = f
        have hf : ∀ p, p < N → m9 119 p = f p := fun p hp => by
          have := (i9.2.2.1 p (by show p < dN (D0 mem); omega)).2.2.2.2.2.1
          rw [this, ← hf0]
        have hFk : (mxF f (N - 1)).1 - (mxF f (N - 1)).2 = F k := by rw [← hF k, hf0]
        rw [hf 0 h0N]
        have lp := xloop (N := N) (G := fun p => P 100 [.ref 108, .int (nI n), .int (if k = 0 then nI 0 else nI (flI F (k - 1))), .int (if k = 0 then nI 0 else F (flI F (k - 1))), .int (nI k), .int (mxF f (p - 1)).1, .int (mxF f (p - 1)).2, .int (nI p)] [] (0, 0) (LAY, RFu r9, m9)) ?_ ?_
        · exact lp
        · refine b229_100 hP (fun _ => b229_143 hP (m192 hMB i9 fun m10 a10 v10 => Bk.v (b229_152 hP ?_))) (fun z => absurd (Int32.le_refl _) (by rw [i9.1.2 2 (by decide), a7.2 2 (by decide), bN] at z; exact z))
          rw [hFk]
          have w10 : RwM m10 ((List.range k).map F) := ⟨by rw [a10.2 19 (by decide)]; exact row7.1, by rw [a10.1 123 (by decide) (by decide)]; exact row7.2⟩
          have v10 : MV m10 (dN (D0 mem)) (mem 48) := v10
          rw [gN] at v10
          refine c161 w10 (by simp; omega) fun m11 a11 w11 => Bk.v ?_
          rw [hxs] at w11
          have a12 : AgM (123 :: mtW) (29 :: 19 :: mqV) mb m11 := (a7.trans (a10.mono (by decide) (by decide))).trans (a11.mono (by simp) (by simp))
          have v12 : MV m11 N (mem 48) := v10.ag a11 (by decide) (by decide)
          have go := fun v5 v6 v7 => ih r9 m11 v5 v6 v7 a12 v12 w11
          rw [if_neg (Nat.succ_ne_zero k), if_neg (Nat.succ_ne_zero k), Nat.add_sub_cancel] at go
          by_cases k0 : k = 0
          · subst k0
            refine b229_161 hP (fun _ => b229_178 hP (b229_187 hP ?_)) (fun z => absurd (Int32.le_refl _) z)
            rw [hFk, nIs]
            exact go _ _ _
          · obtain ⟨k', rfl⟩ : ∃ k', k = k' + 1 := ⟨k - 1, by omega⟩
            rw [if_neg (Nat.succ_ne_zero k'), if_neg (Nat.succ_ne_zero k'), Nat.add_sub_cancel]
            rw [flI_s] at go
            refine b229_161 hP (fun z => absurd z (nI_ge (show 0 < k' + 1 by omega) (by omega))) (fun _ => b229_166 hP (fun z => b229_178 hP (b229_187 hP ?_)) (fun z => b229_175 hP (b229_187 hP ?_)))
            · rw [hFk] at z ⊢
              rw [if_pos z] at go
              rw [nIs]
              exact go _ _ _
            · rw [hFk] at z
              rw [if_neg z] at go
              rw [nIs]
              exact go _ _ _
        · intro p hp ihp
          have vp : vp_in (nI p) 8 := vpn (by omega) (by decide)
          refine b229_100 hP (fun z => absurd z (by rw [i9.1.2 2 (by decide), a7.2 2 (by decide), bN]; exact nI_ge hp (by omega))) (fun _ => b229_109 hP vp vp ?_)
          rw [nIc (by omega), hf p hp, nIs]
          cases p with
          | zero =>
            rw [show (mxF f (0 - 1)).1 = f 0 from rfl, show (mxF f (0 - 1)).2 = f 0 from rfl, if_neg (show ¬ f 0 < f 0 from Int32.not_lt.mpr (Int32.le_refl _))]
            exact ihp
          | succ p =>
            rw [Nat.add_sub_cancel]
            rw [Nat.add_sub_cancel, mxF_s] at ihp
            exact ihp
      · intro j hj ihj r9 m9 i9
        refine b229_64 hP (fun z => absurd z (nI_ge hj (by omega))) (fun _ => b229_70 hP (m190 hMB i9 (by omega) fun r10 m10 y i10 => Bk.i (b229_74 hP ?_)))
        rw [nIs]
        exact ihj r10 m10 i10
  · intro k hk ih m1 f1 w1
    refine b141_35 hP (fun z => absurd z (nI_ge hk (by decide))) (fun _ => b141_40 hP (c88T h f1 fun m2 f2 a2 t2 => Bk.v (b141_51 hP (c142 hk (show dN (D0 mem) ≤ 8 by omega) t2 fun m3 a3 t3 => Bk.v (b141_56 hP ?_)))))
    refine c153T (D := dsA (D0 mem) (evA (D0 mem) k)) (Or.inr rfl) h hb (f2.ag a3 (by decide)) t3 (DOk_A g7) gN (by omega) fun m4 f4 a4 e4 e48 => Bk.v (b141_65 hP ?_)
    rw [f4.1 5 (by decide), hN]
    refine c65 h0N hN8 (Bk.i (b141_83 hP ?_))
    rw [e4, e48, hF]
    have w4 : RwC m4 ((List.range k).map F) := RwC_tr (RwC_tr (RwC_tr w1 a2 (by decide)) a3 (by decide)) a4 (by decide)
    refine c32 w4 (by simp; omega) fun m5 a5 w5 => Bk.v (b141_86 hP ?_)
    rw [hxs] at w5
    rw [nIs]
    exact ih m5 (f4.ag a5 (by decide)) w5
end K
