/-! spares -/
theorem DOk_K {D : xD} {f : Nat → Int32} (hD : DOk D) (hf : ∀ p, p < dN D → f p = 0 ∨ f p = 1) : DOk (dsK D f) :=
  ⟨hD.1, hD.2.1, hD.2.2.1, hf, hD.2.2.2.2.1, hD.2.2.2.2.2⟩
theorem MwD_K {m m' : Nat → Nat → Int32} {D : xD} {f : Nat → Int32} (h : MwD m D) (a : AgM (111 :: mtW) mqV m m') (e : ∀ r, r < dN D → m' 111 r = f r) : MwD m' (dsK D f) := by
  obtain ⟨h1, h2, h3, h4, h5, h6, h7, h8⟩ := h
  refine ⟨by rw [a.2 0 (by decide)]; exact h1, by rw [a.2 2 (by decide)]; exact h2, by rw [a.1 109 (by decide) (by decide)]; exact h3, fun p hp => ⟨by rw [a.1 110 (by decide) (by decide)]; exact (h4 p hp).1, e p hp⟩, by rw [a.2 32 (by decide)]; exact h5, by rw [a.1 113 (by decide) (by decide), a.1 128 (by decide) (by decide), a.1 112 (by decide) (by decide), a.1 129 (by decide) (by decide)]; exact h6, ?_, ?_⟩
  · unfold RuE RmT at h7 ⊢
    rw [a.1 (125 + 0) (by decide) (by decide), a.1 127 (by decide) (by decide), a.2 29 (by decide)]
    exact h7
  · unfold RuE RmT at h8 ⊢
    rw [a.1 (125 + 1) (by decide) (by decide), a.1 127 (by decide) (by decide), a.2 29 (by decide)]
    exact h8
section K
variable {N R B r d n T : Nat} {mem m' m0 m1 m2 m3 m4 m5 : Nat → Nat → Int32} {Q : xQr} {g : xCf} {D : xD}
theorem kT0 (h : RRc mem N R B) (f : TI mem m0) (a1 : Ag [144] m0 m1) (e3 : m0 3 = mem 3) (e4 : m0 4 = mem 4) (a2 : AgM mtW (20 :: mqV) m1 m2) (v : MV m2 N (mem 48)) : RRc m2 N R B := by
  obtain ⟨xs, x1, x2⟩ := h.2.1
  have aa : Ag scW mem m1 := (f.1.mono (by decide)).trans (a1.mono (by decide))
  refine RR_ro (xs := xs) h aa (RZe_ag (TI_Z h f) a1 (by decide)) ?_ (a2.mono (by decide) (by decide)) v ?_
  · refine x1.mv ⟨fun c hc => ?_, fun j hj => by cases hj⟩
    simp at hc
    rcases hc with rfl | rfl
    · rw [a1 3 (by decide), e3]
    · rw [a1 4 (by decide), e4]
  · exact ⟨by rw [a2.2 19 (by decide), aa 108 (by decide)]; exact x2.1, by rw [a2.1 123 (by decide) (by decide), aa 123 (by decide)]; exact x2.2⟩
theorem flip {x : Int32} (hx : x = 0 ∨ x = 1) : (nI 1 - x = 0 ∨ nI 1 - x = 1) ∧ nI 1 - (nI 1 - x) = x ∧ (¬ x = 0 → nI 1 - x = xNar 15 (nI 0)) ∧ (x = 0 → nI 1 - x = xNar 15 (nI 1)) := by
  rcases hx with rfl | rfl
  · exact ⟨Or.inr (by decide), by decide, fun z => absurd rfl z, fun _ => by decide⟩
  · exact ⟨Or.inl (by decide), by decide, fun _ => by decide, fun z => absurd z (by decide)⟩
theorem tk_spares (x y : Int32) : TkT 143 230 [.int x, .int y] := by
  intro N R B r mem Q h hB KT K
  obtain ⟨hR, hR4, hN, hN8, hR2, hN2⟩ := (RTo_parts h.2.2.1).1
  obtain ⟨g1, g2, g3, g4, g5, g6, g7, g8, g9⟩ := RRc_g h
  have gN : dN (D0 mem) = N := g1
  have hb : B < 500000000 := by omega
  have no : ((∀ p, p < N → x ≠ nI p) ∨ (∀ s, 0 ≤ s → s ≤ 100 → y ≠ nI s)) → Q (some .null) (LAY, RFu r, mem) := fun hno => by
    refine KT _ ?_
    intro Q2 k2
    refine c_in rfl rfl rfl fun P hP => ?_
    have f : ∀ v1 v2, P 23 [.ref 108, v1, v2] [] (0, 0) (LAY, RFu r, xu2 mem 108 20 (nI 0)) := fun v1 v2 => b230_23 hP (c160 (Bk.i (b230_27 hP (k2 _ _ _ (kEnd (kLost h) hB) (by rw [xu2_eq, upd_at])))))
    refine b230_0 hP (c162 (N := N) (by rw [e20 (by decide), hN2]) (by omega) (fun _ => Bk.i (b230_10 hP (fun _ => f _ _) (fun z => absurd rfl z))) (fun p hp ep => Bk.i (b230_10 hP (fun z => absurd z (by decide)) (fun _ => b230_13 hP (c158r (a := 0) (b := 100) (by decide) (by decide) (fun _ => Bk.i (b230_20 hP (fun z => absurd rfl z) (fun _ => f _ _))) (fun s hs1 hs2 es => ?_))))))
    rcases hno with q | q
    · exact absurd ep (q p hp)
    · exact absurd es (q s hs1 hs2)
  refine c_in rfl rfl rfl fun P hP => b143_0 hP (c83 (Or.inl rfl) hN (by omega) (fun hp => Bk.i (b143_8 hP (fun _ => b143_21 hP (no (Or.inl hp))) (fun z => absurd rfl z))) (fun p hp ep => Bk.i (b143_8 hP (fun z => absurd z (by decide)) (fun _ => b143_11 hP (c151 (a := 0) (b := 100) (by decide) (by decide) (fun hs => Bk.i (b143_18 hP (fun z => absurd rfl z) (fun _ => b143_21 hP (no (Or.inr hs))))) (fun n hn1 hn2 en => Bk.i (b143_18 hP (fun _ => b143_29 hP ?_) (fun z => absurd z (by decide)))))))))
  subst ep
  subst en
  have vp : vp_in (nI p) 8 := vpn (by omega) (by decide)
  have cp : (nI p).toNatClampNeg = p := nIc (by omega)
  have hK0 := g7.2.2.2.1
  have hKp := hK0 p (by omega)
  obtain ⟨l1, l2, l3, l4⟩ := flip hKp
  have e8 : mem 8 p = dK (D0 mem) p := rfl
  generalize hds : dsK (D0 mem) (fun q => if q = p then nI 1 - dK (D0 mem) p else dK (D0 mem) q) = ds
  have hdN : dN ds = N := by rw [← hds]; exact gN
  have hdk : DOk ds := by
    rw [← hds]
    refine DOk_K g7 fun q hq => ?_
    by_cases z : q = p
    · rw [if_pos z]; exact l1
    · rw [if_neg z]; exact hK0 q hq
  refine c153T (D := D0 mem) (Or.inl rfl) h hb (TI0 h) g8 g7 gN (by omega) fun m0 f0 a0 e0 e48 => Bk.v (b143_38 hP (c154 (g := gD mem) (n := n) (by omega) (by rw [e0]; rfl) (Bk.i (b143_43 hP (c88T h f0 fun m2 f2 a2 t2 => Bk.v (b143_55 hP vp vp ?_))))))
  rw [cp, e48, f2.1 8 (by decide), e8]
  have t3 := TwD_K (r := p) (v := nI 1 - dK (D0 mem) p) t2
  rw [hds] at t3
  refine c153T (D := ds) (Or.inr rfl) h hb (f2.ag ((Ag.rfl' (W := [29])).u2 (by simp)) (by decide)) t3 hdk hdN (by omega) fun m4 f4 a4 e4 e48' => Bk.v (b143_84 hP (c154 (g := cfD ds) (n := n) (by omega) e4 (Bk.i (b143_90 hP (K _ _ ?_)))))
  rw [e48']
  have e3' : m4 3 = mem 3 := by rw [a4 3 (by decide), xu2_ne (by decide), a2 3 (by decide), a0 3 (by decide)]
  have e4' : m4 4 = mem 4 := by rw [a4 4 (by decide), xu2_ne (by decide), a2 4 (by decide), a0 4 (by decide)]
  intro Q2 k2
  generalize hv : stD (gD mem) (mem 48) n p - stD (cfD ds) (mem 48) n p = v at k2
  generalize hm1 : xu2 m4 144 0 v = m1
  have a1 : Ag [144] m4 m1 := by rw [← hm1]; exact Ag.rfl'.u2 (by simp)
  obtain ⟨t1, t2', t3', t4'⟩ := TI_M h f4
  have a1M := Ag.M a1 (by decide)
  have b1 : MwD (xu2 m1 108 20 (nI 0)) (D0 mem) := MwD_ag (MwD_ag t1 a1M (by decide) (by decide)) th20 (by simp) (by decide)
  have b2 : MV (xu2 m1 108 20 (nI 0)) N (mem 48) := (t2'.ag a1M (by decide) (by simp)).ag th20 (by simp) (by decide)
  have bN : xu2 m1 108 20 (nI 0) 108 2 = nI N := by rw [b1.2.1, gN]
  have bK : ∀ q, q < N → xu2 m1 108 20 (nI 0) 111 q = dK (D0 mem) q := fun q hq => (b1.2.2.2.1 q (by omega)).2
  have bz : xu2 m1 108 20 (nI 0) 108 20 = nI 0 := by rw [xu2_eq, upd_at]
  have bv : xu2 m1 108 20 (nI 0) 144 0 = v := by rw [xu2_ne (by decide), ← hm1, xu2_eq, upd_at]
  have hw : ∃ now, now < 500000000 ∧ (mem 48) 120 = nI now := let ⟨now, w1, w2⟩ := h.2.2.2.1.2.now; ⟨now, by omega, w2⟩
  refine c_in rfl rfl rfl fun P hP => b230_0 hP ?_
  generalize hmb : xu2 m1 108 20 (nI 0) = mb at b1 b2 bN bK bz bv
  refine c162 (N := N) bN (by omega) (fun q => absurd rfl (q p hp)) (fun _ _ _ => Bk.i (b230_10 hP (fun z => absurd z (by decide)) (fun _ => b230_13 hP (c158r (a := 0) (b := 100) (by decide) (by decide) (fun q => absurd rfl (q n hn1 hn2)) (fun _ _ _ _ => Bk.i (b230_20 hP (fun _ => b230_28 hP ?_) (fun z => absurd z (by decide))))))))
  refine m222 (g := gD mem) (Or.inl rfl) (MwD_Cf b1 g7) (by rw [g1]; exact t3') (by rw [g1]; exact b2) hw (by omega) fun r5 m5 a5 v5 e5 _ => Bk.i ?_
  rw [g1] at v5 e5
  have k111 : m5 111 p = dK (D0 mem) p := by rw [a5.1 111 (by decide) (by decide)]; exact bK p hp
  have go : ∀ y, nI 1 - dK (D0 mem) p = xNar 15 y → P 57 [.ref 108, .int (nI p), .int (nI n)] [.int y, .int (nI p), .ref 111] (0, 0) (LAY, RFu r5, m5) := fun y ey => by
    refine b230_57 hP vp ?_
    rw [cp, ← ey]
    have a7 : AgM (111 :: mtW) mqV mb (xu2 m5 111 p (nI 1 - dK (D0 mem) p)) := (a5.mono (by decide) (fun _ h => h)).u2 (by decide) (by decide)
    have v7 : MV (xu2 m5 111 p (nI 1 - dK (D0 mem) p)) N (mem 48) := v5.ag ((AgM.rfl' (W := [111]) (V := [])).u2 (by simp) (by decide)) (by decide) (by simp)
    have w7 : MwD (xu2 m5 111 p (nI 1 - dK (D0 mem) p)) ds := by
      rw [← hds]
      refine MwD_K b1 a7 (fun q hq => ?_)
      rw [xu2_eq]
      by_cases z : q = p
      · rw [if_pos z, z, upd_at]
      · rw [if_neg z, upd_ne z, a5.1 111 (by decide) (by decide)]; exact bK q (by omega)
    refine m222 (g := cfD ds) (Or.inr rfl) (MwD_Cf w7 hdk) (by show PV (dN ds) _; rw [hdN]; exact t3') (by show MV _ (dN ds) _; rw [hdN]; exact v7) hw (by omega) fun r8 m8 a8 v8 e8 q8 => Bk.i ?_
    have v8 : MV m8 (dN ds) (mem 48) := v8
    rw [hdN] at v8
    have e136 : m8 136 p = stD (gD mem) (mem 48) n p := by rw [q8 136 (Or.inl rfl) (by decide), xu2_ne (by decide)]; exact e5 p hp
    have e137 : m8 137 p = stD (cfD ds) (mem 48) n p := e8 p (by show p < dN ds; rw [hdN]; exact hp)
    have e111 : m8 111 = upd (m5 111) p (nI 1 - dK (D0 mem) p) := by rw [a8.1 111 (by decide) (by decide), xu2_eq]
    have e111p : m8 111 p = nI 1 - dK (D0 mem) p := by rw [e111, upd_at]
    obtain ⟨n1, n2, n3, n4⟩ := flip l1
    have fin : ∀ y, dK (D0 mem) p = xNar 15 y → ∀ v2, P 87 [.ref 108, .int (nI p), v2] [.int y, .int (nI p), .ref 111] (0, 0) (LAY, RFu r8, m8) := fun y ey v2 => by
      refine b230_87 hP vp vp vp ?_
      rw [cp, ← ey]
      generalize hm9 : xu2 m8 111 p (dK (D0 mem) p) = m9
      have a9' : AgM [111] [] m8 m9 := by rw [← hm9]; exact AgM.rfl'.u2 (by simp) (by decide)
      have e9 : m9 111 = mb 111 := by
        rw [← hm9, xu2_eq, e111, ← a5.1 111 (by decide) (by decide)]
        funext q
        by_cases z : q = p
        · rw [z, upd_at, k111]
        · rw [upd_ne z, upd_ne z]
      have a9 : AgM mtW mqV mb m9 := by
        have q : AgM (111 :: mtW) mqV mb m9 := (a7.trans (a8.mono (by decide) (fun _ h => h))).trans (a9'.mono (by simp) (by simp))
        exact q.drop e9
      rw [a9'.1 136 (by decide) (by decide), a9'.1 137 (by decide) (by decide), e136, e137, hv]
      have bz9 : m9 108 20 = nI 0 := by rw [a9.2 20 (by decide)]; exact bz
      have bv9 : m9 144 0 = v := by rw [a9.1 144 (by decide) (by decide)]; exact bv
      rw [← hmb] at a9
      exact k2 _ _ (kEnd (N := N) (R := R) (kT0 h f4 a1 e3' e4' (t20 a9) (v8.ag a9' (by decide) (by simp))) hB) bz9 bv9
    refine b230_67 hP vp (fun z => b230_86 hP (fin _ ?_ _)) (fun z => b230_82 hP (fin _ ?_ _))
    · rw [cp, e111p] at z
      have := n3 z
      rw [l2] at this
      exact this
    · rw [cp, e111p] at z
      have := n4 z
      rw [l2] at this
      exact this
  refine b230_37 hP vp (fun z => b230_56 hP (go _ (l3 ?_))) (fun z => b230_52 hP (go _ (l4 ?_)))
  · rw [cp, k111] at z; exact z
  · rw [cp, k111] at z; exact z
end K
