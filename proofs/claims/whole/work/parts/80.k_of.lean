/-! of -/
section K
variable {N R B r d n T : Nat} {mem m' m0 m1 m2 m3 m4 m5 : Nat → Nat → Int32} {Q : xQr} {g : xCf} {D : xD}
theorem tk_of (x y : Int32) : TkT 104 182 [.int x, .int y] := by
  intro N R B r mem Q h hB KT K
  obtain ⟨hR, hR4, hN, hN8, hR2, hN2⟩ := (RTo_parts h.2.2.1).1
  obtain ⟨g1, g2, g3, g4, g5, g6, g7, g8, g9⟩ := RRc_g h
  have gN : dN (D0 mem) = N := g1
  have hM := h.2.2.2.1.1
  have no : ((∀ p, p < N → x ≠ nI p) ∨ (∀ s, 0 ≤ s → s ≤ 10 → y ≠ nI s)) → Q (some .null) (LAY, RFu r, mem) := fun hno => by
    refine KT _ ?_
    intro Q2 k2
    refine c_in rfl rfl rfl fun P hP => ?_
    have f : ∀ v1 v2, P 23 [.ref 108, v1, v2] [] (0, 0) (LAY, RFu r, xu2 mem 108 20 (nI 0)) := fun v1 v2 => b182_23 hP (c160 (Bk.i (b182_27 hP (k2 _ _ _ (kEnd (kLost h) hB) (by rw [xu2_eq, upd_at])))))
    refine b182_0 hP (c162 (N := N) (by rw [e20 (by decide), hN2]) (by omega) (fun _ => Bk.i (b182_10 hP (fun _ => f _ _) (fun z => absurd rfl z))) (fun p hp ep => Bk.i (b182_10 hP (fun z => absurd z (by decide)) (fun _ => b182_13 hP (c158r (a := 0) (b := 10) (by decide) (by decide) (fun _ => Bk.i (b182_20 hP (fun z => absurd rfl z) (fun _ => f _ _))) (fun s hs1 hs2 es => ?_))))))
    rcases hno with q | q
    · exact absurd ep (q p hp)
    · exact absurd es (q s hs1 hs2)
  refine c_in rfl rfl rfl fun P hP => b104_0 hP (c83 (Or.inl rfl) hN (by omega) (fun hp => Bk.i (b104_8 hP (fun z => absurd rfl z) (fun _ => b104_11 hP (no (Or.inl hp))))) (fun p hp ep => Bk.i (b104_8 hP (fun _ => ?_) (fun z => absurd z (by decide)))))
  subst ep
  have vp : vp_in (nI p) 8 := vpn (by omega) (by decide)
  have cp : (nI p).toNatClampNeg = p := nIc (by omega)
  obtain ⟨pe1, pe2, pe3⟩ := (RTo_parts h.2.2.1).2.2.1 p hp
  have fin : ∀ (k : Nat) (v : Int32) m', k ≤ 10 → y = nI k → Ag [22, 25] mem m' → (∀ mb (P : xPr) Q2, MwD mb (D0 mem) → MV mb N (mem 48) → Cl 299 none 182 P Q2 → (∀ r2 m2, AgM [] qV mb m2 → Q2 (some (.int v)) (LAY, RFu r2, m2)) → P 28 [.ref 108, .int (nI p), .int (nI k)] [] (0, 0) (LAY, RFu r, mb)) → Q (some (.int v)) (LAY, RFu r, m') := fun k v m' hk ek a F => by
    subst ek
    refine K _ _ ?_
    intro Q2 k2
    generalize hm1 : xu2 m' 144 0 v = m1
    have a1 : Ag [22, 25, 144] mem m1 := by rw [← hm1]; exact (a.mono (by decide)).u2 (by simp)
    have a1M := Ag.M a1 (by decide)
    have b1 : MwD (xu2 m1 108 20 (nI 0)) (D0 mem) := MwD_ag (MwD_ag g9 a1M (by decide) (by decide)) th20 (by simp) (by decide)
    have b2 : MV (xu2 m1 108 20 (nI 0)) N (mem 48) := (hM.ag a1M (by decide) (by simp)).ag th20 (by simp) (by decide)
    have bN : xu2 m1 108 20 (nI 0) 108 2 = nI N := by rw [b1.2.1, gN]
    have bz : xu2 m1 108 20 (nI 0) 108 20 = nI 0 := by rw [xu2_eq, upd_at]
    have bv : xu2 m1 108 20 (nI 0) 144 0 = v := by rw [xu2_ne (by decide), ← hm1, xu2_eq, upd_at]
    refine c_in rfl rfl rfl fun P hP => b182_0 hP ?_
    generalize hmb : xu2 m1 108 20 (nI 0) = mb at b1 b2 bN bz bv
    refine c162 (N := N) bN (by omega) (fun q => absurd rfl (q p hp)) (fun _ _ _ => Bk.i (b182_10 hP (fun z => absurd z (by decide)) (fun _ => b182_13 hP (c158r (a := 0) (b := 10) (by decide) (by decide) (fun q => absurd rfl (q k (Nat.zero_le _) hk)) (fun _ _ _ _ => Bk.i (b182_20 hP (fun _ => ?_) (fun z => absurd z (by decide))))))))
    refine F mb P Q2 b1 b2 hP fun r2 m2 a2 => ?_
    have bz2 : m2 108 20 = nI 0 := by rw [a2.2 20 (by decide)]; exact bz
    have bv2 : m2 144 0 = v := by rw [a2.1 144 (by decide) (by decide)]; exact bv
    rw [← hmb] at a2
    exact k2 _ _ (kEnd (N := N) (R := R) (kAll h a1 (t20 a2) (by decide) (by decide) (by decide) (by decide) (by decide) (by decide) (by decide)) hB) bz2 bv2
  have yk : ∀ k : Nat, k < 11 → y.toInt = (k : Int) → y = nI k := fun k hk e => i_to (by omega) e
  refine b104_19 hP (fun e => b104_235 hP (no (Or.inr fun s _ hs es => ?_))) (fun e => ?_) (fun e => ?_) (fun e => ?_) (fun e => ?_) (fun e => ?_) (fun e => ?_) (fun e => ?_) (fun e => ?_) (fun e => ?_) (fun e => ?_) (fun e => ?_)
  · rw [es, nI_toInt (by omega)] at e
    omega
  · refine b104_80 hP vp ?_
    rw [cp]
    refine fin 0 _ mem (by decide) (yk 0 (by decide) e) Ag.rfl' fun mb P Q2 b1 b2 hP k2 => ?_
    refine b182_28 hP (fun e => absurd e (by decide)) (fun _ => b182_80 hP vp ?_) (fun e => absurd e (by decide)) (fun e => absurd e (by decide)) (fun e => absurd e (by decide)) (fun e => absurd e (by decide)) (fun e => absurd e (by decide)) (fun e => absurd e (by decide)) (fun e => absurd e (by decide)) (fun e => absurd e (by decide))
    rw [cp, (b1.2.2.2.1 p (by omega)).1]
    exact k2 r mb AgM.rfl'

  · refine b104_90 hP vp ?_
    rw [cp]
    refine fin 1 _ mem (by decide) (yk 1 (by decide) e) Ag.rfl' fun mb P Q2 b1 b2 hP k2 => ?_
    have e111 : mb 111 p = mem 8 p := (b1.2.2.2.1 p (by omega)).2
    refine b182_28 hP (fun e => absurd e (by decide)) (fun e => absurd e (by decide)) (fun _ => b182_87 hP vp (fun z => b182_100 hP (b182_101 hP ?_)) (fun z => b182_96 hP (b182_101 hP ?_))) (fun e => absurd e (by decide)) (fun e => absurd e (by decide)) (fun e => absurd e (by decide)) (fun e => absurd e (by decide)) (fun e => absurd e (by decide)) (fun e => absurd e (by decide)) (fun e => absurd e (by decide))
    · rw [cp, e111] at z
      rw [z] at k2
      exact k2 r mb AgM.rfl'
    · rw [cp, e111] at z
      rw [pe3.resolve_left z] at k2
      exact k2 r mb AgM.rfl'

  · refine b104_100 hP (vpx (by omega) (by decide)) ?_
    rw [nIx (by omega)]
    rw [Nat.zero_add]
    refine fin 2 _ mem (by decide) (yk 2 (by decide) e) Ag.rfl' fun mb P Q2 b1 b2 hP k2 => ?_
    refine b182_28 hP (fun e => absurd e (by decide)) (fun e => absurd e (by decide)) (fun e => absurd e (by decide)) (fun _ => b182_102 hP vp ?_) (fun e => absurd e (by decide)) (fun e => absurd e (by decide)) (fun e => absurd e (by decide)) (fun e => absurd e (by decide)) (fun e => absurd e (by decide)) (fun e => absurd e (by decide))
    rw [cp, (b2.1 p hp).1]
    exact k2 r mb AgM.rfl'

  · have F : ∀ mb (P : xPr) Q2, MwD mb (D0 mem) → MV mb N (mem 48) → Cl 299 none 182 P Q2 → (∀ r2 m2, AgM [] qV mb m2 → Q2 (some (.int (b01 (mem 48 (8 + p) = 2)))) (LAY, RFu r2, m2)) → P 28 [.ref 108, .int (nI p), .int (nI 3)] [] (0, 0) (LAY, RFu r, mb) := fun mb P Q2 b1 b2 hP k2 => by
      refine b182_28 hP (fun e => absurd e (by decide)) (fun e => absurd e (by decide)) (fun e => absurd e (by decide)) (fun e => absurd e (by decide)) (fun _ => b182_109 hP vp ?_) (fun e => absurd e (by decide)) (fun e => absurd e (by decide)) (fun e => absurd e (by decide)) (fun e => absurd e (by decide)) (fun e => absurd e (by decide))
      rw [cp, (b2.1 p hp).2.1]
      exact k2 r mb AgM.rfl'
    refine b104_112 hP (c61 (Or.inl rfl) (by omega) (Bk.i (b104_120 hP (fun z => b104_128 hP (b104_129 hP ?_)) (fun z => b104_124 hP (b104_129 hP ?_)))))
    · rw [b01_f (p := mem 48 (8 + p) = 2) z] at F
      exact fin 3 (nI 0) mem (by decide) (yk 3 (by decide) e) Ag.rfl' F
    · rw [b01_t (p := mem 48 (8 + p) = 2) z] at F
      exact fin 3 (nI 1) mem (by decide) (yk 3 (by decide) e) Ag.rfl' F

  · refine b104_130 hP (vpx (by omega) (by decide)) ?_
    rw [nIx (by omega)]
    refine fin 4 _ mem (by decide) (yk 4 (by decide) e) Ag.rfl' fun mb P Q2 b1 b2 hP k2 => ?_
    refine b182_28 hP (fun e => absurd e (by decide)) (fun e => absurd e (by decide)) (fun e => absurd e (by decide)) (fun e => absurd e (by decide)) (fun e => absurd e (by decide)) (fun _ => b182_116 hP vp ?_) (fun e => absurd e (by decide)) (fun e => absurd e (by decide)) (fun e => absurd e (by decide)) (fun e => absurd e (by decide))
    rw [cp, (b2.1 p hp).2.2.1]
    exact k2 r mb AgM.rfl'

  · refine b104_143 hP (vpx (by omega) (by decide)) ?_
    rw [nIx (by omega)]
    refine fin 5 _ mem (by decide) (yk 5 (by decide) e) Ag.rfl' fun mb P Q2 b1 b2 hP k2 => ?_
    refine b182_28 hP (fun e => absurd e (by decide)) (fun e => absurd e (by decide)) (fun e => absurd e (by decide)) (fun e => absurd e (by decide)) (fun e => absurd e (by decide)) (fun e => absurd e (by decide)) (fun _ => b182_123 hP vp ?_) (fun e => absurd e (by decide)) (fun e => absurd e (by decide)) (fun e => absurd e (by decide))
    rw [cp, (b2.1 p hp).2.2.2.1]
    exact k2 r mb AgM.rfl'

  · refine b104_156 hP (vpx (by omega) (by decide)) ?_
    rw [nIx (by omega)]
    refine fin 6 _ mem (by decide) (yk 6 (by decide) e) Ag.rfl' fun mb P Q2 b1 b2 hP k2 => ?_
    refine b182_28 hP (fun e => absurd e (by decide)) (fun e => absurd e (by decide)) (fun e => absurd e (by decide)) (fun e => absurd e (by decide)) (fun e => absurd e (by decide)) (fun e => absurd e (by decide)) (fun e => absurd e (by decide)) (fun _ => b182_130 hP vp ?_) (fun e => absurd e (by decide)) (fun e => absurd e (by decide))
    rw [cp, (b2.1 p hp).2.2.2.2.1]
    exact k2 r mb AgM.rfl'

  · refine b104_169 hP (vpx (by omega) (by decide)) ?_
    rw [nIx (by omega)]
    refine fin 7 _ mem (by decide) (yk 7 (by decide) e) Ag.rfl' fun mb P Q2 b1 b2 hP k2 => ?_
    refine b182_28 hP (fun e => absurd e (by decide)) (fun e => absurd e (by decide)) (fun e => absurd e (by decide)) (fun e => absurd e (by decide)) (fun e => absurd e (by decide)) (fun e => absurd e (by decide)) (fun e => absurd e (by decide)) (fun e => absurd e (by decide)) (fun _ => b182_137 hP vp ?_) (fun e => absurd e (by decide))
    rw [cp, (b2.1 p hp).2.2.2.2.2.1]
    exact k2 r mb AgM.rfl'

  · refine b104_182 hP (vpx (by omega) (by decide)) ?_
    rw [nIx (by omega)]
    refine fin 8 _ mem (by decide) (yk 8 (by decide) e) Ag.rfl' fun mb P Q2 b1 b2 hP k2 => ?_
    refine b182_28 hP (fun e => absurd e (by decide)) (fun e => absurd e (by decide)) (fun e => absurd e (by decide)) (fun e => absurd e (by decide)) (fun e => absurd e (by decide)) (fun e => absurd e (by decide)) (fun e => absurd e (by decide)) (fun e => absurd e (by decide)) (fun e => absurd e (by decide)) (fun _ => b182_144 hP vp ?_)
    rw [cp, (b2.1 p hp).2.2.2.2.2.2]
    exact k2 r mb AgM.rfl'

  · refine b104_195 hP (c40 (q := 20) (t := 5) (s := 47) (xs := dA (D0 mem)) (Or.inl rfl) (Or.inl rfl) (Or.inl rfl) (by omega) g8.2.2.2.2.2.2.1 fun m' a => Bk.i (b104_214 hP ?_))
    refine fin 9 _ m' (by decide) (yk 9 (by decide) e) (a.mono (by decide)) fun mb P Q2 b1 b2 hP k2 => ?_
    refine b182_28 hP (fun _ => b182_151 hP ?_) (fun e => absurd e (by decide)) (fun e => absurd e (by decide)) (fun e => absurd e (by decide)) (fun e => absurd e (by decide)) (fun e => absurd e (by decide)) (fun e => absurd e (by decide)) (fun e => absurd e (by decide)) (fun e => absurd e (by decide)) (fun e => absurd e (by decide))
    rw [show nI 9 - nI 9 = nI 0 by decide]
    refine c181 (q := 0) (i := p) (xs := dA (D0 mem)) (c := mem 48) (by decide) (by omega) b1.2.2.2.2.2.2.1 ((MwD_Cf b1 g7).pv (by show MV mb (dN (D0 mem)) _; rw [gN]; exact b2) (by show p < dN (D0 mem); omega)) fun r2 m2 a2 => Bk.i (b182_160 hP ?_)
    rw [envF_eq (ag' := mem (5 + 2)) (sk' := mem (5 + 3)) (c' := mem (47 + 1)) (b1.2.2.2.1 p (by omega)).1 (b1.2.2.2.1 p (by omega)).2 (fun _ _ _ => rfl) (by omega)]
    exact k2 r2 m2 a2

  · refine b104_215 hP (c40 (q := 23) (t := 5) (s := 47) (xs := dG (D0 mem)) (Or.inr (Or.inl rfl)) (Or.inl rfl) (Or.inl rfl) (by omega) g8.2.2.2.2.2.2.2 fun m' a => Bk.i (b104_234 hP ?_))
    refine fin 10 _ m' (by decide) (yk 10 (by decide) e) (a.mono (by decide)) fun mb P Q2 b1 b2 hP k2 => ?_
    refine b182_28 hP (fun _ => b182_151 hP ?_) (fun e => absurd e (by decide)) (fun e => absurd e (by decide)) (fun e => absurd e (by decide)) (fun e => absurd e (by decide)) (fun e => absurd e (by decide)) (fun e => absurd e (by decide)) (fun e => absurd e (by decide)) (fun e => absurd e (by decide)) (fun e => absurd e (by decide))
    rw [show nI 10 - nI 9 = nI 1 by decide]
    refine c181 (q := 1) (i := p) (xs := dG (D0 mem)) (c := mem 48) (by decide) (by omega) b1.2.2.2.2.2.2.2 ((MwD_Cf b1 g7).pv (by show MV mb (dN (D0 mem)) _; rw [gN]; exact b2) (by show p < dN (D0 mem); omega)) fun r2 m2 a2 => Bk.i (b182_160 hP ?_)
    rw [envF_eq (ag' := mem (5 + 2)) (sk' := mem (5 + 3)) (c' := mem (47 + 1)) (b1.2.2.2.1 p (by omega)).1 (b1.2.2.2.1 p (by omega)).2 (fun _ _ _ => rfl) (by omega)]
    exact k2 r2 m2 a2

end K
