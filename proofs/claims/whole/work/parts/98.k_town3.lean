/-! town, both -/
theorem RK1_more {m m' : Nat → Nat → Int32} {N R B came N' R' came' i : Nat} (h : RK1 m N R B came i) (hN : N ≤ N') (hR : R ≤ R') (hc : came' = (if R < R' ∨ N < N' then came + 1 else came))
    (e : Eqs [68 + i, 71 + i, 74 + i, 76, 77, 141, 142, 143] [] m m') : RK1 m' N' R' B came' i := by
  unfold RK1 at h ⊢
  rw [e.1 76 (by simp), e.1 77 (by simp), e.1 141 (by simp), e.1 142 (by simp), e.1 143 (by simp), e.1 (68 + i) (by simp), e.1 (71 + i) (by simp), e.1 (74 + i) (by simp)]
  rcases h with h | ⟨h1, n', r', kc, h2, h3, h4, h5, h6, h7, h8, h9⟩
  · exact Or.inl h
  · by_cases w : R < R' ∨ N < N'
    · rw [if_pos w] at hc
      refine Or.inr ⟨h1, n', r', kc, h2, h3, h4, by omega, by omega, by omega, ⟨fun z => absurd z (by omega), fun z => absurd z (by omega)⟩, fun z => absurd z (by omega)⟩
    · rw [if_neg w] at hc
      have e1 : N' = N := by omega
      have e2 : R' = R := by omega
      subst hc
      rw [e1, e2]
      exact Or.inr ⟨h1, n', r', kc, h2, h3, h4, h5, h6, h7, h8, h9⟩
theorem tk_town : Tk 100 173 [] := by
  intro N R B r mem Q h hB K
  obtain ⟨p0, pch, ppe, ppl, psh, pr0, pr1⟩ := RTo_parts h.2.2.1
  obtain ⟨hR, hR4, hN, hN8, hR2, hN2⟩ := id p0
  obtain ⟨len, tx, hT, hT2⟩ := id h.1
  have hI : TwI R N (mem 6) (mem 8) := ⟨hR4, hN8, fun i hi => by obtain ⟨h, q1, q2, -⟩ := pch i hi; exact ⟨h, q1, q2⟩, fun i hi => (ppe i hi).2.2⟩
  have hH : ∀ i, i < R → mem 109 i = mem 6 i := fun i hi => by obtain ⟨h, q1, q2, q3⟩ := pch i (by omega); rw [q2, q3 hi]
  have hA : ∀ i, i < N → mem 110 i = mem 7 i ∧ mem 111 i = mem 8 i := fun i hi => by obtain ⟨q1, q2, q3⟩ := ppe i hi; exact ⟨q1.symm, q2.symm⟩
  obtain ⟨ok, ee, q', p', n', H', A', S', hX⟩ : ∃ ok ee q' p' n' H' A' S', trd (gT tx len 76) 77 0 R N 0 (mem 6) (mem 7) (mem 8) = (ok, ee, q', p', n', H', A', S') := ⟨_, _, _, _, _, _, _, _, rfl⟩
  obtain ⟨hI', hRq, hNp, -, hn77, hnp⟩ := trd_ok hI hX
  obtain ⟨hq4, hp8, hH', hS'⟩ := id hI'
  have txt : ∀ m2 : Nat → Nat → Int32, m2 1 1 = nI 0 → m2 108 17 = nI 0 → RTx m2 := fun m2 e1 e2 => ⟨0, tx, ⟨e1, by omega, fun i hi => absurd hi (Nat.not_lt_zero i)⟩, ⟨e2, by omega, fun i hi => absurd hi (Nat.not_lt_zero i)⟩⟩
  -- the town stays
  have same : ∀ m1 m2, Ag [1, 5, 6, 7, 8] mem m1 → AgM [109, 110, 111] [17, 20, 22, 23, 24, 25] m1 m2 → m1 1 1 = nI 0 → m2 108 17 = nI 0 → m1 5 0 = nI R → m1 5 1 = nI N → RTch m2 R → RTpe m2 N → RRc m2 N R B := fun m1 m2 g1 g2 e1 e17 e50 e51 ch pe => by
    refine ⟨txt m2 (by rw [g2.1 1 (by decide) (by decide), e1]) e17, kRw h g1 g2 (by decide), RTo_of ⟨by rw [g2.1 5 (by decide) (by decide), e50], hR4, by rw [g2.1 5 (by decide) (by decide), e51], hN8, ?_, ?_⟩ ch pe (ppl.mv (dj_eqs g1 g2 (by decide))) (psh.mv (dj_eqs g1 g2 (by decide))) (pr0.mv (by decide) (dj_eqs g1 g2 (by decide))) (pr1.mv (by decide) (dj_eqs g1 g2 (by decide))), kSt h g1 g2 (by decide), kUn h g1 g2 (by decide), kOl h g1 g2 (by decide), kKe h g1 g2 (by decide), kZe h g1 g2 (by decide)⟩
    · rw [g2.2 0 (by decide), g1 108 (by decide), hR2]
    · rw [g2.2 2 (by decide), g1 108 (by decide), hN2]
  have mod : ∀ m1 : Nat → Nat → Int32, (∀ c, 108 ≤ c → m1 c = mem c) → TxM m1 len tx ∧ m1 108 0 = nI R ∧ m1 108 2 = nI N ∧ (∀ i, i < R → m1 109 i = mem 6 i) ∧ ∀ i, i < N → m1 110 i = mem 7 i ∧ m1 111 i = mem 8 i := fun m1 e => by
    unfold TxM at hT2 ⊢
    rw [e 108 (by decide), e 122 (by decide), e 109 (by decide), e 110 (by decide), e 111 (by decide)]
    exact ⟨hT2, hR2, hN2, hH, hA⟩
  refine c_in rfl rfl rfl fun P hP => b100_0 hP (c84 hT hR hN hI hX (fun hl m1 a1 e50 e51 => Bk.i (b100_11 hP (fun _ => b100_28 hP (fun _ => b100_39 hP (c73 (Bk.v (b100_46 hP (K _ _ ?_))))) (fun z => absurd (Int32.le_refl _) z)) (fun z => absurd z (by decide)))) (fun hl hno m1 t1 e12 => Bk.i (b100_11 hP (fun z => absurd rfl z) (fun _ => b100_17 hP (c80 (Bk.i (b100_24 hP (b100_39 hP (c73 (Bk.v (b100_46 hP ?_))))))))))
    (fun hl hk he m1 a1 e50 e51 o6 o7 o8 => Bk.i (b100_11 hP (fun _ => b100_28 hP (fun z => absurd z ?_) (fun _ => b100_32 hP (c27 (Bk.v (b100_39 hP (c73 (Bk.v (b100_46 hP (K _ _ ?_))))))))) (fun z => absurd z (nI_nm (by omega))))))
  · intro Q2 k2
    have b1 : Ag [1, 5] mem (xu2 m1 1 1 (nI 0)) := a1.u2 (by simp)
    have f5 : xu2 m1 1 1 (nI 0) 5 = m1 5 := xu2_ne (by decide)
    obtain ⟨y1, y2, y3, y4, y5⟩ := mod _ (fun c hc => b1 c (by simp; omega))
    refine m173 (d := 295) y1 y2 y3 hI y4 y5 hX (fun _ r2 m2 g2 e17 => k2 _ _ (kEnd (N := N) (R := R) (same _ m2 (b1.mono (by simp)) (g2.mono (by simp) (by simp)) (by rw [xu2_eq, upd_at]) e17 (by rw [f5, e50]) (by rw [f5, e51]) (pch.mv (dj_eqs b1 g2 (by decide))) (ppe.mv (dj_eqs b1 g2 (by decide)))) hB)) (fun q => absurd hl q) (fun q => absurd hl q)
  · rw [e12]
    refine K _ _ ?_
    intro Q2 k2
    obtain ⟨t1, t2, t3, t4, t5, t6, t7, t8⟩ := t1
    have b1 : Ag [1, 5, 6, 7, 8] mem (xu2 m1 1 1 (nI 0)) := t1.u2 (by simp)
    have f : ∀ c, c ≠ 1 → xu2 m1 1 1 (nI 0) c = m1 c := fun c hc => xu2_ne hc
    obtain ⟨y1, y2, y3, y4, y5⟩ := mod _ (fun c hc => b1 c (by simp; omega))
    refine m173 (d := 295) y1 y2 y3 hI y4 y5 hX (fun q => absurd q hl) (fun _ _ r2 m2 w => k2 _ _ (kEnd (N := N) (R := R) (same _ m2 b1 w.1 (by rw [xu2_eq, upd_at]) w.2.1 (by rw [f 5 (by decide), t2, hR]) (by rw [f 5 (by decide), t3, hN]) ?_ ?_) hB)) (fun _ hk he => absurd ⟨hk, he⟩ hno)
    · intro i hi
      obtain ⟨x, x1, x2⟩ := hH' i hi
      refine ⟨x, x1, ?_, fun hiR => ?_⟩
      · rw [w.1.1 6 (by decide) (by decide), f 6 (by decide), t6, x2]
      · rw [w.2.2.1 i (by omega), x2]
    · intro i hi
      obtain ⟨x1, x2⟩ := w.2.2.2 i (by omega)
      rw [w.1.1 7 (by decide) (by decide), f 7 (by decide), t7, w.1.1 8 (by decide) (by decide), f 8 (by decide), t8]
      exact ⟨x1.symm, x2.symm, hS' i (by omega)⟩
  · have := hnp hk
    exact nI_nle (by omega) (by omega)
  · intro Q2 k2
    generalize hm1 : xu2 (xu2 m1 55 0 (nI 0)) 1 1 (nI 0) = m1'
    have b1 : Ag [1, 5, 6, 7, 8, 55] mem m1' := by rw [← hm1]; exact ((a1.mono (by simp)).u2 (by simp)).u2 (by simp)
    have f : ∀ c, c ≠ 1 → c ≠ 55 → m1' c = m1 c := fun c h1 h2 => by rw [← hm1, xu2_ne h1, xu2_ne h2]
    have f55 : m1' 55 = upd (mem 55) 0 (nI 0) := by rw [← hm1, xu2_ne (by decide), xu2_eq, a1 55 (by decide)]
    have f11 : m1' 1 1 = nI 0 := by rw [← hm1, xu2_eq, upd_at]
    obtain ⟨y1, y2, y3, y4, y5⟩ := mod m1' (fun c hc => b1 c (by simp; omega))
    refine m173 (d := 295) y1 y2 y3 hI y4 y5 hX (fun q => absurd q hl) (fun _ hno => absurd ⟨hk, he⟩ hno) (fun _ _ _ r2 m0 m2 m3 w z a3 z0 z2 z37 z47 => k2 _ _ (kEnd2 (N := p') (R := q') (B' := B + 1) ?_ (by omega) hB))
    have g2 : AgM [109, 110, 111, 113, 114, 115, 116, 117, 118, 119, 120, 121] [0, 2, 17, 20, 22, 23, 24, 25, 37, 47] m1' m3 := ((w.1.mono (by simp) (by simp)).trans (z.1.mono (by simp) (by simp))).trans (a3.mono (by simp) (by simp))
    have n3 : ∀ c, c ≠ 108 → m3 c = m2 c := fun c hc => a3.1 c (by simp) hc
    have n2 : ∀ c, c ∉ [113, 114, 115, 116, 117, 118, 119, 120, 121] → c ≠ 108 → m3 c = m0 c := fun c h1 h2 => by rw [n3 c h2, z.1.1 c h1 h2]
    have n1 : ∀ c, c ∉ [1, 55, 109, 110, 111, 113, 114, 115, 116, 117, 118, 119, 120, 121] → c ≠ 108 → m3 c = m1 c := fun c h1 h2 => by
      rw [g2.1 c (by simp at h1 ⊢; omega) h2, f c (by simp at h1; omega) (by simp at h1; omega)]
    have o : ∀ c, c ∈ [113, 114, 115, 116, 117, 118, 119, 120, 121] → m0 c = mem c := fun c hc => by
      rw [w.1.1 c (by simp at hc ⊢; omega) (by simp at hc; omega), b1 c (by simp at hc ⊢; omega)]
    refine ⟨txt m3 (by rw [g2.1 1 (by decide) (by decide), f11]) (by rw [a3.2 17 (by decide), z.1.2 17 (by simp), w.2.1]), kRw h b1 g2 (by decide), RTo_of ⟨by rw [n1 5 (by decide) (by decide), e50], hq4, by rw [n1 5 (by decide) (by decide), e51], hp8, z0, z2⟩ ?_ ?_ ?_ (psh.mv (dj_eqs b1 g2 (by decide))) (pr0.mv (by decide) (dj_eqs b1 g2 (by decide))) (pr1.mv (by decide) (dj_eqs b1 g2 (by decide))), ?_, ?_, ?_, ?_, kZe h b1 g2 (by decide)⟩
    · intro i hi
      obtain ⟨x, x1, x2⟩ := hH' i hi
      refine ⟨x, x1, ?_, fun hiR => ?_⟩
      · rw [n1 6 (by decide) (by decide), o6, x2]
      · rw [n2 109 (by decide) (by decide), w.2.2.1 i hiR, x2]
    · intro i hi
      obtain ⟨x1, x2⟩ := w.2.2.2 i hi
      rw [n1 7 (by decide) (by decide), o7, n1 8 (by decide) (by decide), o8, n2 110 (by decide) (by decide), n2 111 (by decide) (by decide)]
      exact ⟨x1.symm, x2.symm, hS' i hi⟩
    · intro p hp
      obtain ⟨L, l1, l2, l3, l4⟩ := ppl p hp
      have i10 : ∀ p < 8, 10 + p ∉ [1, 55, 109, 110, 111, 113, 114, 115, 116, 117, 118, 119, 120, 121] ∧ 10 + p ≠ 108 ∧ 10 + p ∉ [1, 5, 6, 7, 8] := by decide
      obtain ⟨i1, i2, i3⟩ := i10 p hp
      rw [n1 18 (by decide) (by decide), a1 18 (by decide), n1 (10 + p) i1 i2, a1 (10 + p) i3, n2 112 (by decide) (by decide), w.1.1 112 (by decide) (by decide), b1 112 (by decide), n3 113 (by decide)]
      refine ⟨L, l1, l2, fun q => l3 (by omega), fun q => ?_⟩
      by_cases hpN : p < N
      · obtain ⟨x1, x2⟩ := l4 hpN
        rw [(z.2.2.1 p hpN).1, o 113 (by decide)]
        refine ⟨x1, fun k hk => ⟨(x2 k hk).1, (x2 k hk).2.elim Or.inl (fun ⟨rm, u1, u2⟩ => Or.inr ⟨rm, by omega, u2⟩)⟩⟩
      · have hL := l3 (by omega)
        rw [(z.2.1 p (by omega) q).1, hL]
        exact ⟨rfl, fun k hk => absurd hk (by omega)⟩
    · obtain ⟨hM, hS⟩ := h.2.2.2.1
      have e48 : m3 48 = mem 48 := by rw [n1 48 (by decide) (by decide), a1 48 (by decide)]
      refine ⟨?_, ?_⟩
      · rw [e48]
        refine ⟨fun p hp => ?_, fun g hg => ?_, ?_⟩
        · rw [n3 114 (by decide), n3 115 (by decide), n3 116 (by decide), n3 117 (by decide), n3 118 (by decide), n3 119 (by decide), n3 120 (by decide)]
          by_cases hpN : p < N
          · obtain ⟨-, x2, x3, x4, x5, x6, x7, x8⟩ := z.2.2.1 p hpN
            rw [x2, x3, x4, x5, x6, x7, x8, o 114 (by decide), o 115 (by decide), o 116 (by decide), o 117 (by decide), o 118 (by decide), o 119 (by decide), o 120 (by decide)]
            exact hM.1 p hpN
          · obtain ⟨-, x2, x3, x4, x5, x6, x7, x8⟩ := z.2.1 p (by omega) hp
            obtain ⟨s1, s2⟩ := hS.2.2.2.1 p (by omega) (by omega)
            rw [x2, x3, x4, x5, x6, x7, x8, s1, s2 1 (by decide) (by decide), s2 2 (by decide) (by decide), s2 3 (by decide) (by decide), s2 4 (by decide) (by decide), s2 5 (by decide) (by decide), s2 6 (by decide) (by decide)]
            exact ⟨rfl, by decide, rfl, rfl, rfl, rfl, rfl⟩
        · have e : g = 8 * (g / 8) + g % 8 := by omega
          rw [n3 121 (by decide), e, z.2.2.2 (g / 8) (g % 8) (by omega) (by omega), o 121 (by decide)]
          by_cases q : (N ≤ g / 8 ∧ g / 8 < p') ∨ (N ≤ g % 8 ∧ g % 8 < p')
          · rw [if_pos q, hS.2.2.2.2.1 (g / 8) (g % 8) (by omega) (by omega) (by omega)]; rfl
          · rw [if_neg q]; exact hM.2.1 _ (by omega)
        · rw [g2.2 15 (by decide), b1 108 (by decide)]; exact hM.2.2
      · rw [e48]
        exact (hS.more hNp hp8).mono hRq (by omega)
    · obtain ⟨u, fr, -, -, u3, u4, -, -⟩ := h.2.2.2.2.1
      exact RUn_0 (fr := fr) (by rw [g2.1 55 (by decide) (by decide), f55, upd_at]) (by rw [g2.1 55 (by decide) (by decide), f55, upd_ne (by decide), u3]) u4 z37
    · obtain ⟨T, x1, x2, x3, x4⟩ := kOl h b1 g2 (by decide)
      refine ⟨T, x1, x2, x3, fun k hk => ?_⟩
      obtain ⟨p, s, v1, v2⟩ := x4 k hk
      exact ⟨p, s, by omega, v2⟩
    · obtain ⟨came, c1, ⟨c2, c3⟩, c4, c5⟩ := h.2.2.2.2.2.2.1
      have e47 : m1' 108 47 = nI came := by rw [b1 108 (by decide), c2]
      rw [e47, nIs] at z47
      refine ⟨if R < q' ∨ N < p' then came + 1 else came, ?_, ⟨?_, ?_⟩, (RK1_more c4 hNp hRq rfl (dj_eqs b1 g2 (by decide))).mono (by omega), (RK1_more c5 hNp hRq rfl (dj_eqs b1 g2 (by decide))).mono (by omega)⟩
      · split <;> omega
      · rw [z47]
        split <;> rfl
      · rw [g2.1 91 (by decide) (by decide), b1 91 (by decide), c3]
