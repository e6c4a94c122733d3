section K
variable {N R B r d n T : Nat} {mem m' m0 m1 m2 m3 m4 m5 : Nat → Nat → Int32} {Q : xQr} {g : xCf} {D : xD}
/-- the states on the way: what they keep -/
theorem sTD_ok {two : Bool} {one oth now : Nat} {c : Nat → Int32} (hD : DOk D) (hK : 0 < sK D two) (hPV : PV (dN D) c) (hw : c 120 = nI now) (i w : Nat) : PV (dN D) (sTD D two one oth c i w) ∧ sTD D two one oth c i w 120 = nI (now + i) := by
  have hN8 := hD.2.1
  have hR4 := hD.1
  refine sT_ind (Pr := fun i s => PV (dN D) s ∧ s 120 = nI (now + i)) hK ⟨hPV, hw⟩ (fun i s mv hmv h => ?_) i w
  have hs2 : fN (cfD (sndD D two one oth mv)) = dN D := sndD_s.2
  have hs1 : fR (cfD (sndD D two one oth mv)) = dR D := sndD_s.1
  refine ⟨?_, ?_⟩
  · have := qtr_PV (f := cfD (sndD D two one oth mv)) (c := s) (by omega) (by omega) (by rw [hs2]; exact h.1)
    rw [hs2] at this
    exact this
  · show qtr _ s 120 = _
    rw [qtr_120 (by omega), h.2, show (1 : Int32) = nI 1 from rfl, nIs]
    rfl
/-- who was sent is there -/
theorem stp_pos {one mv : Nat} {s : Nat → Int32} (hD : DOk D) (hone : one < dN D) (hmv : mv < dR D) (hPV : PV (dN D) s) : stpD D false one 0 s mv (8 + one) = 1 ∨ stpD D false one 0 s mv (8 + one) = 2 := by
  have hN8 := hD.2.1
  have hR4 := hD.1
  have q := qtr_PV (f := cfD (dsP D one mv)) (c := s) hN8 hR4 hPV one hone
  have e : qtr (cfD (dsP D one mv)) s one = nI mv := by
    rw [qtr_p (f := cfD (dsP D one mv)) (show one < fN (cfD (dsP D one mv)) from hone) (show fN (cfD (dsP D one mv)) ≤ 8 from hN8)]
    show (if (if one = one then 1 else dL D one) = 0 then -1 else (if one = one ∧ ((s 120).toNatClampNeg + dF D one) % (if one = one then 1 else dL D one) = 0 then nI mv else _)) = _
    rw [if_pos rfl, if_neg (by decide), if_pos ⟨rfl, Nat.mod_one _⟩]
  rcases q with ⟨q1, -⟩ | ⟨-, q2⟩
  · rw [e] at q1; exact absurd q1 (nI_nm (by omega))
  · exact q2
/-- the reference's least for one -/
theorem m211 {p n now : Nat} {c : Nat → Int32} (hD : DOk D) (hR : 0 < dR D) (hp : p < dN D) (hn : n ≤ 5) (hPV : PV (dN D) c) (hw : c 120 = nI now) (hnow : now + 10 < 1073741800) (b1 : MwD m1 D) (b2 : MV m1 (dN D) c) (b99 : m1 128 p = nI 99) {Q2 : xQr}
    (k : ∀ r2 m2, AgM (123 :: 133 :: mqW) (20 :: 19 :: mqV) m1 m2 → MV m2 (dN D) c → RwM m2 (rowS D false n (sAD D false p 0 n c (dR D ^ n)).2 n) → Q2 (some (.int (nI (n - ((sAD D false p 0 n c (dR D ^ n)).1 - 1))))) (LAY, RFu r2, m2)) :
    xCall (d + 75) 211 [.ref 108, .int (nI p), .int (nI n)] (LAY, RFu r, m1) Q2 := by
  have hN8 := hD.2.1
  have hR4 := hD.1
  have hK : sK D false = dR D := rfl
  have c1 : MwD (xu2 m1 108 20 (nI 0)) D := MwD_ag b1 th20 (by simp) (by decide)
  have c2 : MV (xu2 m1 108 20 (nI 0)) (dN D) c := b2.ag th20 (by simp) (by decide)
  have c3 : xu2 m1 108 20 (nI 0) 128 p = nI 99 := by rw [xu2_ne (by decide)]; exact b99
  have t20' : ∀ W V m2, AgM W V (xu2 m1 108 20 (nI 0)) m2 → AgM W (20 :: V) m1 m2 := fun W V m2 a => t20 a
  refine c_in rfl rfl rfl fun P hP => b211_0 hP ?_
  generalize hmb : xu2 m1 108 20 (nI 0) = mb at c1 c2 c3 t20'
  have vp : vp_in (nI p) 8 := vpn (by omega) (by decide)
  have cp : (nI p).toNatClampNeg = p := nIc (by omega)
  have hpw : ∀ i, dR D ^ i ≤ 4 ^ i := fun i => Nat.pow_le_pow_left hR4 i
  have h45 : ∀ i, i ≤ 5 → 4 ^ i ≤ 1024 := by decide
  have hpw5 : ∀ i, i ≤ 5 → dR D ^ i ≤ 1024 := fun i hi => Nat.le_trans (hpw i) (h45 i hi)
  have hpos : ∀ i, 0 < dR D ^ i := fun i => Nat.pow_pos hR
  refine c162 (N := dN D) c1.2.1 (by omega) (fun q => absurd rfl (q p hp)) (fun _ _ _ => Bk.i (b211_10 hP (fun z => absurd z (by decide)) (fun _ => b211_13 hP (c158r (a := 0) (b := 5) (by decide) (by decide) (fun q => absurd rfl (q n (Nat.zero_le _) hn)) (fun _ _ _ _ => Bk.i (b211_19 hP (fun _ => b211_24 hP (fun _ => b211_34 hP ?_) (fun z => absurd z (by rw [c1.1]; exact nI_ne0 (by omega) (by omega)))) (fun z => absurd z (by decide))))))))
  refine c191 (k := 0) (np := 121) (Or.inr (Or.inl rfl)) rfl (by decide) (by decide) hN8 c2 fun m2 a2 l2 _ => Bk.v (b211_43 hP ?_)
  have s2 : MS D false p 0 c mb c m2 := ⟨a2.mono (by simp) (by simp), l2, c2.ag a2 (by decide) (by simp), ⟨D, MwD_ag c1 a2 (by decide) (by simp), Or.inl rfl⟩, fun q _ _ => by rw [a2.1 128 (by decide) (by decide)]⟩
  have fR : ∀ {s m'}, MS D false p 0 c mb s m' → m' 108 0 = nI (dR D) ∧ m' 108 2 = nI (dN D) := fun h => ⟨by rw [h.1.2 0 (by decide)]; exact c1.1, by rw [h.1.2 2 (by decide)]; exact c1.2.1⟩
  have hz0 : ∀ {s m'}, MS D false p 0 c mb s m' → ¬ m' 108 0 = 0 := fun h => by rw [(fR h).1]; exact nI_ne0 (by omega) (by omega)
  -- all the ways
  have all : ∀ v5 v6 v7 v8 v9, P 67 [.ref 108, .int (nI p), .int (nI n), .int (nI (dR D ^ n)), .int (nI n), v5, v6, v7, v8, v9] [] (0, 0) (LAY, RFu r, m2) := fun v5 v6 v7 v8 v9 => by
    refine b211_67 hP ?_
    have key := xloop (N := dR D ^ n) (G := fun k => ∀ r' m' v7 v8 v9, MS D false p 0 c mb c m' → P 78 [.ref 108, .int (nI p), .int (nI n), .int (nI (dR D ^ n)), .int (nI (sAD D false p 0 n c k).2), .int (nI (if (sAD D false p 0 n c k).1 = 0 then 500 else n - ((sAD D false p 0 n c k).1 - 1))), .int (nI k), v7, v8, v9] [] (0, 0) (LAY, RFu r', m')) ?_ ?_
    · exact key r m2 _ _ _ s2
    · intro r' m' v7 v8 v9 h
      obtain ⟨hA1, hA2⟩ := (sA_lt (K := sK D false) (n := n) (stp := stpD D false p 0) (ok := okD false p 0) (c := c) (dR D ^ n)).2 (hpos n)
      have hA1 : 0 < (sAD D false p 0 n c (dR D ^ n)).1 := hA1
      have hA2 : (sAD D false p 0 n c (dR D ^ n)).2 < dR D ^ n := hA2
      rw [if_neg (by omega)]
      generalize hW : sAD D false p 0 n c (dR D ^ n) = W at *
      have hbw := hpw5 n hn
      refine b211_78 hP (fun _ => b211_186 hP vp ?_) (fun z => absurd (Int32.le_refl _) z)
      rw [cp]
      generalize hm3 : xu2 (xu2 m' 128 p (nI 99)) 108 19 (nI 0) = m3
      have a3 : AgM [128] [19] m' m3 := by rw [← hm3]; exact ((AgM.rfl' (W := [128]) (V := [19])).u2 (by simp) (by decide)).us (by simp)
      have e128 : m3 128 = mb 128 := by
        funext q
        rw [← hm3, xu2_ne (by decide), xu2_eq]
        by_cases w : q = p
        · rw [w, upd_at, c3]
        · rw [upd_ne w]; exact h.2.2.2.2 q w (fun z => by cases z)
      have a3m : AgM (133 :: mqW) (19 :: mqV) mb m3 := by
        have q : AgM (128 :: 133 :: mqW) (19 :: mqV) mb m3 := (h.1.mono (fun _ h => h) (fun _ h => List.mem_cons_of_mem _ h)).trans (a3.mono (by decide) (by decide))
        exact q.drop e128
      have hR3 : m3 108 0 = nI (dR D) := by rw [a3.2 0 (by decide)]; exact (fR h).1
      have key2 := xloop (N := n) (G := fun j => ∀ m4, AgM [123] [19] m3 m4 → RwM m4 (rowS D false n W.2 j) → P 205 [.ref 108, .int (nI p), .int (nI n), .int (nI (dR D ^ n)), .int (nI W.2), .int (nI (n - (W.1 - 1))), .int (nI (dR D ^ (n - j))), .int (nI j), v8, v9] [] (0, 0) (LAY, RFu r', m4)) ?_ ?_
      · exact key2 m3 AgM.rfl' (RwM_nil (by rw [← hm3, xu2_eq, upd_at]))
      · intro m4 a4 w4
        refine b211_205 hP (fun _ => b211_240 hP (k _ _ ?_ ?_ w4)) (fun z => absurd (Int32.le_refl _) z)
        · exact t20' _ _ _ ((a3m.mono (fun _ h => List.mem_cons_of_mem _ h) (fun _ h => h)).trans (a4.mono (by simp) (by simp)))
        · exact (h.2.2.1.ag a3 (by decide) (by decide)).ag a4 (by decide) (by decide)
      · intro j hj ih m4 a4 w4
        have hR4' : m4 108 0 = nI (dR D) := by rw [a4.2 0 (by decide), hR3]
        have ed : nI (dR D ^ (n - j)) / nI (dR D) = nI (dR D ^ (n - 1 - j)) := by
          rw [nI_div (by have := hpw5 (n - j) (by omega); omega) (by omega) hR, show n - j = (n - 1 - j) + 1 by omega, Nat.pow_succ, Nat.mul_div_cancel _ hR]
        have hb1 := hpw5 (n - 1 - j) (by omega)
        have hq : W.2 / dR D ^ (n - 1 - j) ≤ W.2 := Nat.div_le_self _ _
        have hlen := rowS_len (D := D) (two := false) (n := n) (w := W.2) j
        rw [if_neg (by decide)] at hlen
        refine b211_205 hP (fun z => absurd z (nI_ge hj (by omega))) (fun _ => b211_211 hP (by rw [hR4']; exact nI_ne0 (by omega) (by omega)) (by rw [hR4', ed]; exact nI_ne0 (hpos _) (by omega)) (by rw [hR4']; exact nI_ne0 (by omega) (by omega)) ?_)
        rw [hR4', ed, nI_div (by omega) (by omega) (hpos _), nI_rem (by omega) (by omega) hR]
        refine c161 w4 (by rw [hlen]; omega) fun m6 a6 w6 => Bk.v (b211_234 hP ?_)
        rw [nIs, show n - 1 - j = n - (j + 1) by omega]
        refine ih m6 (a4.trans a6) ?_
        rw [show n - (j + 1) = n - 1 - j by omega] at *
        exact w6
    · intro k hk ih r' m' v7 v8 v9 h
      have hbk := hpw5 n hn
      refine b211_78 hP (fun z => absurd z (nI_ge hk (by omega))) (fun _ => b211_84 hP ?_)
      generalize hx4 : nI (sAD D false p 0 n c k).2 = x4
      generalize hx5 : nI (if (sAD D false p 0 n c k).1 = 0 then 500 else n - ((sAD D false p 0 n c k).1 - 1)) = x5
      have key2 := xloop (N := n) (G := fun i => ∀ r' m', MS D false p 0 c mb (sTD D false p 0 c i (k / dR D ^ (n - i))) m' → P 93 [.ref 108, .int (nI p), .int (nI n), .int (nI (dR D ^ n)), .int x4, .int x5, .int (nI k), .int (nI (i - sGD D false p 0 c i (k / dR D ^ (n - i)))), .int (nI (dR D ^ (n - i))), .int (nI i)] [] (0, 0) (LAY, RFu r', m')) ?_ ?_
      · have := key2 r' m' h
        rw [Nat.zero_sub, Nat.sub_zero] at this
        exact this
      · intro r2 m3 h3
        rw [Nat.sub_self, Nat.pow_zero, Nat.div_one] at h3 ⊢
        have hg : sGD D false p 0 c n k ≤ n := sG_le1 n k
        have hal := (sA_lt (K := sK D false) (n := n) (stp := stpD D false p 0) (ok := okD false p 0) (c := c) k)
        have hal1 : (sAD D false p 0 n c k).1 ≤ n + 1 := hal.1
        have es : sAD D false p 0 n c (k + 1) = if (sAD D false p 0 n c k).1 < sGD D false p 0 c n k + 1 then (sGD D false p 0 c n k + 1, k) else sAD D false p 0 n c k := rfl
        refine b211_93 hP (fun _ => b211_153 hP (c192 (k := 0) (np := 121) (Or.inr (Or.inl rfl)) rfl (by decide) (by decide) hN8 (fR h3).2 h3.2.1 fun m4 a4 v4 => Bk.v ?_)) (fun z => absurd (Int32.le_refl _) z)
        have h4 : MS D false p 0 c mb c m4 := by
          obtain ⟨y1, y2, y3, ⟨D', y4, y5⟩, y6⟩ := h3
          exact ⟨y1.trans (a4.mono (by decide) (by decide)), by rw [a4.1 133 (by decide) (by decide)]; exact y2, v4, ⟨D', MwD_ag y4 a4 (by decide) (by decide), y5⟩, fun q w1 w2 => by rw [a4.1 128 (by decide) (by decide)]; exact y6 q w1 w2⟩
        have nx := fun v7 v8 v9 => ih r2 m4 v7 v8 v9 h4
        rw [es] at nx
        rw [← hx4, ← hx5]
        by_cases w : (sAD D false p 0 n c k).1 < sGD D false p 0 c n k + 1
        · rw [if_pos w] at nx
          refine b211_162 hP (fun _ => b211_172 hP (b211_180 hP ?_)) (fun z => absurd ?_ z)
          · rw [nIs]
            exact nx _ _ _
          · refine nI_lt ?_ (by split <;> omega)
            split
            · omega
            · omega
        · rw [if_neg w] at nx
          refine b211_162 hP (fun z => absurd z (nI_nlt ?_ (by omega))) (fun _ => b211_169 hP (b211_180 hP ?_))
          · rw [if_neg (by omega)]; omega
          · rw [nIs]
            exact nx _ _ _
      · intro i hi ih2 r2 m3 h3
        have ed : nI (dR D ^ (n - i)) / nI (dR D) = nI (dR D ^ (n - (i + 1))) := by
          rw [nI_div (by have := hpw5 (n - i) (by omega); omega) (by omega) hR, show n - i = (n - (i + 1)) + 1 by omega, Nat.pow_succ, Nat.mul_div_cancel _ hR]
        have hb1 := hpw5 (n - (i + 1)) (by omega)
        have hq : k / dR D ^ (n - (i + 1)) ≤ k := Nat.div_le_self _ _
        have hmv : k / dR D ^ (n - (i + 1)) % dR D < dR D := Nat.mod_lt _ hR
        generalize hmvE : k / dR D ^ (n - (i + 1)) % dR D = mv at hmv
        have hwd : k / dR D ^ (n - (i + 1)) / dR D = k / dR D ^ (n - i) := by
          rw [← pw_succ', show n - (i + 1) + 1 = n - i by omega]
        have hT : sTD D false p 0 c (i + 1) (k / dR D ^ (n - (i + 1))) = stpD D false p 0 (sTD D false p 0 c i (k / dR D ^ (n - i))) mv := by
          rw [← hmvE, ← hwd]
          rfl
        have hG : sGD D false p 0 c (i + 1) (k / dR D ^ (n - (i + 1))) = sGD D false p 0 c i (k / dR D ^ (n - i)) + if okD false p 0 (stpD D false p 0 (sTD D false p 0 c i (k / dR D ^ (n - i))) mv) = true then 1 else 0 := by
          rw [← hT, ← hwd]
          rfl
        have hgl : sGD D false p 0 c i (k / dR D ^ (n - i)) ≤ i := sG_le1 i _
        rw [hT, hG] at ih2
        obtain ⟨pv, pn⟩ := sTD_ok (two := false) (one := p) (oth := 0) (now := now) (c := c) hD (show 0 < sK D false from hR) hPV hw i (k / dR D ^ (n - i))
        have hpo := stp_pos (D := D) (one := p) (mv := mv) hD hp hmv pv
        generalize sTD D false p 0 c i (k / dR D ^ (n - i)) = s at h3 pv pn ih2 hpo
        generalize sGD D false p 0 c i (k / dR D ^ (n - i)) = gg at hgl ih2
        refine b211_93 hP (fun z => absurd z (nI_ge hi (by omega))) (fun _ => b211_99 hP (hz0 h3) (by rw [(fR h3).1, ed]; exact nI_ne0 (hpos _) (by omega)) (hz0 h3) vp ?_)
        rw [(fR h3).1, ed, nI_div (by omega) (by omega) (hpos _), nI_rem (by omega) (by omega) hR, cp, hmvE]
        have aw : AgM [128] [] m3 (xu2 m3 128 p (nI mv)) := AgM.rfl'.u2 (by simp) (by decide)
        have ww : MwD (xu2 m3 128 p (nI mv)) (sndD D false p 0 mv) := by
          obtain ⟨-, -, -, ⟨D', y4, y5⟩, -⟩ := h3
          have := MwD_P (p := p) (a := mv) y4 (by omega) (by omega)
          rw [← snd_re (D := D) (D' := D') (two := false) (one := p) (oth := 0) (mv := mv) (fun q => by cases q) y5]
          exact this
        refine m190s (d := d + 1) (two := false) (one := p) (oth := 0) (mv := mv) (now := now + i) hD hmv h3 aw ww (fun q w1 _ => by rw [xu2_eq, upd_ne w1]) pv pn (by omega) fun r4 m4 y h4 => Bk.i (b211_128 hP ?_)
        have pv2 : PV (dN D) (stpD D false p 0 s mv) := by
          have := qtr_PV (f := cfD (dsP D p mv)) (c := s) hN8 hR4 pv
          exact this
        refine c193 h4.2.2.1 pv2 hp hN8 (Bk.i (b211_136 hP (fun z => b211_143 hP (b211_144 hP ?_)) (fun z => b211_139 hP (b211_144 hP ?_))))
        · have hne := b01_0.mp z
          have hok : okD false p 0 (stpD D false p 0 s mv) = true := decide_eq_true (hpo.resolve_left hne)
          rw [if_pos hok] at ih2
          rw [nI_add, nIs, Nat.add_zero, show i - gg = i + 1 - (gg + 1) by omega]
          exact ih2 r4 m4 h4
        · have he : stpD D false p 0 s mv (8 + p) = 1 := Decidable.by_contra fun q => z (b01_f q)
          have hok : ¬ okD false p 0 (stpD D false p 0 s mv) = true := fun q => by
            have := of_decide_eq_true q
            rw [he] at this
            exact i12 this
          rw [if_neg hok] at ih2
          rw [nI_add, nIs, show i - gg + 1 = i + 1 - (gg + 0) by omega]
          exact ih2 r4 m4 h4
  have key := xloop (N := n) (G := fun j => ∀ v5 v6 v7 v8 v9, P 48 [.ref 108, .int (nI p), .int (nI n), .int (nI (dR D ^ j)), .int (nI j), v5, v6, v7, v8, v9] [] (0, 0) (LAY, RFu r, m2)) ?_ ?_
  · exact key _ _ _ _ _
  · intro v5 v6 v7 v8 v9
    exact b211_48 hP (fun _ => all _ _ _ _ _) (fun z => absurd (Int32.le_refl _) z)
  · intro j hj ih v5 v6 v7 v8 v9
    refine b211_48 hP (fun z => absurd z (nI_ge hj (by omega))) (fun _ => b211_54 hP ?_)
    rw [(fR s2).1, nI_mul, nIs, ← Nat.pow_succ]
    exact ih _ _ _ _ _
theorem tk_least (x y : Int32) : Tk 125 211 [.int x, .int y] := by
  intro N R B r mem Q h hB K
  obtain ⟨hR, hR4, hN, hN8, hR2, hN2⟩ := (RTo_parts h.2.2.1).1
  obtain ⟨g1, g2, g3, g4, g5, g6, g7, g8, g9⟩ := RRc_g h
  have gN : dN (D0 mem) = N := g1
  have gR : dR (D0 mem) = R := g2
  have hb : B < 500000000 := by omega
  obtain ⟨hM, hS⟩ := h.2.2.2.1
  obtain ⟨now, n1, n2⟩ := hS.now
  have no : ((∀ p, p < N → x ≠ nI p) ∨ (∀ s, 0 ≤ s → s ≤ 5 → y ≠ nI s)) → Q (some (.int (-1))) (LAY, RFu r, mem) := fun hno => by
    refine K _ _ ?_
    intro Q2 k2
    refine c_in rfl rfl rfl fun P hP => ?_
    have f : ∀ v0 v1 v2 v3 v4 v5 v6 v7 v8 v9, P 22 [v0, v1, v2, v3, v4, v5, v6, v7, v8, v9] [] (0, 0) (LAY, RFu r, xu2 mem 108 20 (nI 0)) := fun _ _ _ _ _ _ _ _ _ _ => b211_22 hP (k2 _ _ (kEnd (kM20 h) hB))
    refine b211_0 hP (c162 (N := N) (by rw [e20 (by decide), hN2]) (by omega) (fun _ => Bk.i (b211_10 hP (fun _ => f _ _ _ _ _ _ _ _ _ _) (fun z => absurd rfl z))) (fun p hp ep => Bk.i (b211_10 hP (fun z => absurd z (by decide)) (fun _ => b211_13 hP (c158r (a := 0) (b := 5) (by decide) (by decide) (fun _ => Bk.i (b211_19 hP (fun z => absurd rfl z) (fun _ => f _ _ _ _ _ _ _ _ _ _))) (fun s hs1 hs2 es => ?_))))))
    rcases hno with q | q
    · exact absurd ep (q p hp)
    · exact absurd es (q s hs1 hs2)
  refine c_in rfl rfl rfl fun P hP => b125_0 hP (c83 (Or.inl rfl) hN (by omega) (fun hp => Bk.i (b125_8 hP (fun _ => b125_20 hP (no (Or.inl hp))) (fun z => absurd rfl z))) (fun p hp ep => Bk.i (b125_8 hP (fun z => absurd z (by decide)) (fun _ => b125_11 hP (c151 (a := 0) (b := 5) (by decide) (by decide) (fun hs => Bk.i (b125_17 hP (fun z => absurd rfl z) (fun _ => b125_20 hP (no (Or.inr hs))))) (fun n hn1 hn2 en => Bk.i (b125_17 hP (fun _ => ?_) (fun z => absurd z (by decide)))))))))
  subst ep
  subst en
  by_cases hR0 : R = 0
  · refine b125_22 hP (fun z => absurd (by rw [hR, hR0]; rfl) z) (fun _ => b125_32 hP (K _ _ ?_))
    intro Q2 k2
    refine c_in rfl rfl rfl fun P hP => b211_0 hP (c162 (N := N) (by rw [e20 (by decide), hN2]) (by omega) (fun q => absurd rfl (q p hp)) (fun _ _ _ => Bk.i (b211_10 hP (fun z => absurd z (by decide)) (fun _ => b211_13 hP (c158r (a := 0) (b := 5) (by decide) (by decide) (fun q => absurd rfl (q n hn1 hn2)) (fun _ _ _ _ => Bk.i (b211_19 hP (fun _ => b211_24 hP (fun z => absurd (by rw [e20 (by decide), hR2, hR0]; rfl) z) (fun _ => b211_31 hP (k2 _ _ (kEnd (kM20 h) hB)))) (fun z => absurd z (by decide)))))))))
  · have hRp : 0 < dR (D0 mem) := by omega
    refine b125_22 hP (fun _ => b125_35 hP (c88T h (TI0 h) fun m0 f0 a0 t0 => Bk.v (b125_46 hP ?_))) (fun z => absurd z (by rw [hR]; exact nI_ne0 (by omega) (by omega)))
    refine c_sea (d := 298) (two := false) (one := p) (oth := 0) (n := n) (d' := 0) (k' := fun _ => True) h hb hp (fun q => by cases q) (by omega) hn2 m0 f0 a0 t0 fun m2 d2 e85 e91 e81 => Bk.v (b125_60 hP ?_)
    refine c54 (d := 292) (two := false) (one := p) (oth := 0) (n := n) (now := now) (c := mem 48) g7 (by omega) (fun q => by cases q) hRp hn2 (fun q => by cases q) n2 (by omega) (by rw [gN]; exact hS.ok) d2 e85 e91 e81 fun m3 i3 c3 => Bk.v (b125_67 hP ?_)
    have hA := (sA_lt (K := sK (D0 mem) false) (n := n) (stp := stpD (D0 mem) false p 0) (ok := okD false p 0) (c := mem 48) (dR (D0 mem) ^ n))
    have hA1 : 0 < (sAD (D0 mem) false p 0 n (mem 48) (dR (D0 mem) ^ n)).1 := (hA.2 (Nat.pow_pos hRp)).1
    have hA3 : (sAD (D0 mem) false p 0 n (mem 48) (dR (D0 mem) ^ n)).1 ≤ n + 1 := hA.1
    have c3 : ACC (D0 mem) false p 0 n (mem 48) (dR (D0 mem) ^ n) m3 := c3
    obtain ⟨c31', c32'⟩ := c3
    have c32' := c32' hA1
    have i26 : m3 26 0 = nI (dR (D0 mem)) := by
      obtain ⟨-, ⟨D', t, hD'⟩, -⟩ := i3.1
      rw [t.1]
      rcases hD' with rfl | ⟨mv, rfl⟩
      · rfl
      · rw [sndD_s.1]
    refine c58 (d := 297) (two := false) (oth := 0) (n := n) (w := (sAD (D0 mem) false p 0 n (mem 48) (dR (D0 mem) ^ n)).2) hRp g7.1 (by decide) i26 i3.1.2.2.2.1 i3.1.2.2.2.2.1 hn2 (fun q => by cases q) c32' fun m4 a4 w4 => Bk.v (b125_78 hP ?_)
    have e0 : m4 81 0 = plC (sAD (D0 mem) false p 0 n (mem 48) (dR (D0 mem) ^ n)).1 := by rw [a4 81 (by decide), c31']
    have er : nI n - m4 81 0 = nI (n - ((sAD (D0 mem) false p 0 n (mem 48) (dR (D0 mem) ^ n)).1 - 1)) := by
      rw [e0]
      unfold plC
      rw [if_neg (by omega), nI_sub (by omega)]
    rw [er]
    refine K _ _ ?_
    intro Q2 k2
    have aa : Ag seW mem m4 := ((a0.mono (by decide)).trans (i3.1.1.mono (by decide))).trans (a4.mono (by decide))
    have aM := Ag.M aa (by decide)
    have b1 : MwD m4 (D0 mem) := MwD_ag g9 aM (by decide) (by simp)
    have b2 : MV m4 (dN (D0 mem)) (mem 48) := by rw [gN]; exact hM.ag aM (by decide) (by simp)
    refine m211 (d := 225) (D := D0 mem) (p := p) (n := n) (now := now) (c := mem 48) g7 hRp (by omega) hn2 (by rw [gN]; exact hS.1) n2 (by omega) b1 b2 ?_ fun r5 m5 a5 v5 w5 => k2 _ _ (kEnd (N := N) (R := R) (kS h aa ?_ (fun c hc i hi => ?_) w4 (a5.mono (by decide) (by decide)) (by rw [gN] at v5; exact v5) w5) hB)
    · rw [aa 128 (by decide)]
      exact ((RTo_parts h.2.2.1).2.2.2.2.1.1 p (by omega)).2.1
    · rw [a4 91 (by decide)]
      have := (i3.2.1 0 (Nat.le_refl _)).2
      rw [this]
      rfl
    · have : ∀ c ∈ lvC, c ∉ [3, 4] := by decide
      rw [a4 c (this c hc)]
      exact i3.1.2.2.2.2.2 c hc i hi
end K
