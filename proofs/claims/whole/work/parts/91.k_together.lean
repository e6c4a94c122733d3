section K
variable {N R B r d n T : Nat} {mem m' m0 m1 m2 m3 m4 m5 : Nat → Nat → Int32} {Q : xQr} {g : xCf} {D : xD}
/-- the reference's most for two -/
theorem m213 {p q n now : Nat} {c : Nat → Int32} (hD : DOk D) (hR : 0 < dR D) (hp : p < dN D) (hq : q < dN D) (hpq : p ≠ q) (hn : n ≤ 3) (hPV : PV (dN D) c) (hw : c 120 = nI now) (hnow : now + 10 < 1073741800) (b1 : MwD m1 D) (b2 : MV m1 (dN D) c) (b99 : m1 128 p = nI 99 ∧ m1 128 q = nI 99) {Q2 : xQr}
    (k : ∀ r2 m2, AgM (123 :: 133 :: mqW) (20 :: 19 :: mqV) m1 m2 → MV m2 (dN D) c → RwM m2 (rowS D true n (sAD D true p q n c (sK D true ^ n)).2 n) → Q2 (some (.int (plC (sAD D true p q n c (sK D true ^ n)).1))) (LAY, RFu r2, m2)) :
    xCall (d + 75) 213 [.ref 108, .int (nI p), .int (nI q), .int (nI n)] (LAY, RFu r, m1) Q2 := by
  have hN8 := hD.2.1
  have hR4 := hD.1
  generalize hK : sK D true = K at k
  have hKR : K = dR D * dR D := hK.symm
  have hK0 : 0 < K := by rw [hKR]; exact Nat.mul_pos hR hR
  have hK16 : K ≤ 16 := by rw [hKR]; exact Nat.mul_le_mul hR4 hR4
  have c1 : MwD (xu2 m1 108 20 (nI 0)) D := MwD_ag b1 th20 (by simp) (by decide)
  have c2 : MV (xu2 m1 108 20 (nI 0)) (dN D) c := b2.ag th20 (by simp) (by decide)
  have c3 : xu2 m1 108 20 (nI 0) 128 p = nI 99 ∧ xu2 m1 108 20 (nI 0) 128 q = nI 99 := by rw [xu2_ne (by decide)]; exact b99
  have t20' : ∀ W V m2, AgM W V (xu2 m1 108 20 (nI 0)) m2 → AgM W (20 :: V) m1 m2 := fun W V m2 a => t20 a
  refine c_in rfl rfl rfl fun P hP => b213_0 hP ?_
  generalize hmb : xu2 m1 108 20 (nI 0) = mb at c1 c2 c3 t20'
  have vp : vp_in (nI p) 8 := vpn (by omega) (by decide)
  have vq : vp_in (nI q) 8 := vpn (by omega) (by decide)
  have cp : (nI p).toNatClampNeg = p := nIc (by omega)
  have cq : (nI q).toNatClampNeg = q := nIc (by omega)
  have hpw : ∀ i, K ^ i ≤ 16 ^ i := fun i => Nat.pow_le_pow_left hK16 i
  have h45 : ∀ i, i ≤ 3 → 16 ^ i ≤ 4096 := by decide
  have hpw5 : ∀ i, i ≤ 3 → K ^ i ≤ 4096 := fun i hi => Nat.le_trans (hpw i) (h45 i hi)
  have hpos : ∀ i, 0 < K ^ i := fun i => Nat.pow_pos hK0
  have h2 : ∀ i, dR D ^ (2 * i) = K ^ i := fun i => by rw [hKR, Nat.pow_mul, Nat.pow_two]
  have h21 : ∀ i, K ^ (i + 1) = K ^ i * dR D * dR D := fun i => by rw [Nat.pow_succ, hKR, Nat.mul_assoc]
  have hb21 : ∀ i, i < 3 → K ^ i * dR D ≤ 4096 := fun i hi => by
    have := hpw5 (i + 1) (by omega)
    rw [h21] at this
    exact Nat.le_trans (Nat.le_mul_of_pos_right _ hR) this
  have ed1 : ∀ i, i < 3 → nI (K ^ (i + 1)) / nI (dR D) = nI (K ^ i * dR D) := fun i hi => by
    rw [nI_div (by have := hpw5 (i + 1) (by omega); omega) (by omega) hR, h21, Nat.mul_div_cancel _ hR]
  have ed2 : ∀ i, i < 3 → nI (K ^ i * dR D) / nI (dR D) = nI (K ^ i) := fun i hi => by
    rw [nI_div (by have := hb21 i hi; omega) (by omega) hR, Nat.mul_div_cancel _ hR]
  have dg1 : ∀ w i, w / (K ^ i * dR D) % dR D = w / K ^ i % K / dR D := fun w i => by
    rw [← Nat.div_div_eq_div_mul, hKR, Nat.mod_mul_right_div_self]
  have dg2 : ∀ w i, w / K ^ i % dR D = w / K ^ i % K % dR D := fun w i => by
    rw [hKR, Nat.mod_mul_right_mod]
  have hab : TwoP (dN D) (nI p) (nI q) p q := ⟨hp, hq, hpq, rfl, rfl⟩
  refine c163 (N := dN D) c1.2.1 (by omega) (fun z => absurd hab (z p q)) (fun _ _ _ => Bk.i (b213_11 hP (fun z => absurd z (by decide)) (fun _ => b213_14 hP (c158r (a := 0) (b := 3) (by decide) (by decide) (fun z => absurd rfl (z n (Nat.zero_le _) hn)) (fun _ _ _ _ => Bk.i (b213_20 hP (fun _ => b213_25 hP (fun _ => b213_35 hP ?_) (fun z => absurd z (by rw [c1.1]; exact nI_ne0 (by omega) (by omega)))) (fun z => absurd z (by decide))))))))
  refine c191 (k := 0) (np := 121) (Or.inr (Or.inl rfl)) rfl (by decide) (by decide) hN8 c2 fun m2 a2 l2 _ => Bk.v (b213_44 hP ?_)
  have s2 : MS D true p q c mb c m2 := ⟨a2.mono (by simp) (by simp), l2, c2.ag a2 (by decide) (by simp), ⟨D, MwD_ag c1 a2 (by decide) (by simp), Or.inl rfl⟩, fun x _ _ => by rw [a2.1 128 (by decide) (by decide)]⟩
  have fR : ∀ {s m'}, MS D true p q c mb s m' → m' 108 0 = nI (dR D) ∧ m' 108 2 = nI (dN D) := fun h => ⟨by rw [h.1.2 0 (by decide)]; exact c1.1, by rw [h.1.2 2 (by decide)]; exact c1.2.1⟩
  have hz0 : ∀ {s m'}, MS D true p q c mb s m' → ¬ m' 108 0 = 0 := fun h => by rw [(fR h).1]; exact nI_ne0 (by omega) (by omega)
  have e2n : nI 2 * nI n = nI (2 * n) := nI_mul ..
  -- all the ways
  have all : ∀ v5 v6 v7 v8 v9 v10, P 73 [.ref 108, .int (nI p), .int (nI q), .int (nI n), .int (nI (K ^ n)), v5, v6, v7, v8, v9, v10] [] (0, 0) (LAY, RFu r, m2) := fun v5 v6 v7 v8 v9 v10 => by
    refine b213_73 hP ?_
    have key := xloop (N := K ^ n) (G := fun k => ∀ r' m' v8 v9 v10, MS D true p q c mb c m' → P 82 [.ref 108, .int (nI p), .int (nI q), .int (nI n), .int (nI (K ^ n)), .int (nI (sAD D true p q n c k).2), .int (plC (sAD D true p q n c k).1), .int (nI k), v8, v9, v10] [] (0, 0) (LAY, RFu r', m')) ?_ ?_
    · exact key r m2 _ _ _ s2
    · intro r' m' v8 v9 v10 h
      obtain ⟨hA1, hA2⟩ := (sA_lt (K := sK D true) (n := n) (stp := stpD D true p q) (ok := okD true p q) (c := c) (K ^ n)).2 (hpos n)
      have hA2 : (sAD D true p q n c (K ^ n)).2 < K ^ n := hA2
      generalize hW : sAD D true p q n c (K ^ n) = W at *
      have hbw := hpw5 n hn
      refine b213_82 hP (fun _ => b213_218 hP vp vq ?_) (fun z => absurd (Int32.le_refl _) z)
      rw [cp, cq]
      generalize hm3 : xu2 (xu2 (xu2 m' 128 p (nI 99)) 128 q (nI 99)) 108 19 (nI 0) = m3
      have a3 : AgM [128] [19] m' m3 := by rw [← hm3]; exact (((AgM.rfl' (W := [128]) (V := [19])).u2 (by simp) (by decide)).u2 (by simp) (by decide)).us (by simp)
      have e128 : m3 128 = mb 128 := by
        funext x
        rw [← hm3, xu2_ne (by decide), xu2_eq, xu2_eq]
        by_cases w : x = q
        · rw [w, upd_at, c3.2]
        · rw [upd_ne w]
          by_cases w2 : x = p
          · rw [w2, upd_at, c3.1]
          · rw [upd_ne w2]; exact h.2.2.2.2 x w2 (fun _ => w)
      have a3m : AgM (133 :: mqW) (19 :: mqV) mb m3 := by
        have y : AgM (128 :: 133 :: mqW) (19 :: mqV) mb m3 := (h.1.mono (fun _ h => h) (fun _ h => List.mem_cons_of_mem _ h)).trans (a3.mono (by decide) (by decide))
        exact y.drop e128
      have hR3 : m3 108 0 = nI (dR D) := by rw [a3.2 0 (by decide)]; exact (fR h).1
      have key2 := xloop (N := n) (G := fun j => ∀ m4, AgM [123] [19] m3 m4 → RwM m4 (rowS D true n W.2 j) → P 246 [.ref 108, .int (nI p), .int (nI q), .int (nI n), .int (nI (K ^ n)), .int (nI W.2), .int (plC W.1), .int (nI (K ^ (n - j))), .int (nI (2 * j)), v9, v10] [] (0, 0) (LAY, RFu r', m4)) ?_ ?_
      · exact key2 m3 AgM.rfl' (RwM_nil (by rw [← hm3, xu2_eq, upd_at]))
      · intro m4 a4 w4
        refine b213_246 hP (fun _ => b213_283 hP (k _ _ ?_ ?_ w4)) (fun z => absurd (by rw [e2n]; exact Int32.le_refl _) z)
        · exact t20' _ _ _ ((a3m.mono (fun _ h => List.mem_cons_of_mem _ h) (fun _ h => h)).trans (a4.mono (by simp) (by simp)))
        · exact (h.2.2.1.ag a3 (by decide) (by decide)).ag a4 (by decide) (by decide)
      · intro j hj ih m4 a4 w4
        have hR4' : m4 108 0 = nI (dR D) := by rw [a4.2 0 (by decide), hR3]
        have hb1 := hpw5 (n - 1 - j) (by omega)
        have hb2 := hb21 (n - 1 - j) (by omega)
        have hp1 : 0 < K ^ (n - 1 - j) * dR D := Nat.mul_pos (hpos _) hR
        have hq1 : W.2 / K ^ (n - 1 - j) ≤ W.2 := Nat.div_le_self _ _
        have hq2 : W.2 / (K ^ (n - 1 - j) * dR D) ≤ W.2 := Nat.div_le_self _ _
        have hlen := rowS_len (D := D) (two := true) (n := n) (w := W.2) j
        rw [if_pos rfl] at hlen
        rw [show n - j = (n - 1 - j) + 1 by omega]
        have e1 := ed1 (n - 1 - j) (by omega)
        have e2 := ed2 (n - 1 - j) (by omega)
        refine b213_246 hP (fun z => absurd z (by rw [e2n]; exact nI_ge (by omega) (by omega))) (fun _ => b213_254 hP (by rw [hR4']; exact nI_ne0 (by omega) (by omega)) (by rw [hR4', e1]; exact nI_ne0 hp1 (by omega)) (by rw [hR4']; exact nI_ne0 (by omega) (by omega)) ?_)
        rw [hR4', e1, nI_div (by omega) (by omega) hp1, nI_rem (by omega) (by omega) hR, dg1]
        refine c161 w4 (by rw [hlen]; omega) fun m6 a6 w6 => Bk.v (b213_277 hP ?_)
        have hR6 : m6 108 0 = nI (dR D) := by rw [a6.2 0 (by decide), hR4']
        rw [nIs]
        refine b213_246 hP (fun z => absurd z (by rw [e2n]; exact nI_ge (by omega) (by omega))) (fun _ => b213_254 hP (by rw [hR6]; exact nI_ne0 (by omega) (by omega)) (by rw [hR6, e2]; exact nI_ne0 (hpos _) (by omega)) (by rw [hR6]; exact nI_ne0 (by omega) (by omega)) ?_)
        rw [hR6, e2, nI_div (by omega) (by omega) (hpos _), nI_rem (by omega) (by omega) hR, dg2]
        refine c161 w6 (by rw [List.length_append, hlen]; show 2 * j + 1 < 16; omega) fun m7 a7 w7 => Bk.v (b213_277 hP ?_)
        rw [nIs, show 2 * j + 1 + 1 = 2 * (j + 1) by omega]
        have := ih m7 ((a4.trans a6).trans a7)
        rw [show n - (j + 1) = n - 1 - j by omega] at this
        refine this ?_
        rw [List.append_assoc] at w7
        rw [← hK] at w7
        exact w7
    · intro k hk ih r' m' v8 v9 v10 h
      have hbk := hpw5 n hn
      refine b213_82 hP (fun z => absurd z (nI_ge hk (by omega))) (fun _ => b213_89 hP ?_)
      generalize hx5 : nI (sAD D true p q n c k).2 = x5
      generalize hx6 : plC (sAD D true p q n c k).1 = x6
      have key2 := xloop (N := n) (G := fun i => ∀ r' m', MS D true p q c mb (sTD D true p q c i (k / K ^ (n - i))) m' → P 99 [.ref 108, .int (nI p), .int (nI q), .int (nI n), .int (nI (K ^ n)), .int x5, .int x6, .int (nI k), .int (nI (sGD D true p q c i (k / K ^ (n - i)))), .int (nI (K ^ (n - i))), .int (nI i)] [] (0, 0) (LAY, RFu r', m')) ?_ ?_
      · exact key2 r' m' h
      · intro r2 m3 h3
        rw [Nat.sub_self, Nat.pow_zero, Nat.div_one] at h3 ⊢
        have hg : sGD D true p q c n k ≤ n := sG_le1 n k
        have hal := (sA_lt (K := sK D true) (n := n) (stp := stpD D true p q) (ok := okD true p q) (c := c) k)
        have hal1 : (sAD D true p q n c k).1 ≤ n + 1 := hal.1
        have es : sAD D true p q n c (k + 1) = if (sAD D true p q n c k).1 < sGD D true p q c n k + 1 then (sGD D true p q c n k + 1, k) else sAD D true p q n c k := rfl
        refine b213_99 hP (fun _ => b213_185 hP (c192 (k := 0) (np := 121) (Or.inr (Or.inl rfl)) rfl (by decide) (by decide) hN8 (fR h3).2 h3.2.1 fun m4 a4 v4 => Bk.v ?_)) (fun z => absurd (Int32.le_refl _) z)
        have h4 : MS D true p q c mb c m4 := by
          obtain ⟨y1, y2, y3, ⟨D', y4, y5⟩, y6⟩ := h3
          exact ⟨y1.trans (a4.mono (by decide) (by decide)), by rw [a4.1 133 (by decide) (by decide)]; exact y2, v4, ⟨D', MwD_ag y4 a4 (by decide) (by decide), y5⟩, fun x w1 w2 => by rw [a4.1 128 (by decide) (by decide)]; exact y6 x w1 w2⟩
        have nx := fun v8 v9 v10 => ih r2 m4 v8 v9 v10 h4
        rw [es] at nx
        rw [← hx5, ← hx6]
        by_cases w : (sAD D true p q n c k).1 < sGD D true p q c n k + 1
        · rw [if_pos w] at nx
          refine b213_194 hP (fun _ => b213_204 hP (b213_212 hP ?_)) (fun z => absurd (Int32.not_le.mp fun y => absurd ((plC_le (by omega) (by omega)).mp y) (by omega)) z)
          rw [nIs]
          have := nx (.int (nI (sGD D true p q c n k))) (.int (nI (K ^ 0))) (.int (nI n))
          have ep : plC (sGD D true p q c n k + 1) = nI (sGD D true p q c n k) := if_neg (by omega)
          rw [ep, Nat.pow_zero] at this
          exact this
        · rw [if_neg w] at nx
          refine b213_194 hP (fun z => absurd ((plC_le (by omega) (by omega)).mpr (by omega)) (Int32.not_le.mpr z)) (fun _ => b213_201 hP (b213_212 hP ?_))
          rw [nIs]
          exact nx _ _ _
      · intro i hi ih2 r2 m3 h3
        have hb1 := hpw5 (n - (i + 1)) (by omega)
        have hb2 := hb21 (n - (i + 1)) (by omega)
        have hp1 : 0 < K ^ (n - (i + 1)) * dR D := Nat.mul_pos (hpos _) hR
        have hq1 : k / K ^ (n - (i + 1)) ≤ k := Nat.div_le_self _ _
        have hq2 : k / (K ^ (n - (i + 1)) * dR D) ≤ k := Nat.div_le_self _ _
        have hmv : k / K ^ (n - (i + 1)) % K < K := Nat.mod_lt _ hK0
        have hwd : k / K ^ (n - (i + 1)) / K = k / K ^ (n - i) := by
          rw [← pw_succ', show n - (i + 1) + 1 = n - i by omega]
        have g1' := dg1 k (n - (i + 1))
        have g2' := dg2 k (n - (i + 1))
        have hT : ∀ mv, k / K ^ (n - (i + 1)) % K = mv → sTD D true p q c (i + 1) (k / K ^ (n - (i + 1))) = stpD D true p q (sTD D true p q c i (k / K ^ (n - i))) mv := fun mv e => by
          rw [← e, ← hwd, ← hK]
          rfl
        have hG : ∀ mv, k / K ^ (n - (i + 1)) % K = mv → sGD D true p q c (i + 1) (k / K ^ (n - (i + 1))) = sGD D true p q c i (k / K ^ (n - i)) + if okD true p q (stpD D true p q (sTD D true p q c i (k / K ^ (n - i))) mv) = true then 1 else 0 := fun mv e => by
          rw [← hT mv e, ← hwd, ← hK]
          rfl
        generalize hmvE : k / K ^ (n - (i + 1)) % K = mv at hmv g1' g2' hT hG
        have hT := hT mv rfl
        have hG := hG mv rfl
        have hgl : sGD D true p q c i (k / K ^ (n - i)) ≤ i := sG_le1 i _
        rw [hT, hG] at ih2
        obtain ⟨pv, pn⟩ := sTD_ok (two := true) (one := p) (oth := q) (now := now) (c := c) hD (show 0 < sK D true by rw [hK]; exact hK0) hPV hw i (k / K ^ (n - i))
        generalize sTD D true p q c i (k / K ^ (n - i)) = s at h3 pv pn ih2
        generalize sGD D true p q c i (k / K ^ (n - i)) = gg at hgl ih2
        rw [show n - i = (n - (i + 1)) + 1 by omega]
        have e1 := ed1 (n - (i + 1)) (by omega)
        have e2 := ed2 (n - (i + 1)) (by omega)
        have f0 : ∀ x y, xu2 m3 128 x y 108 0 = nI (dR D) := fun x y => by rw [xu2_ne (by decide)]; exact (fR h3).1
        have hR0 : ¬ nI (dR D) = 0 := nI_ne0 (by omega) (by omega)
        refine b213_99 hP (fun z => absurd z (nI_ge hi (by omega))) (fun _ => b213_105 hP (hz0 h3) (by rw [(fR h3).1, e1]; exact nI_ne0 hp1 (by omega)) (hz0 h3) vp (by rw [f0]; exact hR0) (by rw [f0, (fR h3).1, e1, e2]; exact nI_ne0 (hpos _) (by omega)) (by rw [f0]; exact hR0) vq ?_)
        rw [f0, (fR h3).1, e1, e2, nI_div (by omega) (by omega) hp1, nI_rem (by omega) (by omega) hR, nI_div (by omega) (by omega) (hpos _), nI_rem (by omega) (by omega) hR, cp, cq, g1', g2']
        have hmK : mv < dR D * dR D := by rw [← hKR]; exact hmv
        have hd1 : mv / dR D < dR D := Nat.div_lt_of_lt_mul hmK
        have hd2 : mv % dR D < dR D := Nat.mod_lt _ hR
        have aw : AgM [128] [] m3 (xu2 (xu2 m3 128 p (nI (mv / dR D))) 128 q (nI (mv % dR D))) := (AgM.rfl'.u2 (by simp) (by decide)).u2 (by simp) (by decide)
        have ww : MwD (xu2 (xu2 m3 128 p (nI (mv / dR D))) 128 q (nI (mv % dR D))) (sndD D true p q mv) := by
          obtain ⟨-, -, -, ⟨D', y4, y5⟩, -⟩ := h3
          have := MwD_P (p := q) (a := mv % dR D) (MwD_P (p := p) (a := mv / dR D) y4 (by omega) (by omega)) (by omega) (by omega)
          rw [← snd_re (D := D) (D' := D') (two := true) (one := p) (oth := q) (mv := mv) (fun _ => hpq) y5]
          exact this
        refine m190s (d := d + 1) (two := true) (one := p) (oth := q) (mv := mv) (now := now + i) hD (by rw [hK]; exact hmv) h3 aw ww (fun x w1 w2 => by rw [xu2_eq, upd_ne (w2 rfl), xu2_eq, upd_ne w1]) pv pn (by omega) fun r4 m4 y h4 => Bk.i (b213_159 hP ?_)
        have pv2 : PV (dN D) (stpD D true p q s mv) := by
          have := qtr_PV (f := cfD (sndD D true p q mv)) (c := s) (show dN (sndD D true p q mv) ≤ 8 by rw [sndD_s.2]; exact hN8) (show dR (sndD D true p q mv) ≤ 4 by rw [sndD_s.1]; exact hR4) (by show PV (dN (sndD D true p q mv)) s; rw [sndD_s.2]; exact pv)
          have this : PV (dN (sndD D true p q mv)) (stpD D true p q s mv) := this
          rw [sndD_s.2] at this
          exact this
        refine c212 (N := dN D) h4.2.2.1 hN8 pv2 hp hq (Bk.i (b213_168 hP (fun z => b213_175 hP (b213_176 hP ?_)) (fun z => b213_171 hP (b213_176 hP ?_))))
        · have hok : ¬ okD true p q (stpD D true p q s mv) = true := sitB_f z
          rw [if_neg hok] at ih2
          rw [nI_add, nIs]
          exact ih2 r4 m4 h4
        · have hok : okD true p q (stpD D true p q s mv) = true := sitB_t z
          rw [if_pos hok] at ih2
          rw [nI_add, nIs]
          exact ih2 r4 m4 h4
  have key := xloop (N := 2 * n) (G := fun j => ∀ v6 v7 v8 v9 v10, P 50 [.ref 108, .int (nI p), .int (nI q), .int (nI n), .int (nI (dR D ^ j)), .int (nI j), v6, v7, v8, v9, v10] [] (0, 0) (LAY, RFu r, m2)) ?_ ?_
  · exact key _ _ _ _ _
  · intro v6 v7 v8 v9 v10
    rw [h2]
    exact b213_50 hP (fun _ => all _ _ _ _ _ _) (fun z => absurd (by rw [e2n]; exact Int32.le_refl _) z)
  · intro j hj ih v6 v7 v8 v9 v10
    refine b213_50 hP (fun z => absurd z (by rw [e2n]; exact nI_ge hj (by omega))) (fun _ => b213_58 hP ?_)
    rw [(fR s2).1, nI_mul, nIs, ← Nat.pow_succ]
    exact ih _ _ _ _ _
theorem tk_together (x y z : Int32) : Tk 126 213 [.int x, .int y, .int z] := by
  intro N R B r mem Q h hB K
  obtain ⟨hR, hR4, hN, hN8, hR2, hN2⟩ := (RTo_parts h.2.2.1).1
  obtain ⟨g1, g2, g3, g4, g5, g6, g7, g8, g9⟩ := RRc_g h
  have gN : dN (D0 mem) = N := g1
  have gR : dR (D0 mem) = R := g2
  have hb : B < 500000000 := by omega
  obtain ⟨hM, hS⟩ := h.2.2.2.1
  obtain ⟨now, n1, n2⟩ := hS.now
  have no : ((∀ a b, ¬ TwoP N x y a b) ∨ (∀ s, 0 ≤ s → s ≤ 3 → z ≠ nI s)) → Q (some (.int (-1))) (LAY, RFu r, mem) := fun hno => by
    refine K _ _ ?_
    intro Q2 k2
    refine c_in rfl rfl rfl fun P hP => ?_
    have f : ∀ v0 v1 v2 v3 v4 v5 v6 v7 v8 v9 v10, P 23 [v0, v1, v2, v3, v4, v5, v6, v7, v8, v9, v10] [] (0, 0) (LAY, RFu r, xu2 mem 108 20 (nI 0)) := fun _ _ _ _ _ _ _ _ _ _ _ => b213_23 hP (k2 _ _ (kEnd (kM20 h) hB))
    refine b213_0 hP (c163 (N := N) (by rw [e20 (by decide), hN2]) (by omega) (fun _ => Bk.i (b213_11 hP (fun _ => f _ _ _ _ _ _ _ _ _ _ _) (fun z => absurd rfl z))) (fun a b hab => Bk.i (b213_11 hP (fun z => absurd z (by decide)) (fun _ => b213_14 hP (c158r (a := 0) (b := 3) (by decide) (by decide) (fun _ => Bk.i (b213_20 hP (fun z => absurd rfl z) (fun _ => f _ _ _ _ _ _ _ _ _ _ _))) (fun s hs1 hs2 es => ?_))))))
    rcases hno with q | q
    · exact absurd hab (q a b)
    · exact absurd es (q s hs1 hs2)
  refine c_in rfl rfl rfl fun P hP => b126_0 hP (c152 hN (by omega) (fun hno => Bk.i (b126_6 hP (fun _ => b126_18 hP (no (Or.inl hno))) (fun z => absurd rfl z))) (fun p q hab => Bk.i (b126_6 hP (fun z => absurd z (by decide)) (fun _ => b126_9 hP (c151 (a := 0) (b := 3) (by decide) (by decide) (fun hs => Bk.i (b126_15 hP (fun z => absurd rfl z) (fun _ => b126_18 hP (no (Or.inr hs))))) (fun n hn1 hn2 en => Bk.i (b126_15 hP (fun _ => ?_) (fun z => absurd z (by decide)))))))))
  obtain ⟨hp, hq, hpq, rfl, rfl⟩ := id hab
  subst en
  by_cases hR0 : R = 0
  · refine b126_20 hP (fun z => absurd (by rw [hR, hR0]; rfl) z) (fun _ => b126_30 hP (K _ _ ?_))
    intro Q2 k2
    refine c_in rfl rfl rfl fun P hP => b213_0 hP (c163 (N := N) (by rw [e20 (by decide), hN2]) (by omega) (fun w => absurd hab (w p q)) (fun _ _ _ => Bk.i (b213_11 hP (fun z => absurd z (by decide)) (fun _ => b213_14 hP (c158r (a := 0) (b := 3) (by decide) (by decide) (fun w => absurd rfl (w n hn1 hn2)) (fun _ _ _ _ => Bk.i (b213_20 hP (fun _ => b213_25 hP (fun z => absurd (by rw [e20 (by decide), hR2, hR0]; rfl) z) (fun _ => b213_32 hP (k2 _ _ (kEnd (kM20 h) hB)))) (fun z => absurd z (by decide)))))))))
  · have hRp : 0 < dR (D0 mem) := by omega
    refine b126_20 hP (fun _ => b126_33 hP (c88T h (TI0 h) fun m0 f0 a0 t0 => Bk.v (b126_44 hP ?_))) (fun z => absurd z (by rw [hR]; exact nI_ne0 (by omega) (by omega)))
    refine c_sea (d := 298) (two := true) (one := p) (oth := q) (n := n) (d' := 0) (k' := fun _ => True) h hb hp (fun _ => ⟨hq, hpq⟩) (by omega) (by omega) m0 f0 a0 t0 fun m2 d2 e85 e91 e81 => Bk.v (b126_58 hP ?_)
    refine c54 (d := 292) (two := true) (one := p) (oth := q) (n := n) (now := now) (c := mem 48) g7 (by omega) (fun _ => ⟨by omega, hpq⟩) hRp (by omega) (fun _ => hn2) n2 (by omega) (by rw [gN]; exact hS.ok) d2 e85 e91 e81 fun m3 i3 c3 => Bk.v (b126_65 hP ?_)
    have hKp : 0 < sK (D0 mem) true := Nat.mul_pos hRp hRp
    have hA := (sA_lt (K := sK (D0 mem) true) (n := n) (stp := stpD (D0 mem) true p q) (ok := okD true p q) (c := mem 48) (sK (D0 mem) true ^ n))
    have hA1 : 0 < (sAD (D0 mem) true p q n (mem 48) (sK (D0 mem) true ^ n)).1 := (hA.2 (Nat.pow_pos hKp)).1
    obtain ⟨c31', c32'⟩ := c3
    have c32' := c32' hA1
    have i26 : m3 26 0 = nI (dR (D0 mem)) := by
      obtain ⟨-, ⟨D', t, hD'⟩, -⟩ := i3.1
      rw [t.1]
      rcases hD' with rfl | ⟨mv, rfl⟩
      · rfl
      · rw [sndD_s.1]
    refine c58 (d := 297) (two := true) (oth := q) (n := n) (w := (sAD (D0 mem) true p q n (mem 48) (sK (D0 mem) true ^ n)).2) hRp g7.1 (by omega) i26 i3.1.2.2.2.1 i3.1.2.2.2.2.1 (by omega) (fun _ => hn2) c32' fun m4 a4 w4 => Bk.v (b126_76 hP ?_)
    rw [a4 81 (by decide), c31']
    refine K _ _ ?_
    intro Q2 k2
    have aa : Ag seW mem m4 := ((a0.mono (by decide)).trans (i3.1.1.mono (by decide))).trans (a4.mono (by decide))
    have aM := Ag.M aa (by decide)
    have b1 : MwD m4 (D0 mem) := MwD_ag g9 aM (by decide) (by simp)
    have b2 : MV m4 (dN (D0 mem)) (mem 48) := by rw [gN]; exact hM.ag aM (by decide) (by simp)
    refine m213 (d := 225) (D := D0 mem) (p := p) (q := q) (n := n) (now := now) (c := mem 48) g7 hRp (by omega) (by omega) hpq hn2 (by rw [gN]; exact hS.1) n2 (by omega) b1 b2 ?_ fun r5 m5 a5 v5 w5 => k2 _ _ (kEnd (N := N) (R := R) (kS h aa ?_ (fun c hc i hi => ?_) w4 (a5.mono (by decide) (by decide)) (by rw [gN] at v5; exact v5) w5) hB)
    · rw [aa 128 (by decide)]
      exact ⟨((RTo_parts h.2.2.1).2.2.2.2.1.1 p (by omega)).2.1, ((RTo_parts h.2.2.1).2.2.2.2.1.1 q (by omega)).2.1⟩
    · rw [a4 91 (by decide)]
      have := (i3.2.1 0 (Nat.le_refl _)).2
      rw [this]
      rfl
    · have : ∀ c ∈ lvC, c ∉ [3, 4] := by decide
      rw [a4 c (this c hc)]
      exact i3.1.2.2.2.2.2 c hc i hi
end K
