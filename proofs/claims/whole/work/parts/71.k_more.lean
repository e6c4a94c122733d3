/-! more -/
theorem DOk_H {D : xD} {f : Nat → Nat} (hD : DOk D) (hf : ∀ r, r < 4 → f r ≤ 16) : DOk (dsH D f) :=
  ⟨hD.1, hD.2.1, hf, hD.2.2.2.1, hD.2.2.2.2.1, hD.2.2.2.2.2⟩
theorem MwD_H {m m' : Nat → Nat → Int32} {D : xD} {f : Nat → Nat} (h : MwD m D) (a : AgM (109 :: mtW) mqV m m') (e : ∀ r, r < dR D → m' 109 r = nI (f r)) : MwD m' (dsH D f) := by
  obtain ⟨h1, h2, h3, h4, h5, h6, h7, h8⟩ := h
  refine ⟨by rw [a.2 0 (by decide)]; exact h1, by rw [a.2 2 (by decide)]; exact h2, e, by rw [a.1 110 (by decide) (by decide), a.1 111 (by decide) (by decide)]; exact h4, by rw [a.2 32 (by decide)]; exact h5, by rw [a.1 113 (by decide) (by decide), a.1 128 (by decide) (by decide), a.1 112 (by decide) (by decide), a.1 129 (by decide) (by decide)]; exact h6, ?_, ?_⟩
  · unfold RuE RmT at h7 ⊢
    rw [a.1 (125 + 0) (by decide) (by decide), a.1 127 (by decide) (by decide), a.2 29 (by decide)]
    exact h7
  · unfold RuE RmT at h8 ⊢
    rw [a.1 (125 + 1) (by decide) (by decide), a.1 127 (by decide) (by decide), a.2 29 (by decide)]
    exact h8
def mfO (G : Nat → Int32) : Nat → Int32 × Int32
  | 0 => (nI 0, -1)
  | p + 1 => if (mfO G p).1 < G p then (G p, nI p) else mfO G p
theorem mfO_s {G : Nat → Int32} {p : Nat} : mfO G (p + 1) = if (mfO G p).1 < G p then (G p, nI p) else mfO G p := rfl
theorem mfO_congr {G G' : Nat → Int32} : ∀ {n : Nat}, (∀ p, p < n → G p = G' p) → mfO G n = mfO G' n
  | 0, _ => rfl
  | n + 1, h => by rw [mfO_s, mfO_s, mfO_congr (fun p hp => h p (by omega)), h n (by omega)]
def dlR (s : dlT) : Int32 := match s with | none => -1 | some v => nI v.2
def dlW (W : Nat → Int32) (s : dlT) : Int32 := match s with | none => -1 | some v => W v.2
def dlZ (s : dlT) : Int32 := match s with | none => nI 0 | some v => v.1
theorem dlO_lt {F : Nat → Int32} : ∀ k v, dlO F k = some v → v.2 < k
  | 0, v, h => by cases h
  | k + 1, v, h => by
    have h : dl1 F (dlO F k) k = some v := h
    unfold dl1 at h
    split at h
    · injection h with h; rw [← h]; exact Nat.lt_succ_self k
    · rename_i u hu
      split at h
      · injection h with h; rw [← h]; exact Nat.lt_succ_self k
      · injection h with h; rw [← h]; exact Nat.lt_succ_of_lt (dlO_lt k u hu)
def mch (h : Nat) : Nat := if h + 1 < 8 then h + 1 else 8
theorem mch_nI {h : Nat} (hh : h ≤ 8) : (if nI h + nI 1 < nI 8 then nI h + nI 1 else nI 8) = nI (mch h) := by
  rw [nIs]
  unfold mch
  by_cases q : h + 1 < 8
  · rw [if_pos q, if_pos (nI_lt q (by omega))]
  · rw [if_neg q, if_neg (nI_nlt (by omega) (by omega))]
section K
variable {N R B r d n : Nat} {mem m' m1 m2 m3 m4 m5 : Nat → Nat → Int32} {Q : xQr} {g : xCf}
theorem c135 (hN : mem 5 1 = nI N) (hN8 : N ≤ 8) (h : mem 50 = qtrs g (mem 48) n) (k : Q (some (.int (mfO (fun p => mem 106 p - stD g (mem 48) n p) N).2)) (LAY, RFu r, mem)) : xCall (d + 2) 135 [.ref 0] (LAY, RFu r, mem) Q := by
  refine c_in rfl rfl rfl fun P hP => b135_0 hP ?_
  have key := xloop (N := N) (G := fun p => ∀ v4, P 6 [.ref 0, .int (mfO (fun p => mem 106 p - stD g (mem 48) n p) p).1, .int (mfO (fun p => mem 106 p - stD g (mem 48) n p) p).2, .int (nI p), v4] [] (0, 0) (LAY, RFu r, mem)) ?_ ?_
  · exact key _
  · intro v4
    exact b135_6 hP (fun _ => b135_48 hP k) (fun z => absurd (Int32.le_refl _) (by rw [hN] at z; exact z))
  · intro p hp ih v4
    refine b135_6 hP (fun z => absurd z (by rw [hN]; exact nI_ge hp (by omega))) (fun _ => b135_17 hP (vpn (by omega) (by decide)) (c154 (g := g) (by omega) h (Bk.i ?_)))
    rw [nIc (by omega)]
    rw [mfO_s] at ih
    refine b135_28 hP (fun z => b135_42 hP ?_) (fun z => b135_37 hP (b135_42 hP ?_))
    · rw [if_neg (Int32.not_lt.mpr z)] at ih
      rw [nIs]
      exact ih _
    · rw [if_pos (Int32.not_le.mp z)] at ih
      rw [nIs]
      exact ih _
theorem tk_more (x : Int32) : Tk 134 223 [.int x] := by
  intro N R B r mem Q h hB K
  obtain ⟨hR, hR4, hN, hN8, hR2, hN2⟩ := (RTo_parts h.2.2.1).1
  obtain ⟨g1, g2, g3, g4, g5, g6, g7, g8, g9⟩ := RRc_g h
  have gN : dN (D0 mem) = N := g1
  have gR : dR (D0 mem) = R := g2
  have hb : B < 500000000 := by omega
  refine c_in rfl rfl rfl fun P hP => b134_0 hP (c151 (a := 0) (b := 100) (by decide) (by decide) (fun hno => Bk.i (b134_7 hP (fun z => absurd rfl z) (fun _ => b134_10 hP (K _ _ ?_)))) (fun n hn1 hn2 en => Bk.i (b134_7 hP (fun _ => b134_12 hP (fun h2 => ?_) (fun h2 => b134_22 hP (K _ _ ?_))) (fun z => absurd z (by decide)))))
  · intro Q2 k2
    exact c_in rfl rfl rfl fun P hP => b223_0 hP (c158r (a := 0) (b := 100) (by decide) (by decide) (fun _ => Bk.i (b223_12 hP (fun z => absurd rfl z) (fun _ => b223_15 hP (k2 _ _ (kEnd (kM20 h) hB))))) (fun n h1 h2 e => absurd e (hno n h1 h2)))
  rotate_left
  · intro Q2 k2
    subst en
    exact c_in rfl rfl rfl fun P hP => b223_0 hP (c158r (a := 0) (b := 100) (by decide) (by decide) (fun q => absurd rfl (q n hn1 hn2)) (fun _ _ _ _ => Bk.i (b223_12 hP (fun _ => b223_17 hP (fun z => absurd (by rw [hR] at h2; rw [e20 (by decide), hR2]; exact h2) z) (fun _ => b223_24 hP (k2 _ _ (kEnd (kM20 h) hB)))) (fun z => absurd z (by decide)))))
  subst en
  have h0R : 0 < R := Nat.pos_of_ne_zero fun q => h2 (by rw [hR, q]; rfl)
  generalize hds : (fun k => dsH (D0 mem) (fun q => if q = k then mch (dH (D0 mem) k) else dH (D0 mem) q)) = ds
  have hd : ∀ k, dsH (D0 mem) (fun q => if q = k then mch (dH (D0 mem) k) else dH (D0 mem) q) = ds k := fun k => by rw [← hds]
  have hH : ∀ r, r < 4 → dH (D0 mem) r ≤ 8 ∧ mem 6 r = nI (dH (D0 mem) r) := fun r hr => by
    obtain ⟨-, -, -, -, -, -, h7, -⟩ := h.2.2.1
    obtain ⟨v, q1, q2, -⟩ := h7 r hr
    have q3 : mem 6 r = nI (dH (D0 mem) r) := g8.2.2.1 r hr
    rw [q2] at q3
    have := nI_inj q3 (by omega) (by have := g7.2.2.1 r hr; omega)
    exact ⟨by omega, by rw [q2, this]⟩
  have hdN : ∀ k, dN (ds k) = N := fun k => by rw [← hd]; exact gN
  have hdk : ∀ k, DOk (ds k) := fun k => by
    rw [← hd]
    refine DOk_H g7 fun r hr => ?_
    by_cases z : r = k
    · rw [if_pos z]; unfold mch; split <;> omega
    · rw [if_neg z]; have := (hH r hr).1; omega
  generalize hF0 : (fun k => stA (cfD (ds k)) (mem 48) n) = F
  have hF : ∀ k, stA (cfD (ds k)) (mem 48) n = F k := fun k => by rw [← hF0]
  generalize hW0 : (fun k => (mfO (fun p => stD (gD mem) (mem 48) n p - stD (cfD (ds k)) (mem 48) n p) N).2) = W
  have hW : ∀ k, (mfO (fun p => stD (gD mem) (mem 48) n p - stD (cfD (ds k)) (mem 48) n p) N).2 = W k := fun k => by rw [← hW0]
  have hFk : ∀ k, ∃ m, m ≤ 800 ∧ F k = nI m := fun k => by
    obtain ⟨m, q1, q2⟩ := stA_nI (f := cfD (ds k)) (c := mem 48) (n := n) (show dN (ds k) ≤ 8 by rw [hdN]; exact hN8)
    exact ⟨m, by omega, by rw [← hF]; exact q2⟩
  obtain ⟨vL, hvL⟩ : ∃ v, dlO F R = some v := by
    obtain ⟨L', rfl⟩ : ∃ L', R = L' + 1 := ⟨R - 1, by omega⟩
    exact dl1_s
  have hqL : ∀ k, dlk 800 (dlO F k) := fun k => by
    induction k with
    | zero => intro v hv; cases hv
    | succ k ih => exact dl1_k ih (hFk k)
  generalize hY : stA (gD mem) (mem 48) n = Y
  refine b134_25 hP (c153T (D := D0 mem) (Or.inl rfl) h hb (TI0 h) g8 g7 gN (by omega) fun m0 f0 a0 e0 e48 => Bk.v (b134_34 hP (c155 (g := gD mem) (show dN (D0 mem) ≤ 8 by omega) e0 (Bk.i (b134_38 hP ?_)))))
  rw [e48, hY]
  have fill := xloop (N := N) (G := fun p => ∀ m', TI mem m' → m' 50 = m0 50 → (∀ q, q < p → m' 106 q = stD (gD mem) (mem 48) n q) → P 41 [.ref 0, .int (nI n), .int Y, .int (nI p), .null, .null, .null, .null] [] (0, 0) (LAY, RFu r, m')) ?_ ?_
  · exact fill m0 f0 rfl (fun q hq => absurd hq (Nat.not_lt_zero q))
  · intro ma fa ea wa
    refine b134_41 hP (fun _ => b134_69 hP ?_) (fun z => absurd (Int32.le_refl _) (by rw [fa.1 5 (by decide), hN] at z; exact z))
    have key := xloop (N := R) (G := fun k => ∀ v7 m', TI mem m' → (∀ q, q < N → m' 106 q = stD (gD mem) (mem 48) n q) → P 80 [.ref 0, .int (nI n), .int Y, .int (dlL (dlO F k)), .int (dlR (dlO F k)), .int (dlW W (dlO F k)), .int (nI k), v7] [] (0, 0) (LAY, RFu r, m')) ?_ ?_
    · exact key _ ma fa wa
    · intro v7 m1 f1 _
      rw [hvL]
      refine b134_80 hP (fun _ => b134_176 hP (c31 fun m2 a2 w2 => Bk.v (b134_183 hP (c32 w2 (by decide) fun m3 a3 w3 => Bk.v (b134_193 hP (c32 w3 (by simp) fun m4 a4 w4 => Bk.v (b134_202 hP (K _ _ ?_)))))))) (fun z => absurd (Int32.le_refl _) (by rw [f1.1 5 (by decide), hR] at z; exact z))
      intro Q2 k2
      obtain ⟨t1, t2, t3, t4⟩ := TI_M h f1
      have a14 : Ag [3, 4] m1 m4 := ((a2.mono (by decide)).trans a3).trans a4
      have a12 := Ag.M a14 (by decide)
      have b1 : MwD (xu2 m4 108 20 (nI 0)) (D0 mem) := MwD_ag (MwD_ag t1 a12 (by decide) (by decide)) th20 (by simp) (by decide)
      have b2 : MV (xu2 m4 108 20 (nI 0)) N (mem 48) := (t2.ag a12 (by decide) (by simp)).ag th20 (by simp) (by decide)
      have bN : xu2 m4 108 20 (nI 0) 108 2 = nI N := by rw [b1.2.1, gN]
      have bR : xu2 m4 108 20 (nI 0) 108 0 = nI R := by rw [b1.1, gR]
      have bH : ∀ q, q < R → xu2 m4 108 20 (nI 0) 109 q = nI (dH (D0 mem) q) := fun q hq => b1.2.2.1 q (by omega)
      refine c_in rfl rfl rfl fun P hP => b223_0 hP ?_
      generalize hm2 : xu2 m4 108 20 (nI 0) = mb at b1 b2 bN bR bH
      refine c158r (a := 0) (b := 100) (by decide) (by decide) (fun q => absurd rfl (q n hn1 hn2)) (fun _ _ _ _ => Bk.i (b223_12 hP (fun _ => b223_17 hP (fun _ => b223_27 hP ?_) (fun z => absurd (by rw [bR] at z; rw [hR]; exact z) h2)) (fun z => absurd z (by decide))))
      refine m222 (g := gD mem) (Or.inl rfl) (MwD_Cf b1 g7) (by rw [g1]; exact t3) (by rw [g1]; exact b2) (let ⟨now, w1, w2⟩ := h.2.2.2.1.2.now; ⟨now, by omega, w2⟩) (by omega) fun r0 m5 a5 v5 e5 _ => Bk.i (b223_36 hP ?_)
      rw [hY]
      rw [g1] at v5 e5
      have key2 := xloop (N := R) (G := fun k => ∀ v7 v8 v9 v10 r' m', AgM mtW mqV mb m' → MV m' N (mem 48) → (∀ p, p < N → m' 136 p = stD (gD mem) (mem 48) n p) → P 48 [.ref 108, .int (nI n), .int Y, .int (dlR (dlO F k)), .int (dlZ (dlO F k)), .int (dlW W (dlO F k)), .int (nI k), v7, v8, v9, v10] [] (0, 0) (LAY, RFu r', m')) ?_ ?_
      · exact key2 _ _ _ _ r0 m5 a5 v5 e5
      · intro v7 v8 v9 v10 r' m6 a6 v6 _
        rw [hvL]
        refine b223_48 hP (fun _ => b223_198 hP (c161 (xs := []) (RwM_nil (by rw [xu2_eq, upd_at])) (by decide) fun m7 a7 w7 => Bk.v (b223_211 hP (c161 w7 (by simp) fun m8 a8 w8 => Bk.v (b223_217 hP (k2 _ _ (kEnd (N := N) (R := R) ?_ hB))))))) (fun z => absurd (Int32.le_refl _) (by rw [a6.2 0 (by decide), bR] at z; exact z))
        have a19 : AgM [] [19] m6 (xu2 m6 108 19 (nI 0)) := AgM.rfl'.us (by simp)
        have aa : AgM (123 :: mtW) (19 :: mqV) mb m8 := (((a6.mono (by decide) (by decide)).trans (a19.mono (by simp) (by simp))).trans (a7.mono (by simp) (by simp))).trans (a8.mono (by simp) (by simp))
        rw [← hm2] at aa
        exact kT1 h f1 a14 w4 (t20 aa) (((v6.ag a19 (by simp) (by decide)).ag a7 (by decide) (by decide)).ag a8 (by decide) (by decide)) w8
      · intro k hk ih v7 v8 v9 v10 r' m6 a6 v6 e6
        have hk4 : k < 4 := by omega
        have ck : (nI k).toNatClampNeg = k := nIc (by omega)
        have vk : vp_in (nI k) 4 := vpn hk4 (by decide)
        have e109 : m6 109 k = nI (dH (D0 mem) k) := by rw [a6.1 109 (by decide) (by decide), bH k hk]
        refine b223_48 hP (fun z => absurd z (by rw [a6.2 0 (by decide), bR]; exact nI_ge hk (by omega))) (fun _ => b223_57 hP vk vk ?_)
        rw [ck, e109, mch_nI (hH k hk4).1]
        have a7 : AgM (109 :: mtW) mqV mb (xu2 m6 109 k (nI (mch (dH (D0 mem) k)))) := (a6.mono (by decide) (fun _ h => h)).u2 (by decide) (by decide)
        have v7' : MV (xu2 m6 109 k (nI (mch (dH (D0 mem) k)))) N (mem 48) := v6.ag ((AgM.rfl' (W := [109]) (V := [])).u2 (by simp) (by decide)) (by decide) (by simp)
        have w7 : MwD (xu2 m6 109 k (nI (mch (dH (D0 mem) k)))) (ds k) := by
          rw [← hd]
          refine MwD_H b1 a7 (fun q hq => ?_)
          rw [xu2_eq]
          by_cases z : q = k
          · rw [if_pos z, z, upd_at]
          · rw [if_neg z, upd_ne z, a6.1 109 (by decide) (by decide)]; exact bH q (by omega)
        refine m222 (g := cfD (ds k)) (Or.inr rfl) (MwD_Cf w7 (hdk k)) (by show PV (dN (ds k)) _; rw [hdN]; exact t3) (by show MV _ (dN (ds k)) _; rw [hdN]; exact v7') (let ⟨now, w1, w2⟩ := h.2.2.2.1.2.now; ⟨now, by omega, w2⟩) (by omega) fun r4 m8 a8 v8' e8 q8 => Bk.i ?_
        rw [hF]
        have v8' : MV m8 (dN (ds k)) (mem 48) := v8'
        rw [hdN] at v8'
        have e136 : m8 136 = m6 136 := by rw [q8 136 (Or.inl rfl) (by decide), xu2_ne (by decide)]
        have e8 : ∀ p, p < N → m8 137 p = stD (cfD (ds k)) (mem 48) n p := fun p hp => e8 p (by show p < dN (ds k); rw [hdN]; exact hp)
        generalize hm9 : xu2 m8 109 k (nI (dH (D0 mem) k)) = m9
        have e9 : m9 109 = m6 109 := by
          rw [← hm9, xu2_eq, a8.1 109 (by decide) (by decide), xu2_eq]
          funext q
          by_cases z : q = k
          · rw [z, upd_at]; exact e109.symm
          · rw [upd_ne z, upd_ne z]
        have a9' : AgM [109] [] m8 m9 := by rw [← hm9]; exact AgM.rfl'.u2 (by simp) (by decide)
        have a9 : AgM mtW mqV mb m9 := by
          have q : AgM (109 :: mtW) mqV mb m9 := (a7.trans (a8.mono (by decide) (fun _ h => h))).trans (a9'.mono (by simp) (by simp))
          exact q.drop (by rw [e9, a6.1 109 (by decide) (by decide)])
        have v9' : MV m9 N (mem 48) := v8'.ag a9' (by decide) (by simp)
        have e9' : ∀ p, p < N → m9 136 p = stD (gD mem) (mem 48) n p := fun p hp => by rw [a9'.1 136 (by decide) (by decide), e136]; exact e6 p hp
        have e97 : ∀ p, p < N → m9 137 p = stD (cfD (ds k)) (mem 48) n p := fun p hp => by rw [a9'.1 137 (by decide) (by decide)]; exact e8 p hp
        have hex : dlO F (k + 1) = dl1 F (dlO F k) k := rfl
        rw [hex] at ih
        have rep : dl1 F (dlO F k) k = some (F k, k) → ∀ v3 v4 v5 v7 v9 v10, P 117 [.ref 108, .int (nI n), .int Y, v3, v4, v5, .int (nI k), v7, .int (F k), v9, v10] [] (0, 0) (LAY, RFu r4, m9) := fun he v3 v4 v5 v7 v9 v10 => by
          refine b223_117 hP ?_
          have inn := xloop (N := N) (G := fun p => P 133 [.ref 108, .int (nI n), .int Y, .int (nI k), .int (F k), .int (mfO (fun p => stD (gD mem) (mem 48) n p - stD (cfD (ds k)) (mem 48) n p) p).2, .int (nI k), v7, .int (F k), .int (mfO (fun p => stD (gD mem) (mem 48) n p - stD (cfD (ds k)) (mem 48) n p) p).1, .int (nI p)] [] (0, 0) (LAY, RFu r4, m9)) ?_ ?_
          · exact inn
          · refine b223_133 hP (fun _ => b223_192 hP ?_) (fun z => absurd (Int32.le_refl _) (by rw [a9.2 2 (by decide), bN] at z; exact z))
            have := ih v7 (.int (F k)) (.int (mfO (fun p => stD (gD mem) (mem 48) n p - stD (cfD (ds k)) (mem 48) n p) N).1) (.int (nI N)) r4 m9 a9 v9' e9'
            rw [he] at this
            rw [nIs, hW]
            exact this
          · intro p hp ihp
            have vp : vp_in (nI p) 8 := vpn (by omega) (by decide)
            have cp : (nI p).toNatClampNeg = p := nIc (by omega)
            rw [mfO_s] at ihp
            refine b223_133 hP (fun z => absurd z (by rw [a9.2 2 (by decide), bN]; exact nI_ge hp (by omega))) (fun _ => b223_142 hP vp vp (fun z => b223_165 hP vp vp (b223_186 hP ?_)) (fun z => b223_162 hP (b223_186 hP ?_)))
            · rw [cp, e9' p hp, e97 p hp] at z ⊢
              rw [if_pos z] at ihp
              rw [nIs]
              exact ihp
            · rw [cp, e9' p hp, e97 p hp] at z
              rw [if_neg z] at ihp
              rw [nIs]
              exact ihp
        cases hs' : dlO F k with
        | none =>
          rw [hs'] at rep
          refine b223_91 hP vk (fun _ => ?_) (fun z => absurd rfl z)
          rw [ck, hm9]
          exact rep rfl _ _ _ _ _ _
        | some v =>
          have hv4 : v.2 < k := dlO_lt k v hs'
          refine b223_91 hP vk (fun z => absurd z (nI_nm (by omega))) (fun _ => ?_)
          rw [ck, hm9]
          refine b223_107 hP (fun z => ?_) (fun z => b223_114 hP (b223_192 hP ?_))
          · have z : F k < v.1 := z
            rw [hs'] at rep
            exact rep (if_pos z) _ _ _ _ _ _
          · have z : ¬ F k < v.1 := z
            have he : dl1 F (dlO F k) k = some v := by rw [hs']; exact if_neg z
            rw [nIs]
            have := ih (.int (nI (dH (D0 mem) k))) (.int (F k)) v9 v10 r4 m9 a9 v9' e9'
            rw [he] at this
            exact this
    · intro k hk ih v7 m1 f1 w1
      have hk4 : k < 4 := by omega
      refine b134_80 hP (fun z => absurd z (by rw [f1.1 5 (by decide), hR]; exact nI_ge hk (by omega))) (fun _ => b134_92 hP (c88T h f1 fun m2 f2 a2 t2 => Bk.v (b134_103 hP (vpn hk4 (by decide)) (vpn hk4 (by decide)) ?_)))
      rw [nIc (by omega), f2.1 6 (by decide), (hH k hk4).2, mch_nI (hH k hk4).1]
      have t3 := TwD_H (r := k) (v := mch (dH (D0 mem) k)) t2
      rw [hd] at t3
      refine c153T (D := ds k) (Or.inr rfl) h hb (f2.ag ((Ag.rfl' (W := [27])).u2 (by simp)) (by decide)) t3 (hdk k) (hdN k) (by omega) fun m4 f4 a4 e4 e48' => Bk.v (b134_139 hP (c155 (g := cfD (ds k)) (show dN (ds k) ≤ 8 by rw [hdN]; exact hN8) e4 (Bk.i ?_)))
      rw [e48', hF]
      have w4 : ∀ q, q < N → m4 106 q = stD (gD mem) (mem 48) n q := fun q hq => by rw [a4 106 (by decide), xu2_ne (by decide), a2 106 (by decide)]; exact w1 q hq
      have hex : dlO F (k + 1) = dl1 F (dlO F k) k := rfl
      rw [hex] at ih
      have rep : dl1 F (dlO F k) k = some (F k, k) → ∀ v3 v4 v5, P 157 [.ref 0, .int (nI n), .int Y, v3, v4, v5, .int (nI k), .int (F k)] [] (0, 0) (LAY, RFu r, m4) := fun he v3 v4 v5 => by
        refine b134_157 hP (c135 (N := N) (g := cfD (ds k)) (n := n) (by rw [f4.1 5 (by decide), hN]) hN8 e4 (Bk.i (b134_168 hP (b134_170 hP ?_))))
        rw [nIs, e48', mfO_congr (fun p hp => by rw [w4 p hp]), hW]
        have := ih (.int (F k)) m4 f4 w4
        rw [he] at this
        exact this
      cases hs' : dlO F k with
      | none =>
        rw [hs'] at rep
        exact b134_143 hP (fun _ => rep rfl _ _ _) (fun z => absurd rfl z)
      | some v =>
        obtain ⟨m, q1, q2⟩ := hqL k v hs'
        have hv4 : v.2 < k := dlO_lt k v hs'
        refine b134_143 hP (fun z => absurd z (nI_nm (by omega))) (fun _ => b134_151 hP (fun z => b134_170 hP ?_) (fun z => ?_))
        · have z : v.1 ≤ F k := z
          have he : dl1 F (dlO F k) k = some v := by rw [hs']; exact if_neg (Int32.not_lt.mpr z)
          rw [nIs]
          have := ih (.int (F k)) m4 f4 w4
          rw [he] at this
          exact this
        · have z : ¬ v.1 ≤ F k := z
          rw [hs'] at rep
          exact rep (if_pos (Int32.not_le.mp z)) _ _ _
  · intro p hp ih m1 f1 e1 w1
    have e148 : m1 48 = mem 48 := f1.1 48 (by decide)
    refine b134_41 hP (fun z => absurd z (by rw [f1.1 5 (by decide), hN]; exact nI_ge hp (by omega))) (fun _ => b134_52 hP (c154 (g := gD mem) (n := n) (by omega) (by rw [e1, e148, e0, e48]; rfl) (Bk.i (b134_62 hP (vpn (by omega) (by decide)) ?_))))
    rw [nIs, nIc (by omega), e148]
    refine ih _ (f1.ag ((Ag.rfl' (W := [106])).u2 (by simp)) (by decide)) (by rw [xu2_ne (by decide)]; exact e1) (fun q hq => ?_)
    rw [xu2_eq]
    by_cases z : q = p
    · rw [z, upd_at]
    · rw [upd_ne z]; exact w1 q (by omega)
end K
