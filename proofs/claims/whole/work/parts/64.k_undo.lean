/-! undo, sign, sheet -/
theorem tk_undo : Tk 111 196 [] := by
  intro N R B r mem Q h hB K
  obtain ⟨hR, hR4, hN, hN8, hR2, hN2⟩ := (RTo_parts h.2.2.1).1
  obtain ⟨hM, hS⟩ := h.2.2.2.1
  obtain ⟨u, fr, u1, u2, u3, u4, u5, u6⟩ := id h.2.2.2.2.1
  have hZ := h.2.2.2.2.2.2.2
  refine c_in rfl rfl rfl fun P hP => b111_0 hP (c_in rfl rfl rfl fun P2 hP2 => ?_)
  by_cases hu : u = 0
  · refine b26_0 hP2 (Or.inl rfl) (fun z => absurd (by rw [u1, hu]; rfl) z) (fun _ => b26_7 hP2 (Or.inl rfl) (Or.inl rfl) (Bk.i (b111_11 hP (fun _ => b111_24 hP (b111_25 hP (K _ _ ?_))) (fun z => absurd rfl z))))
    intro Q2 k2
    exact c_in rfl rfl rfl fun P hP => b196_0 hP (fun z => absurd (by rw [e20 (by decide), u5, hu]; rfl) z) (fun _ => b196_12 hP (k2 _ _ (kEnd (kM20 h) hB)))
  · have hf : (fr + 9) % 10 < 10 := Nat.mod_lt _ (by decide)
    have ef : mem 55 2 + nI 10 - nI 1 - (mem 55 2 + nI 10 - nI 1) / nI 10 * nI 10 = nI ((fr + 9) % 10) := by
      rw [u3, nI_add, nI_sub (by omega), nI_rem (by omega) (by decide) (by decide), show fr + 10 - 1 = fr + 9 by omega]
    generalize hfr : (fr + 9) % 10 = fr' at ef hf
    refine b26_0 hP2 (Or.inl rfl) (fun _ => ?_) (fun z => absurd (nI_inj (b := 0) (by rw [← u1]; exact z) (by omega) (by decide)) hu)
    have key := b26_9 (d := 298) (r := r) (mem := mem) hP2 (s := 47) (Or.inl rfl) (by decide)
    rw [ef] at key
    have e1 : xu2 mem 55 2 (nI fr') 55 0 - nI 1 = nI (u - 1) := by rw [xu2_eq, upd_ne (by decide), u1, nI_sub (by omega)]
    rw [e1] at key
    have e2 : xu2 (xu2 mem 55 2 (nI fr')) 55 0 (nI (u - 1)) 55 2 = nI fr' := by rw [xu2_eq, upd_ne (by decide), xu2_eq, upd_at]
    rw [e2, nIc (by omega)] at key
    refine key (vpn hf (by decide)) (Or.inr rfl) (Bk.i (b111_11 hP (fun z => absurd z (by decide)) (fun _ => b111_14 hP (b111_25 hP ?_))))
    have hin : ∀ x < 10, 57 + x ∈ zC := by decide
    have hne : ∀ x < 10, 57 + x ≠ 55 := by decide
    have eU : xu2 (xu2 mem 55 2 (nI fr')) 55 0 (nI (u - 1)) (57 + fr') = mem (57 + fr') := by rw [xu2_ne (hne _ hf), xu2_ne (hne _ hf)]
    rw [eU, xu2_ne (c := 47 + 1) (by decide), xu2_ne (c := 47 + 1) (by decide), xuA_cpy (fun i hi => by rw [hZ _ (hin _ hf) i hi]; exact hZ 48 (by decide) i hi), xuA_ne (by decide), xu2_eq, upd_at]
    refine K _ _ ?_
    intro Q2 k2
    generalize hm1 : xuA (xu2 (xu2 mem 55 2 (nI fr')) 55 0 (nI (u - 1))) (47 + 1) (mem (57 + fr')) = m1
    have g1 : Ag [55, 48] mem m1 := by rw [← hm1]; exact ((Ag.rfl'.u2 (by simp)).u2 (by simp)).uA (by simp)
    have w37 : m1 108 37 = nI u := by rw [g1 108 (by decide), u5]
    have hk := u6 (u - 1) (by omega)
    rw [show (fr + 10 - u + (u - 1)) % 10 = fr' by omega] at hk
    obtain ⟨hk1, hk2⟩ := hk
    refine c_in rfl rfl rfl fun P hP => b196_0 hP (fun _ => b196_14 hP ?_) (fun z => ?_)
    · have f37 : xu2 m1 108 20 (nI 0) 108 37 = nI u := by rw [e20 (by decide), w37]
      rw [f37, nI_sub (by omega), xu2_eq, upd_at, nI_mul]
      generalize hm3 : xu2 (xu2 m1 108 20 (nI 0)) 108 37 (nI (u - 1)) = m3
      have g3 : AgM [] [20, 37] m1 m3 := by rw [← hm3]; exact (AgM.rfl'.us (by simp)).us (by simp)
      refine c192 (q := 132) (k := 121 * (u - 1)) (np := 1210) (c := mem (57 + fr')) (Or.inl rfl) rfl (by omega) (by decide) hN8 (by rw [g3.2 2 (by simp), g1 108 (by decide), hN2]) (by rw [g3.1 132 (by simp) (by decide), g1 132 (by decide)]; exact hk1) fun m2 a2 v2 => Bk.v (b196_39 hP ?_)
      have g2 : AgM mvC [20, 37, 15] m1 m2 := (g3.mono (by simp) (by simp)).trans (a2.mono (fun _ h => h) (by simp))
      have e37 : m2 108 37 = nI (u - 1) := by rw [a2.2 37 (by decide), ← hm3, xu2_eq, upd_at]
      rw [e37]
      have e48 : m2 48 = mem (57 + fr') := by rw [g2.1 48 (by decide) (by decide), ← hm1]; show xuA _ 48 _ 48 = _; rw [xuA_eq]
      have e55 : m2 55 = upd (upd (mem 55) 2 (nI fr')) 0 (nI (u - 1)) := by rw [g2.1 55 (by decide) (by decide), ← hm1, xuA_ne (by decide), xu2_eq, xu2_eq]
      refine k2 _ _ (kEnd (N := N) (R := R) ⟨kTx h g1 g2 (by decide), kRw h g1 g2 (by decide), kTo h g1 g2 (by decide), ⟨by rw [e48]; exact v2, by rw [e48]; exact hk2⟩, ⟨u - 1, fr', by rw [e55, upd_at], by omega, by rw [e55, upd_ne (by decide), upd_at], hf, e37, fun k hk => ?_⟩, kOl h g1 g2 (by decide), kKe h g1 g2 (by decide), hZ.mv fun x hx => ?_⟩ hB)
      · have hw : (fr' + 10 - (u - 1) + k) % 10 = (fr + 10 - u + k) % 10 := by omega
        have hl : (fr + 10 - u + k) % 10 < 10 := Nat.mod_lt _ (by decide)
        have hz : ∀ x < 10, 57 + x ∉ mvC ∧ 57 + x ≠ 108 ∧ 57 + x ∉ [55, 48] := by decide
        obtain ⟨y1, y2, y3⟩ := hz _ hl
        rw [hw, g2.1 132 (by decide) (by decide), g1 132 (by decide), g2.1 _ y1 y2, g1 _ y3]
        exact u6 k (by omega)
      · by_cases q : x = 48
        · refine Or.inr fun i hi => ?_
          rw [q, e48]
          exact hZ _ (hin _ hf) i hi
        · refine Or.inl ?_
          have : ∀ x ∈ zC, x ∉ mvC ∧ x ≠ 108 ∧ x ≠ 55 := by decide
          obtain ⟨y1, y2, y3⟩ := this x hx
          rw [g2.1 x y1 y2, g1 x (by simp; exact ⟨y3, q⟩)]
    · rw [e20 (by decide), w37] at z
      exact absurd (nI_inj (b := 0) z (by omega) (by decide)) hu
/-- a byte of an int -/
def byteN (v : Int32) (j : Nat) : Nat := (v.toBitVec.toNat / 2 ^ (8 * j)) % 256
theorem byteN_lt {v : Int32} {j : Nat} : byteN v j < 256 := Nat.mod_lt _ (by decide)
theorem and255 {u : UInt32} : u.toInt32 &&& nI 255 = nI (u.toNat % 256) := by
  apply Int32.toBitVec_inj.mp
  rw [Int32.toBitVec_and]
  show u.toBitVec &&& BitVec.ofNat 32 255 = BitVec.ofNat 32 (u.toNat % 256)
  apply BitVec.eq_of_toNat_eq
  rw [BitVec.toNat_and, BitVec.toNat_ofNat, BitVec.toNat_ofNat, Nat.mod_eq_of_lt (by decide : 255 < 2 ^ 32), show (255 : Nat) = 2 ^ 8 - 1 from rfl, Nat.and_two_pow_sub_one_eq_mod, Nat.mod_eq_of_lt (Nat.lt_of_lt_of_le (Nat.mod_lt _ (by decide)) (by decide : 256 ≤ 2 ^ 32))]
  rfl
theorem cbyte {v : Int32} {k : Nat} (hk : k < 4) : ((v.toUInt32 >>> ((nI 24 - nI 8 * nI k).toUInt32 &&& Int32.toUInt32 31)).toInt32) &&& nI 255 = nI (byteN v (3 - k)) := by
  rw [and255, UInt32.toNat_shiftRight, Nat.shiftRight_eq_div_pow]
  have e : ∀ k < 4, ((nI 24 - nI 8 * nI k).toUInt32 &&& Int32.toUInt32 31).toNat % 32 = 8 * (3 - k) := by decide
  rw [e k hk]
  rfl
theorem sb_toInt {u : Nat} (h : u < 256) : (sb u).toInt = (u : Int).bmod 256 := by
  have : ∀ u < 256, (sb u).toInt = (u : Int).bmod 256 := by decide +kernel
  exact this u h
theorem nar8 {y : Int32} {b : Nat} (hb : b < 256) (h : y.toInt % 256 = (b : Int)) : y.toInt8.toInt32 = sb b := by
  apply Int32.toInt_inj.mp
  rw [Int8.toInt_toInt32, Int32.toInt_toInt8, sb_toInt hb]
  show y.toInt.bmod 256 = _
  rw [← Int.emod_bmod]
  show (y.toInt % 256).bmod 256 = _
  rw [h]
theorem mbyte {v : Int32} {j : Nat} (hj : j < 4) : xNar 14 ((v >>> ((nI 8 * nI j) &&& 31)).toInt8.toInt32) = sb (byteN v j) := by
  have hb : byteN v j < 256 := byteN_lt
  have e : (v >>> ((nI 8 * nI j) &&& 31)).toInt8.toInt32 = sb (byteN v j) := by
    refine nar8 hb ?_
    have et : (v >>> ((nI 8 * nI j) &&& 31)).toInt = v.toInt / ((2 ^ (8 * j) : Nat) : Int) := by
      rw [← Int32.toInt_toBitVec, Int32.toBitVec_shiftRight, BitVec.sshiftRight_eq', BitVec.toInt_sshiftRight, Int.shiftRight_eq_div_pow]
      have es : ∀ j < 4, (((nI 8 * nI j) &&& 31).toBitVec.smod 32).toNat = 8 * j := by decide
      rw [es j hj, Int32.toInt_toBitVec]
    rw [et, ← Int32.toInt_toBitVec, BitVec.toInt_eq_toNat_cond]
    unfold byteN
    have hv := v.toBitVec.isLt
    generalize v.toBitVec.toNat = n at hv
    have hj : j = 0 ∨ j = 1 ∨ j = 2 ∨ j = 3 := by omega
    have q0 : (2 : Nat) ^ (8 * 0) = 1 := by decide
    have q1 : (2 : Nat) ^ (8 * 1) = 256 := by decide
    have q2 : (2 : Nat) ^ (8 * 2) = 65536 := by decide
    have q3 : (2 : Nat) ^ (8 * 3) = 16777216 := by decide
    rcases hj with hj | hj | hj | hj <;> rw [hj]
    · rw [q0]; split <;> omega
    · rw [q1]; split <;> omega
    · rw [q2]; split <;> omega
    · rw [q3]; split <;> omega
  rw [e, sb_nar hb]
def sgT (tx : Nat → Nat) (len : Nat) (v : Int32) : Nat → Nat := fun i => if i < len then tx i else byteN v (3 - (i - len))
theorem tk_sign (v : Int32) : Tk 98 165 [.int v] := by
  intro N R B r mem Q h hB K
  obtain ⟨len, tx, ⟨a1, a2, a3⟩, b1, b2, b3⟩ := id h.1
  refine c_in rfl rfl rfl fun P hP => b98_0 hP (c_in rfl rfl rfl fun P2 hP2 => b71_0 hP2 (fun z => b71_13 hP2 ?_) (fun z => b71_11 hP2 (Or.inl rfl) (Bk.i (b98_8 hP (fun _ => b98_21 hP (b98_22 hP (K _ _ ?_))) (fun q => absurd rfl q)))))
  · rw [a1, nI_add, nI_leI (by omega) (by decide)] at z
    have key := xloop (N := 4) (G := fun k => ∀ m', Ag [2] mem m' → (∀ i, i < len + k → m' 2 i = nI (sgT tx len v i)) → P2 15 [.ref 1, .int v, .int (nI k)] [] (0, 0) (LAY, RFu r, m')) ?_ ?_
    · refine key mem Ag.rfl' (fun i hi => ?_)
      unfold sgT
      rw [if_pos (by omega)]
      exact (a3 i (by omega)).2
    · intro m' hA hx
      have e1 : m' 1 1 = nI len := by rw [hA 1 (by simp), a1]
      refine b71_15 hP2 (fun _ => b71_50 hP2 (Or.inr rfl) (Bk.i (b98_8 hP (fun q => absurd q (by decide)) (fun _ => b98_11 hP (b98_22 hP ?_))))) (fun q => absurd (Int32.le_refl _) q)
      rw [e1, nI_add, xu2_eq, upd_at]
      refine K _ _ ?_
      intro Q2 k2
      generalize hm1 : xu2 m' 1 1 (nI (len + 4)) = m1
      have g1 : Ag [1, 2] mem m1 := by rw [← hm1]; exact (hA.mono (by simp)).u2 (by simp)
      have f17 : m1 108 17 = nI len := by rw [g1 108 (by simp), b1]
      have hsg : ∀ i, i < len + 4 → sgT tx len v i < 256 := fun i hi => by
        unfold sgT
        by_cases q : i < len
        · rw [if_pos q]; exact (a3 i q).1
        · rw [if_neg q]; exact byteN_lt
      refine c_in rfl rfl rfl fun P hP => b165_0 hP (fun _ => b165_18 hP ?_) (fun q => absurd (by rw [e20 (by decide), f17, nI_add]; exact nI_le z (by decide)) q)
      have key2 : ∀ j, j ≤ 4 → ∀ m', AgM [122] [20, 17] m1 m' → m' 108 17 = nI (len + (4 - j)) → (∀ i, i < len + (4 - j) → m' 122 i = sb (sgT tx len v i)) → P 20 [.ref 108, .int v, .int (nI j + (-1))] [] (0, 0) (LAY, RFu r, m') := by
        intro j
        induction j with
        | zero =>
          intro _ m' hA2 e17 hx2
          refine b165_20 hP (fun _ => b165_53 hP ?_) (fun q => absurd (by decide) q)
          rw [e17]
          refine k2 _ _ (kEnd ⟨⟨len + 4, sgT tx len v, ⟨?_, by omega, fun i hi => ⟨hsg i hi, ?_⟩⟩, e17, by omega, fun i hi => ⟨hsg i hi, hx2 i hi⟩⟩, kRw h g1 hA2 (by decide), kTo h g1 hA2 (by decide), kSt h g1 hA2 (by decide), kUn h g1 hA2 (by decide), kOl h g1 hA2 (by decide), kKe h g1 hA2 (by decide), kZe h g1 hA2 (by decide)⟩ hB)
          · rw [hA2.1 1 (by simp) (by decide), ← hm1, xu2_eq, upd_at]
          · rw [hA2.1 2 (by simp) (by decide), ← hm1, xu2_ne (by decide)]; exact hx i hi
        | succ j ih =>
          intro hj m' hA2 e17 hx2
          have ej : nI (j + 1) + (-1) = nI j := topI
          rw [ej]
          refine b165_20 hP (fun q => absurd q (pw (by omega))) (fun _ => b165_24 hP (by rw [e17]; exact vpn (by omega) (by decide)) ?_)
          rw [e17, nIc (by omega), nIs, mbyte (by omega)]
          refine ih (by omega) _ ((hA2.us (by simp)).u2 (by simp) (by decide)) (by rw [xu2_ne (by decide), xu2_eq, upd_at]; congr 1; omega) (fun i hi => ?_)
          rw [xu2_eq, xu2_ne (by decide)]
          by_cases q : i = len + (4 - (j + 1))
          · rw [q, upd_at]
            unfold sgT
            rw [if_neg (by omega), show 3 - (len + (4 - (j + 1)) - len) = j by omega]
          · rw [upd_ne q]; exact hx2 i (by omega)
      exact key2 4 (Nat.le_refl 4) _ (th20.mono (by simp) (by simp)) (by rw [e20 (by decide), f17]; rfl) (fun i hi => by
        rw [xu2_ne (by decide), g1 122 (by simp)]
        unfold sgT
        rw [if_pos (by omega)]
        exact (b3 i (by omega)).2)
    · intro k hk ih m' hA hx
      have e1 : m' 1 1 = nI len := by rw [hA 1 (by simp), a1]
      refine b71_15 hP2 (fun q => absurd q (nI_ge hk (by decide))) (fun _ => b71_20 hP2 (by rw [e1]; exact vpx (by omega) (by decide)) ?_)
      rw [e1, nIx (by omega), nIs, cbyte hk]
      refine ih _ (hA.u2 (by simp)) (fun i hi => ?_)
      rw [xu2_eq]
      by_cases q : i = len + k
      · rw [q, upd_at]
        unfold sgT
        rw [if_neg (by omega), show len + k - len = k by omega]
      · rw [upd_ne q]; exact hx i (by omega)
  · intro Q2 k2
    refine c_in rfl rfl rfl fun P hP => b165_0 hP (fun q => absurd ?_ z) (fun _ => b165_16 hP (k2 _ _ (kEnd (kM20 h) hB)))
    rw [e20 (by decide), b1] at q
    rw [a1]
    exact q
def clp (e : Int32) : Int32 := if nI 0 < (if e < nI 99 then e else nI 99) then (if e < nI 99 then e else nI 99) else nI 0
def cvk (kind e : Int32) : Int32 := if kind = 0 then e.toInt8.toInt32 else if kind = nI 1 then e.toInt16.toInt32 else e
def agV (kind n f st : Int32) (p : Nat) : Int32 := if kind = nI 3 ∨ ¬ nI p < n then nI 0 else clp (cvk kind (f + nI p * st))
theorem c108 {d r : Nat} {mem : Nat → Nat → Int32} {Q : xQr} {kind e : Int32} (k : Q (some (.int (clp (cvk kind e)))) (LAY, RFu r, mem)) : xCall (d + 1) 108 [.int kind, .int e] (LAY, RFu r, mem) Q := by
  refine c_in rfl rfl rfl fun P hP => b108_0 hP (fun z => b108_12 hP (fun z2 => b108_20 hP ?_) (fun z2 => b108_17 hP (b108_20 hP ?_))) (fun z => b108_6 hP (b108_20 hP ?_))
  · unfold cvk at k; rw [if_neg z, if_neg z2] at k; exact k
  · unfold cvk at k; rw [if_neg z, if_pos z2] at k; exact k
  · unfold cvk at k; rw [if_pos z] at k; exact k
theorem tk_sheet (x y f st : Int32) : Tk 107 185 [.int x, .int y, .int f, .int st] := by
  intro N R B r mem Q h hB K
  obtain ⟨p0, pch, ppe, ppl, psh, pr0, pr1⟩ := RTo_parts h.2.2.1
  obtain ⟨hR, hR4, hN, hN8, hR2, hN2⟩ := id p0
  refine c_in rfl rfl rfl fun P hP => b107_0 hP (c151 (a := 0) (b := 3) (by decide) (by decide) (fun hk => Bk.i (b107_6 hP (fun _ => b107_15 hP (K _ _ ?_)) (fun z => absurd rfl z))) (fun kd hk1 hk2 ek => Bk.i (b107_6 hP (fun z => absurd z (by decide)) (fun _ => b107_9 hP (fun hy => ?_) (fun hy => b107_15 hP (K _ _ ?_))))))
  · intro Q2 k2
    exact c_in rfl rfl rfl fun P hP => b185_0 hP (c158r (a := 0) (b := 3) (by decide) (by decide) (fun _ => Bk.i (b185_11 hP (fun _ => b185_20 hP (k2 _ _ (kEnd (kM20 h) hB))) (fun z => absurd rfl z))) (fun kd hk1 hk2 ek => absurd ek (hk kd hk1 hk2)))
  · have e3 : x = nI 3 ↔ kd = 3 := ⟨fun q => nI_inj (by rw [← ek]; exact q) (by omega) (by decide), fun q => by rw [ek, q]⟩
    -- what both do where it is right
    have go : (x ≠ nI 3 → 0 ≤ y) → ∀ v5 v6 v7, P 29 [.ref 0, .int x, .int y, .int f, .int st, v5, v6, v7] [] (0, 0) (LAY, RFu r, mem) := fun hxy v5 v6 v7 => by
      have main : ∀ en v2 v5 v6 v7, (∀ p, p < N → (en ≤ nI p ↔ (x = nI 3 ∨ ¬ nI p < y))) → P 39 [.ref 0, .int x, v2, .int f, .int st, v5, v6, v7] [.int en] (0, 0) (LAY, RFu r, mem) := fun en v2 v5 v6 v7 hen => by
        refine b107_39 hP ?_
        have key := xloop (N := N) (G := fun j => ∀ m', Ag [7] mem m' → (∀ p, p < j → m' 7 p = agV x y f st p) → P 47 [.ref 0, .int x, v2, .int f, .int st, .int en, .int (sumI (agV x y f st) j), .int (nI j)] [] (0, 0) (LAY, RFu r, m')) ?_ ?_
        · exact key mem Ag.rfl' (fun p hp => absurd hp (Nat.not_lt_zero p))
        · intro m1 g1 hx1
          have hN1 : m1 5 1 = nI N := by rw [g1 5 (by simp), hN]
          have fin : Q (some (.int (if x = nI 3 then -3 else sumI (agV x y f st) N))) (LAY, RFu r, m1) := by
            refine K _ _ ?_
            intro Q2 k2
            have f2 : m1 108 2 = nI N := by rw [g1 108 (by simp), hN2]
            refine c_in rfl rfl rfl fun P hP => b185_0 hP (c158r (a := 0) (b := 3) (by decide) (by decide) (fun q => absurd ek (q kd hk1 hk2)) (fun _ _ _ _ => Bk.i (b185_11 hP (fun z => absurd z (by decide)) (fun _ => b185_14 hP (fun _ => ?_) (fun z => absurd hy z)))))
            have m34 : ∀ v5 v6 v7 v8, P 34 [.ref 108, .int x, .int y, .int f, .int st, v5, v6, v7, v8] [] (0, 0) (LAY, RFu r, xu2 m1 108 20 (nI 0)) := fun v5 v6 v7 v8 => by
              refine b185_34 hP ?_
              have key2 := xloop (N := N) (G := fun j => ∀ m' v8, AgM [110] [20] m1 m' → (∀ p, p < j → m' 110 p = agV x y f st p) → P 43 [.ref 108, .int x, .int y, .int f, .int st, .int (sumI (agV x y f st) j), .int (f + nI j * st), .int (nI j), v8] [] (0, 0) (LAY, RFu r, m')) ?_ ?_
              · have := key2 (xu2 m1 108 20 (nI 0)) v8 (th20.mono (by simp) (by simp)) (fun p hp => absurd hp (Nat.not_lt_zero p))
                rw [show nI 0 * st = 0 from Int32.zero_mul, Int32.add_zero] at this
                exact this
              · intro m2 v8 g2 hx2
                have f2' : m2 108 2 = nI N := by rw [g2.2 2 (by simp), f2]
                have fin2 : Q2 (some (.int (if x = nI 3 then -3 else sumI (agV x y f st) N))) (LAY, RFu r, m2) := by
                  refine k2 _ _ (kEnd ⟨kTx h g1 g2 (by decide), kRw h g1 g2 (by decide), RTo_of (p0.mv (dj_eqs g1 g2 (by decide))) (pch.mv (dj_eqs g1 g2 (by decide))) (fun p hp => ?_) (ppl.mv (dj_eqs g1 g2 (by decide))) (psh.mv (dj_eqs g1 g2 (by decide))) (pr0.mv (by decide) (dj_eqs g1 g2 (by decide))) (pr1.mv (by decide) (dj_eqs g1 g2 (by decide))), kSt h g1 g2 (by decide), kUn h g1 g2 (by decide), kOl h g1 g2 (by decide), kKe h g1 g2 (by decide), kZe h g1 g2 (by decide)⟩ hB)
                  rw [hx2 p hp, g2.1 7 (by simp) (by decide), hx1 p hp, g2.1 8 (by simp) (by decide), g1 8 (by simp), g2.1 111 (by simp) (by decide), g1 111 (by simp)]
                  exact ⟨rfl, (ppe p hp).2⟩
                refine b185_43 hP (fun _ => b185_135 hP (fun z => b185_145 hP (b185_147 hP ?_)) (fun z => b185_140 hP (b185_147 hP ?_))) (fun z => absurd (by rw [f2']; exact Int32.le_refl _) z)
                · rw [if_neg z] at fin2; exact fin2
                · rw [if_pos z] at fin2; exact fin2
              · intro j hj ih m2 v8 g2 hx2
                have f2' : m2 108 2 = nI N := by rw [g2.2 2 (by simp), f2]
                have vj : vp_in (nI j) 8 := vpn (by omega) (by decide)
                have est : f + nI j * st + st = f + nI (j + 1) * st := by rw [← nIs, Int32.add_mul, Int32.add_assoc, n1, Int32.one_mul]
                have nx : ∀ y2 v8, y2 = agV x y f st j → P 109 [.ref 108, .int x, .int y, .int f, .int st, .int (sumI (agV x y f st) j), .int (f + nI j * st), .int (nI j), v8] [.int y2, .int (nI j), .ref 110] (0, 0) (LAY, RFu r, m2) := fun y2 v8 hy2 => by
                  refine b185_109 hP vj vj ?_
                  rw [nIs, est, nIc (by omega), xu2_eq, upd_at, hy2]
                  refine ih _ _ (g2.u2 (by simp) (by decide)) (fun p hp => ?_)
                  rw [xu2_eq]
                  by_cases q : p = j
                  · rw [q, upd_at]
                  · rw [upd_ne q]; exact hx2 p (by omega)
                have n75 : ∀ v8, P 75 [.ref 108, .int x, .int y, .int f, .int st, .int (sumI (agV x y f st) j), .int (f + nI j * st), .int (nI j), v8] [.int (cvk x (f + nI j * st))] (0, 0) (LAY, RFu r, m2) := fun v8 => by
                  refine b185_75 hP (fun z => b185_94 hP (nx _ _ ?_)) (fun z => b185_88 hP (fun z2 => b185_98 hP (nx _ _ ?_)) (fun z2 => b185_94 hP (nx _ _ ?_)))
                  · unfold agV; rw [if_pos (Or.inl z)]
                  · unfold agV; rw [if_neg (show ¬ (x = nI 3 ∨ ¬ nI j < y) from fun q => q.elim z (fun q => q z2))]; rfl
                  · unfold agV; rw [if_pos (Or.inr z2)]
                refine b185_43 hP (fun z => absurd z (by rw [f2']; exact nI_ge hj (by omega))) (fun _ => b185_52 hP (fun z => b185_62 hP (fun z2 => b185_73 hP ?_) (fun z2 => b185_67 hP ?_)) (fun z => b185_56 hP ?_))
                · have := n75 v8; unfold cvk at this; rw [if_neg z, if_neg z2] at this; exact this
                · have := n75 v8; unfold cvk at this; rw [if_neg z, if_pos z2] at this; exact this
                · have := n75 v8; unfold cvk at this; rw [if_pos z] at this; exact this
            refine b185_22 hP (fun _ => m34 _ _ _ _) (fun z => b185_27 hP (fun _ => m34 _ _ _ _) (fun z2 => absurd (hxy fun q => z (by rw [q]; exact Int32.le_refl _)) z2))
          refine b107_47 hP (fun _ => b107_112 hP (fun z => b107_122 hP (b107_124 hP ?_)) (fun z => b107_117 hP (b107_124 hP ?_))) (fun z => absurd (by rw [hN1]; exact Int32.le_refl _) z)
          · rw [if_neg z] at fin; exact fin
          · rw [if_pos z] at fin; exact fin
        · intro j hj ih m' hA hx1
          have hN1 : m' 5 1 = nI N := by rw [hA 5 (by simp), hN]
          have vj : vp_in (nI j) 8 := vpn (by omega) (by decide)
          have nx : ∀ y2, y2 = agV x y f st j → P 90 [.ref 0, .int x, v2, .int f, .int st, .int en, .int (sumI (agV x y f st) j), .int (nI j)] [.int y2, .int (nI j), .ref 7] (0, 0) (LAY, RFu r, m') := fun y2 hy2 => by
            refine b107_90 hP vj vj ?_
            rw [nIs, nIc (by omega), xu2_eq, upd_at, hy2]
            refine ih _ (hA.u2 (by simp)) (fun p hp => ?_)
            rw [xu2_eq]
            by_cases q : p = j
            · rw [q, upd_at]
            · rw [upd_ne q]; exact hx1 p (by omega)
          refine b107_47 hP (fun z => absurd z (by rw [hN1]; exact nI_ge hj (by omega))) (fun _ => b107_59 hP (fun z => b107_89 hP (nx _ ?_)) (fun z => b107_75 hP (c108 (Bk.i (b107_86 hP (nx _ ?_))))))
          · unfold agV; rw [if_pos ((hen j hj).mp z)]
          · unfold agV; rw [if_neg (show ¬ (x = nI 3 ∨ ¬ nI j < y) from fun q => z ((hen j hj).mpr q))]
      refine b107_29 hP (fun z => b107_38 hP (main _ _ _ _ _ fun p hp => ?_)) (fun z => b107_34 hP (main _ _ _ _ _ fun p hp => ?_))
      · exact ⟨fun q => Or.inr (Int32.not_lt.mpr q), fun q => q.elim (fun q => absurd q z) (fun q => Int32.not_lt.mp q)⟩
      · exact ⟨fun _ => Or.inl z, fun _ => nI_le (Nat.zero_le p) (by omega)⟩
    refine b107_17 hP (fun z => go (fun q => absurd z q) _ _ _) (fun z => b107_22 hP (fun z2 => go (fun _ => z2) _ _ _) (fun z2 => b107_26 hP (K _ _ ?_)))
    intro Q2 k2
    refine c_in rfl rfl rfl fun P hP => b185_0 hP (c158r (a := 0) (b := 3) (by decide) (by decide) (fun q => absurd ek (q kd hk1 hk2)) (fun _ _ _ _ => Bk.i (b185_11 hP (fun z => absurd z (by decide)) (fun _ => b185_14 hP (fun _ => b185_22 hP (fun w => ?_) (fun _ => b185_27 hP (fun w => absurd w z2) (fun _ => b185_31 hP (k2 _ _ (kEnd (kM20 h) hB))))) (fun w => absurd hy w)))))
    rw [ek, nI_leI (by decide) (by omega)] at w
    exact absurd (e3.mpr (by omega)) z
  · intro Q2 k2
    exact c_in rfl rfl rfl fun P hP => b185_0 hP (c158r (a := 0) (b := 3) (by decide) (by decide) (fun q => absurd ek (q kd hk1 hk2)) (fun _ _ _ _ => Bk.i (b185_11 hP (fun z => absurd z (by decide)) (fun _ => b185_14 hP (fun w => absurd w hy) (fun _ => b185_20 hP (k2 _ _ (kEnd (kM20 h) hB)))))))
