/-! stolen -/
def oK (S : Nat → Int32) (m0 : Nat → Nat → Int32) (T : Nat) : Bool := decide (∀ k, k < T → S (m0 104 k).toNatClampNeg = m0 105 k)
theorem oK_t {S : Nat → Int32} {m0 : Nat → Nat → Int32} {T : Nat} (h : ∀ k, k < T → S (m0 104 k).toNatClampNeg = m0 105 k) : oK S m0 T = true := decide_eq_true h
theorem oK_f {S : Nat → Int32} {m0 : Nat → Nat → Int32} {T k : Nat} (hk : k < T) (h : ¬ S (m0 104 k).toNatClampNeg = m0 105 k) : oK S m0 T = false := decide_eq_false fun q => h (q k hk)
def bI (b : Bool) : Int32 := if b = true then nI 1 else nI 0
def stB (H : Nat → Nat) (F : Nat → Bool) : Nat → Int32
  | 0 => nI 0
  | r + 1 => if H r = 0 then stB H F r else stB H F r ||| (if F r = true then nI 1 <<< (nI r &&& 31) else nI 0)
theorem stB_s {H : Nat → Nat} {F : Nat → Bool} {r : Nat} : stB H F (r + 1) = if H r = 0 then stB H F r else stB H F r ||| (if F r = true then nI 1 <<< (nI r &&& 31) else nI 0) := rfl
def OT (mem : Nat → Nat → Int32) (N T : Nat) : Prop := T ≤ 8 ∧ mem 0 14 = nI T ∧ mem 108 45 = nI T ∧ ∀ k, k < T → ∃ p s, p < N ∧ s ≤ 100 ∧ mem 104 k = nI p ∧ mem 138 k = nI p ∧ mem 105 k = nI s ∧ mem 139 k = nI s
section K
variable {N R B r d n T : Nat} {mem m' m1 m2 m3 m4 m5 : Nat → Nat → Int32} {Q : xQr} {g : xCf} {D : xD}
theorem c140 (o : OT mem N T) (hN8 : N ≤ 8) (f : TI mem m') (h : m' 50 = qtrs g (m' 48) n) (k : Q (some (.int (bI (oK (stD g (mem 48) n) mem T)))) (LAY, RFu r, m')) : xCall (d + 2) 140 [.ref 0] (LAY, RFu r, m') Q := by
  obtain ⟨o1, o2, -, o4⟩ := o
  have e48 : m' 48 = mem 48 := f.1 48 (by decide)
  refine c_in rfl rfl rfl fun P hP => b140_0 hP ?_
  have key := xloop (N := T) (G := fun j => (∀ k, k < j → stD g (mem 48) n (mem 104 k).toNatClampNeg = mem 105 k) → P 2 [.ref 0, .int (nI j)] [] (0, 0) (LAY, RFu r, m')) ?_ ?_
  · exact key (fun k hk => absurd hk (Nat.not_lt_zero k))
  · intro w
    rw [oK_t w] at k
    exact b140_2 hP (fun _ => b140_37 hP (Or.inr rfl) k) (fun z => absurd (Int32.le_refl _) (by rw [f.1 0 (by decide), o2] at z; exact z))
  · intro j hj ih w
    obtain ⟨p, s, p1, p2, p3, -, p5, -⟩ := o4 j hj
    have vj : vp_in (nI j) 8 := vpn (by omega) (by decide)
    have cj : (nI j).toNatClampNeg = j := nIc (by omega)
    have cp : (mem 104 j).toNatClampNeg = p := by rw [p3, nIc (by omega)]
    refine b140_2 hP (fun z => absurd z (by rw [f.1 0 (by decide), o2]; exact nI_ge hj (by omega))) (fun _ => b140_10 hP vj ?_)
    rw [cj, f.1 104 (by decide), p3]
    refine c154 (g := g) (by omega) h (Bk.i ?_)
    rw [e48]
    refine b140_20 hP vj (fun z => b140_31 hP ?_) (fun z => b140_29 hP (Or.inl rfl) ?_)
    · rw [cj, f.1 105 (by decide)] at z
      rw [nIs]
      refine ih fun k hk => ?_
      by_cases q : k = j
      · rw [q, cp]; exact z
      · exact w k (by omega)
    · rw [cj, f.1 105 (by decide)] at z
      rw [oK_f hj (by rw [cp]; exact z)] at k
      exact k
theorem m227 (o : OT mem N T) (hN8 : N ≤ 8) (e45 : m1 108 45 = nI T) (e138 : m1 138 = mem 138) (e139 : m1 139 = mem 139) (hgN : fN g = N) (hC : CfM m1 g) (hPV : PV N (mem 48)) (hM : MV m1 N (mem 48)) (hw : ∃ now, now < 500000000 ∧ (mem 48) 120 = nI now) (hn : n ≤ 1000)
    (k : ∀ r' m2, AgM mtW mqV m1 m2 → MV m2 N (mem 48) → Q (some (.int (bI (oK (stD g (mem 48) n) mem T)))) (LAY, RFu r', m2)) : xCall (d + 75) 227 [.ref 108, .int (nI n)] (LAY, RFu r, m1) Q := by
  obtain ⟨o1, -, -, o4⟩ := o
  refine c_in rfl rfl rfl fun P hP => b227_0 hP ?_
  refine m222 (g := g) (Or.inr rfl) hC (by rw [hgN]; exact hPV) (by rw [hgN]; exact hM) hw hn fun r2 m2 a2 v2 e2 _ => Bk.i (b227_9 hP ?_)
  rw [hgN] at v2 e2
  have k := k r2 m2 a2 v2
  have key := xloop (N := T) (G := fun j => (∀ k, k < j → stD g (mem 48) n (mem 104 k).toNatClampNeg = mem 105 k) → P 12 [.ref 108, .int (nI n), .int (nI j)] [] (0, 0) (LAY, RFu r2, m2)) ?_ ?_
  · exact key (fun k hk => absurd hk (Nat.not_lt_zero k))
  · intro w
    rw [oK_t w] at k
    exact b227_12 hP (fun _ => b227_48 hP (Or.inr rfl) k) (fun z => absurd (Int32.le_refl _) (by rw [a2.2 45 (by decide), e45] at z; exact z))
  · intro j hj ih w
    obtain ⟨p, s, p1, p2, p3, p4, p5, p6⟩ := o4 j hj
    have vj : vp_in (nI j) 8 := vpn (by omega) (by decide)
    have cj : (nI j).toNatClampNeg = j := nIc (by omega)
    have cp : (mem 104 j).toNatClampNeg = p := by rw [p3, nIc (by omega)]
    have f138 : m2 138 j = nI p := by rw [a2.1 138 (by decide) (by decide), e138]; exact p4
    have f139 : m2 139 j = mem 105 j := by rw [a2.1 139 (by decide) (by decide), e139, p6, p5]
    refine b227_12 hP (fun z => absurd z (by rw [a2.2 45 (by decide), e45]; exact nI_ge hj (by omega))) (fun _ => b227_20 hP vj (by rw [cj, f138]; exact vpn (by omega) (by decide)) vj (fun z => b227_42 hP ?_) (fun z => b227_40 hP (Or.inl rfl) ?_))
    · rw [cj, f138, nIc (by omega), f139, e2 p p1] at z
      rw [nIs]
      refine ih fun k hk => ?_
      by_cases q : k = j
      · rw [q, cp]; exact z
      · exact w k (by omega)
    · rw [cj, f138, nIc (by omega), f139, e2 p p1] at z
      rw [oK_f hj (by rw [cp]; exact z)] at k
      exact k
theorem RwC_tr {xs : List Int32} {W : List Nat} (w : RwC m1 xs) (a : Ag W m1 m2) (d : 3 ∉ W ∧ 4 ∉ W) : RwC m2 xs := w.mv ⟨fun c hc => by
  simp at hc
  rcases hc with rfl | rfl
  · exact a 3 d.1
  · exact a 4 d.2, fun j hj => by cases hj⟩
theorem tk_stolen (x : Int32) : Tk 139 228 [.int x] := by
  intro N R B r mem Q h hB K
  obtain ⟨hR, hR4, hN, hN8, hR2, hN2⟩ := (RTo_parts h.2.2.1).1
  obtain ⟨g1, g2, g3, g4, g5, g6, g7, g8, g9⟩ := RRc_g h
  obtain ⟨T, o⟩ : ∃ T, OT mem N T := h.2.2.2.2.2.1
  have gN : dN (D0 mem) = N := g1
  have gR : dR (D0 mem) = R := g2
  have hb : B < 500000000 := by omega
  refine c_in rfl rfl rfl fun P hP => b139_0 hP (c151 (a := 0) (b := 100) (by decide) (by decide) (fun hno => Bk.i (b139_7 hP (fun z => absurd rfl z) (fun _ => b139_10 hP (K _ _ ?_)))) (fun n hn1 hn2 en => Bk.i (b139_7 hP (fun _ => b139_12 hP ?_) (fun z => absurd z (by decide)))))
  · intro Q2 k2
    exact c_in rfl rfl rfl fun P hP => b228_0 hP (c158r (a := 0) (b := 100) (by decide) (by decide) (fun _ => Bk.i (b228_12 hP (fun z => absurd rfl z) (fun _ => b228_15 hP (k2 _ _ (kEnd (kM20 h) hB))))) (fun n h1 h2 e => absurd e (hno n h1 h2)))
  subst en
  generalize hds : (fun k => dsH (D0 mem) (fun q => if q = k then dH (D0 mem) k - 1 else dH (D0 mem) q)) = ds
  have hd : ∀ k, dsH (D0 mem) (fun q => if q = k then dH (D0 mem) k - 1 else dH (D0 mem) q) = ds k := fun k => by rw [← hds]
  have hH : ∀ r, r < 4 → dH (D0 mem) r ≤ 16 ∧ mem 6 r = nI (dH (D0 mem) r) := fun r hr => ⟨g7.2.2.1 r hr, g8.2.2.1 r hr⟩
  have hdN : ∀ k, dN (ds k) = N := fun k => by rw [← hd]; exact gN
  have hdk : ∀ k, DOk (ds k) := fun k => by
    rw [← hd]
    refine DOk_H g7 fun r hr => ?_
    have := (hH r hr).1
    by_cases z : r = k
    · rw [if_pos z, ← z]; omega
    · rw [if_neg z]; omega
  generalize hF0 : (fun k => oK (stD (cfD (ds k)) (mem 48) n) mem T) = F
  have hF : ∀ k, oK (stD (cfD (ds k)) (mem 48) n) mem T = F k := fun k => by rw [← hF0]
  generalize hY : oK (stD (gD mem) (mem 48) n) mem T = Y
  refine c153T (D := D0 mem) (Or.inl rfl) h hb (TI0 h) g8 g7 gN (by omega) fun m0 f0 a0 e0 e48 => Bk.v (b139_21 hP (c31 fun ma aa wa => Bk.v (b139_28 hP (c140 (n := n) (g := gD mem) o hN8 (f0.ag aa (by decide)) (by rw [aa 50 (by decide), aa 48 (by decide)]; exact e0) (Bk.i ?_)))))
  rw [hY]
  have go : P 44 [.ref 0, .int (nI n), .null, .null] [.int (bI Y), .ref 3] (0, 0) (LAY, RFu r, ma) → P 36 [.ref 0, .int (nI n), .null, .null] [.int (bI Y), .ref 3] (0, 0) (LAY, RFu r, ma) := fun kk => by
    cases Y with
    | true => exact b139_36 hP (fun z => absurd z (by decide)) (fun _ => b139_39 hP kk)
    | false => exact b139_36 hP (fun _ => b139_43 hP kk) (fun z => absurd rfl z)
  refine go (b139_44 hP (c32 wa (by decide) fun mb ab wb => Bk.v (b139_47 hP ?_)))
  have fb : TI mem mb := (f0.ag aa (by decide)).ag ab (by decide)
  have key := xloop (N := R) (G := fun k => ∀ m', TI mem m' → RwC m' [bI Y] → P 51 [.ref 0, .int (nI n), .int (stB (dH (D0 mem)) F k), .int (nI k)] [] (0, 0) (LAY, RFu r, m')) ?_ ?_
  · exact key mb fb wb
  · intro m1 f1 w1
    refine b139_51 hP (fun _ => b139_130 hP (K _ _ ?_)) (fun z => absurd (Int32.le_refl _) (by rw [f1.1 5 (by decide), hR] at z; exact z))
    intro Q2 k2
    obtain ⟨t1, t2, t3, t4⟩ := TI_M h f1
    have b1 : MwD (xu2 m1 108 20 (nI 0)) (D0 mem) := MwD_ag t1 th20 (by simp) (by decide)
    have b2 : MV (xu2 m1 108 20 (nI 0)) N (mem 48) := t2.ag th20 (by simp) (by decide)
    have bR : xu2 m1 108 20 (nI 0) 108 0 = nI R := by rw [b1.1, gR]
    have bH : ∀ q, q < R → xu2 m1 108 20 (nI 0) 109 q = nI (dH (D0 mem) q) := fun q hq => b1.2.2.1 q (by omega)
    have b45 : xu2 m1 108 20 (nI 0) 108 45 = nI T := by rw [e20 (by decide), f1.1 108 (by decide)]; exact o.2.2.1
    have b138 : xu2 m1 108 20 (nI 0) 138 = mem 138 := by rw [xu2_ne (by decide), f1.1 138 (by decide)]
    have b139 : xu2 m1 108 20 (nI 0) 139 = mem 139 := by rw [xu2_ne (by decide), f1.1 139 (by decide)]
    refine c_in rfl rfl rfl fun P hP => b228_0 hP ?_
    generalize hm2 : xu2 m1 108 20 (nI 0) = mb at b1 b2 bR bH b45 b138 b139
    refine c158r (a := 0) (b := 100) (by decide) (by decide) (fun q => absurd rfl (q n hn1 hn2)) (fun _ _ _ _ => Bk.i (b228_12 hP (fun _ => b228_17 hP ?_) (fun z => absurd z (by decide))))
    have hw : ∃ now, now < 500000000 ∧ (mem 48) 120 = nI now := let ⟨now, w1, w2⟩ := h.2.2.2.1.2.now; ⟨now, by omega, w2⟩
    have key2 := xloop (N := R) (G := fun k => ∀ r' m', AgM mtW mqV mb m' → MV m' N (mem 48) → P 21 [.ref 108, .int (nI n), .int (stB (dH (D0 mem)) F k), .int (nI k)] [] (0, 0) (LAY, RFu r', m')) ?_ ?_
    · exact key2 r mb AgM.rfl' b2
    · intro r' m6 a6 v6
      refine b228_21 hP (fun _ => b228_85 hP ?_) (fun z => absurd (Int32.le_refl _) (by rw [a6.2 0 (by decide), bR] at z; exact z))
      have a19 : AgM [] [19] m6 (xu2 m6 108 19 (nI 0)) := AgM.rfl'.us (by simp)
      have aZ : AgM mtW (19 :: mqV) mb (xu2 m6 108 19 (nI 0)) := (a6.mono (fun _ h => h) (by decide)).trans (a19.mono (by simp) (by simp))
      refine m227 (n := n) (g := gD mem) o hN8 (by rw [aZ.2 45 (by decide), b45]) (by rw [aZ.1 138 (by decide) (by decide), b138]) (by rw [aZ.1 139 (by decide) (by decide), b139]) g1 (MwD_Cf (MwD_ag b1 aZ (by decide) (by decide)) g7) t3 (v6.ag a19 (by simp) (by decide)) hw (by omega) fun r7 m7 a7 v7 => Bk.i ?_
      rw [hY]
      have w7 : RwM m7 [] := RwM_nil (by rw [a7.2 19 (by decide), xu2_eq, upd_at])
      have go2 : ∀ v0 v1 v3, P 104 [v0, v1, .int (stB (dH (D0 mem)) F R), v3] [.int (bI Y), .ref 108] (0, 0) (LAY, RFu r7, m7) → P 96 [v0, v1, .int (stB (dH (D0 mem)) F R), v3] [.int (bI Y), .ref 108] (0, 0) (LAY, RFu r7, m7) := fun v0 v1 v3 kk => by
        cases Y with
        | true => exact b228_96 hP (fun z => absurd z (by decide)) (fun _ => b228_99 hP kk)
        | false => exact b228_96 hP (fun _ => b228_103 hP kk) (fun z => absurd rfl z)
      refine go2 _ _ _ (b228_104 hP (c161 w7 (by decide) fun m8 a8 w8 => Bk.v (b228_107 hP (k2 _ _ (kEnd (N := N) (R := R) ?_ hB)))))
      have aa : AgM (123 :: mtW) (19 :: mqV) mb m8 := ((aZ.mono (by decide) (fun _ h => h)).trans (a7.mono (by decide) (by decide))).trans (a8.mono (by simp) (by simp))
      rw [← hm2] at aa
      exact kT1 h f1 (Ag.rfl' (W := [3, 4])) w1 (t20 aa) (v7.ag a8 (by decide) (by decide)) w8
    · intro k hk ih r' m6 a6 v6
      have hk4 : k < 4 := by omega
      have ck : (nI k).toNatClampNeg = k := nIc (by omega)
      have vk : vp_in (nI k) 4 := vpn hk4 (by decide)
      have e109 : m6 109 k = nI (dH (D0 mem) k) := by rw [a6.1 109 (by decide) (by decide), bH k hk]
      obtain ⟨hk1, hk2⟩ := hH k hk4
      rw [stB_s] at ih
      refine b228_21 hP (fun z => absurd z (by rw [a6.2 0 (by decide), bR]; exact nI_ge hk (by omega))) (fun _ => b228_29 hP vk (fun z => b228_41 hP vk vk ?_) (fun z => b228_38 hP (b228_79 hP ?_)))
      · rw [ck, e109] at z ⊢
        have h0 : dH (D0 mem) k ≠ 0 := fun q => z (by rw [q]; rfl)
        rw [if_neg h0] at ih
        rw [show nI (dH (D0 mem) k) - nI 1 = nI (dH (D0 mem) k - 1) from nI_sub (by omega)]
        have a7 : AgM (109 :: mtW) mqV mb (xu2 m6 109 k (nI (dH (D0 mem) k - 1))) := (a6.mono (by decide) (fun _ h => h)).u2 (by decide) (by decide)
        have v7' : MV (xu2 m6 109 k (nI (dH (D0 mem) k - 1))) N (mem 48) := v6.ag ((AgM.rfl' (W := [109]) (V := [])).u2 (by simp) (by decide)) (by decide) (by simp)
        have w7 : MwD (xu2 m6 109 k (nI (dH (D0 mem) k - 1))) (ds k) := by
          rw [← hd]
          refine MwD_H b1 a7 (fun q hq => ?_)
          rw [xu2_eq]
          by_cases z : q = k
          · rw [if_pos z, z, upd_at]
          · rw [if_neg z, upd_ne z, a6.1 109 (by decide) (by decide)]; exact bH q (by omega)
        refine m227 (n := n) (g := cfD (ds k)) o hN8 (by rw [a7.2 45 (by decide), b45]) (by rw [a7.1 138 (by decide) (by decide), b138]) (by rw [a7.1 139 (by decide) (by decide), b139]) (hdN k) (MwD_Cf w7 (hdk k)) t3 v7' hw (by omega) fun r8 m8 a8 v8 => Bk.i ?_
        rw [hF]
        have e8 : m8 109 = upd (m6 109) k (nI (dH (D0 mem) k - 1)) := by rw [a8.1 109 (by decide) (by decide), xu2_eq]
        have fin : ∀ y, stB (dH (D0 mem)) F k ||| y = (stB (dH (D0 mem)) F k ||| if F k = true then nI 1 <<< (nI k &&& 31) else nI 0) → P 67 [.ref 108, .int (nI n), .int (stB (dH (D0 mem)) F k), .int (nI k)] [.int y, .int (stB (dH (D0 mem)) F k)] (0, 0) (LAY, RFu r8, m8) := fun y ey => by
          refine b228_67 hP vk vk (b228_79 hP ?_)
          rw [ck, ey, nIs]
          generalize hm9 : xu2 m8 109 k (m8 109 k + nI 1) = m9
          have e9 : m9 109 = m6 109 := by
            rw [← hm9, xu2_eq, e8, upd_at, nIs, show dH (D0 mem) k - 1 + 1 = dH (D0 mem) k by omega]
            funext q
            by_cases z : q = k
            · rw [z, upd_at]; exact e109.symm
            · rw [upd_ne z, upd_ne z]
          have a9' : AgM [109] [] m8 m9 := by rw [← hm9]; exact AgM.rfl'.u2 (by simp) (by decide)
          have a9 : AgM mtW mqV mb m9 := by
            have q : AgM (109 :: mtW) mqV mb m9 := (a7.trans (a8.mono (by decide) (fun _ h => h))).trans (a9'.mono (by simp) (by simp))
            exact q.drop (by rw [e9, a6.1 109 (by decide) (by decide)])
          exact ih r8 m9 a9 (v8.ag a9' (by decide) (by simp))
        cases hFk : F k with
        | true => exact b228_57 hP (fun z => absurd z (by decide)) (fun _ => b228_60 hP (fin _ (by rw [hFk, if_pos rfl])))
        | false => exact b228_57 hP (fun _ => b228_66 hP (fin _ (by rw [hFk, if_neg (by decide)]))) (fun z => absurd rfl z)
      · rw [ck, e109] at z
        have h0 : dH (D0 mem) k = 0 := by
          have z : nI (dH (D0 mem) k) = nI 0 := z
          exact nI_inj z (by omega) (by omega)
        rw [if_pos h0] at ih
        rw [nIs]
        exact ih r' m6 a6 v6
  · intro k hk ih m1 f1 w1
    have hk4 : k < 4 := by omega
    have ck : (nI k).toNatClampNeg = k := nIc (by omega)
    have vk : vp_in (nI k) 4 := vpn hk4 (by decide)
    obtain ⟨hk1, hk2⟩ := hH k hk4
    rw [stB_s] at ih
    refine b139_51 hP (fun z => absurd z (by rw [f1.1 5 (by decide), hR]; exact nI_ge hk (by omega))) (fun _ => b139_62 hP vk (fun z => b139_124 hP ?_) (fun z => b139_74 hP (c88T h f1 fun m2 f2 a2 t2 => Bk.v (b139_85 hP vk vk ?_))))
    · rw [ck, f1.1 6 (by decide), hk2] at z
      have h0 : dH (D0 mem) k = 0 := Decidable.by_contra fun q => nI_ge (show 0 < dH (D0 mem) k by omega) (by omega) z
      rw [if_pos h0] at ih
      rw [nIs]
      exact ih m1 f1 w1
    · rw [ck, f1.1 6 (by decide), hk2] at z
      have h0 : dH (D0 mem) k ≠ 0 := fun q => z (by rw [q]; exact Int32.le_refl _)
      rw [if_neg h0] at ih
      have e27 : m2 27 k = nI (dH (D0 mem) k) := t2.2.2.1 k hk4
      rw [ck, e27, show nI (dH (D0 mem) k) - nI 1 = nI (dH (D0 mem) k - 1) from nI_sub (by omega)]
      have t3 := TwD_H (r := k) (v := dH (D0 mem) k - 1) t2
      rw [hd] at t3
      refine c153T (D := ds k) (Or.inr rfl) h hb (f2.ag ((Ag.rfl' (W := [27])).u2 (by simp)) (by decide)) t3 (hdk k) (hdN k) (by omega) fun m4 f4 a4 e4 e48' => Bk.v (b139_107 hP (c140 (n := n) (g := cfD (ds k)) o hN8 f4 e4 (Bk.i ?_)))
      rw [hF]
      have w4 : RwC m4 [bI Y] := RwC_tr (RwC_tr (RwC_tr w1 a2 (by decide)) ((Ag.rfl' (W := [27])).u2 (by simp)) (by decide)) a4 (by decide)
      have fin : ∀ y, stB (dH (D0 mem)) F k ||| y = (stB (dH (D0 mem)) F k ||| if F k = true then nI 1 <<< (nI k &&& 31) else nI 0) → P 122 [.ref 0, .int (nI n), .int (stB (dH (D0 mem)) F k), .int (nI k)] [.int y, .int (stB (dH (D0 mem)) F k)] (0, 0) (LAY, RFu r, m4) := fun y ey => by
        refine b139_122 hP (b139_124 hP ?_)
        rw [ey, nIs]
        exact ih m4 f4 w4
      cases hFk : F k with
      | true => exact b139_112 hP (fun z => absurd z (by decide)) (fun _ => b139_115 hP (fin _ (by rw [hFk, if_pos rfl])))
      | false => exact b139_112 hP (fun _ => b139_121 hP (fin _ (by rw [hFk, if_neg (by decide)]))) (fun z => absurd rfl z)
end K
