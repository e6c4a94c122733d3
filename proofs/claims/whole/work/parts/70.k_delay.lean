/-! delay -/
theorem DOk_F {D : xD} {f : Nat → Nat} (hD : DOk D) (hf : ∀ p, f p < 24) : DOk (dsF D f) :=
  ⟨hD.1, hD.2.1, hD.2.2.1, hD.2.2.2.1, fun p => ⟨(hD.2.2.2.2.1 p).1, hf p⟩, hD.2.2.2.2.2⟩
theorem MwD_F {m m' : Nat → Nat → Int32} {D : xD} {f : Nat → Nat} (h : MwD m D) (hw : ∀ p, p < dN D → m 128 p = nI 99) (hf : ∀ p, f p < 24) (a : AgM (129 :: mtW) mqV m m') (e : ∀ p, p < dN D → m' 129 p = nI (f p)) : MwD m' (dsF D f) := by
  obtain ⟨h1, h2, h3, h4, h5, h6, h7, h8⟩ := h
  refine ⟨by rw [a.2 0 (by decide)]; exact h1, by rw [a.2 2 (by decide)]; exact h2, by rw [a.1 109 (by decide) (by decide)]; exact h3, by rw [a.1 110 (by decide) (by decide), a.1 111 (by decide) (by decide)]; exact h4, by rw [a.2 32 (by decide)]; exact h5, fun p hp => ?_, ?_, ?_⟩
  · have hp : p < dN D := hp
    obtain ⟨q1, q2, q3⟩ := h6 p hp
    rw [e p hp, a.1 113 (by decide) (by decide), a.1 128 (by decide) (by decide), a.1 112 (by decide) (by decide)]
    refine ⟨q1, ⟨f p, hf p, rfl⟩, Or.inl ⟨hw p hp, ?_⟩⟩
    rcases q3 with s | s
    · exact ⟨s.2.1, rfl, s.2.2.2⟩
    · exact absurd (hw p hp) s.1
  · unfold RuE RmT at h7 ⊢
    rw [a.1 (125 + 0) (by decide) (by decide), a.1 127 (by decide) (by decide), a.2 29 (by decide)]
    exact h7
  · unfold RuE RmT at h8 ⊢
    rw [a.1 (125 + 1) (by decide) (by decide), a.1 127 (by decide) (by decide), a.2 29 (by decide)]
    exact h8
abbrev dlT : Type := Option (Int32 × Nat)
def dl1 (F : Nat → Int32) (s : dlT) (k : Nat) : dlT := match s with
  | none => some (F k, k)
  | some v => if F k < v.1 then some (F k, k) else some v
def dlO (F : Nat → Int32) : Nat → dlT
  | 0 => none
  | k + 1 => dl1 F (dlO F k) k
theorem dl1_s {F : Nat → Int32} {s : dlT} {k : Nat} : ∃ v, dl1 F s k = some v := by
  unfold dl1
  split
  · exact ⟨_, rfl⟩
  · split
    · exact ⟨_, rfl⟩
    · exact ⟨_, rfl⟩
def dlk (b : Nat) (s : dlT) : Prop := ∀ v, s = some v → ∃ m, m ≤ b ∧ v.1 = nI m
theorem dl1_k {b : Nat} {F : Nat → Int32} {s : dlT} {k : Nat} (h : dlk b s) (hS : ∃ m, m ≤ b ∧ F k = nI m) : dlk b (dl1 F s k) := by
  intro v hv
  unfold dl1 at hv
  split at hv
  · injection hv with hv; rw [← hv]; exact hS
  · split at hv
    · injection hv with hv; rw [← hv]; exact hS
    · injection hv with hv; rw [← hv]; exact h _ rfl
def dlL (s : dlT) : Int32 := match s with | none => -1 | some v => v.1
def dlA (s : dlT) : Int32 := match s with | none => nI 0 | some v => nI v.2
def dlM (s : dlT) : Int32 := match s with | none => nI 500 | some v => v.1
section K
variable {N R B r d : Nat} {mem m' m1 m2 m3 m4 m5 : Nat → Nat → Int32} {Q : xQr}
theorem RRc_18 (h : RRc mem N R B) {p : Nat} (hp : p < 8) : mem 18 p = nI (dL (D0 mem) p) ∧ dL (D0 mem) p ≤ 24 ∧ dF (D0 mem) p = 0 ∧ mem 129 p = nI 0 ∧ (p < N → mem 113 p = nI (dL (D0 mem) p)) := by
  obtain ⟨g1, g2, g3, g4, g5, g6, g7, g8, g9⟩ := RRc_g h
  have g1 : dN (D0 mem) = N := g1
  obtain ⟨-, -, -, -, -, -, -, -, -, h10, -⟩ := h.2.2.1
  refine ⟨(g8.2.2.2.2.1 p hp).1, (g7.2.2.2.2.1 p).1, rfl, (h10 p hp).2.2, fun hN => ?_⟩
  obtain ⟨-, -, q⟩ := g9.2.2.2.2.2.1 p (by omega)
  rcases q with q | q
  · exact q.2.1
  · exact absurd (h10 p hp).2.1 q.1
theorem tk_delay (x y : Int32) : Tk 131 219 [.int x, .int y] := by
  intro N R B r mem Q h hB K
  obtain ⟨hR, hR4, hN, hN8, hR2, hN2⟩ := (RTo_parts h.2.2.1).1
  obtain ⟨g1, g2, g3, g4, g5, g6, g7, g8, g9⟩ := RRc_g h
  have gN : dN (D0 mem) = N := g1
  have hb : B < 500000000 := by omega
  have no : ((∀ p, p < N → x ≠ nI p) ∨ (∀ s, 0 ≤ s → s ≤ 100 → y ≠ nI s)) → Q (some (.int (-1))) (LAY, RFu r, mem) := fun hno => by
    refine K _ _ ?_
    intro Q2 k2
    refine c_in rfl rfl rfl fun P hP => ?_
    have f : ∀ v0 v1 v2 v3 v4 v5, P 23 [v0, v1, v2, v3, v4, v5] [] (0, 0) (LAY, RFu r, xu2 mem 108 20 (nI 0)) := fun _ _ _ _ _ _ => b219_23 hP (k2 _ _ (kEnd (kM20 h) hB))
    refine b219_0 hP (c162 (N := N) (by rw [e20 (by decide), hN2]) (by omega) (fun _ => Bk.i (b219_10 hP (fun _ => f _ _ _ _ _ _) (fun z => absurd rfl z))) (fun p hp ep => Bk.i (b219_10 hP (fun z => absurd z (by decide)) (fun _ => b219_13 hP (c158r (a := 0) (b := 100) (by decide) (by decide) (fun _ => Bk.i (b219_20 hP (fun z => absurd rfl z) (fun _ => f _ _ _ _ _ _))) (fun s hs1 hs2 es => ?_))))))
    rcases hno with q | q
    · exact absurd ep (q p hp)
    · exact absurd es (q s hs1 hs2)
  refine c_in rfl rfl rfl fun P hP => b131_0 hP (c83 (Or.inl rfl) hN (by omega) (fun hp => Bk.i (b131_8 hP (fun _ => b131_21 hP (no (Or.inl hp))) (fun z => absurd rfl z))) (fun p hp ep => Bk.i (b131_8 hP (fun z => absurd z (by decide)) (fun _ => b131_11 hP (c151 (a := 0) (b := 100) (by decide) (by decide) (fun hs => Bk.i (b131_18 hP (fun z => absurd rfl z) (fun _ => b131_21 hP (no (Or.inr hs))))) (fun n hn1 hn2 en => Bk.i (b131_18 hP (fun _ => ?_) (fun z => absurd z (by decide)))))))))
  subst ep
  subst en
  have vp : vp_in (nI p) 8 := vpn (by omega) (by decide)
  have cp : (nI p).toNatClampNeg = p := nIc (by omega)
  obtain ⟨s1, s2, s3, s4, s5⟩ := RRc_18 h (p := p) (by omega)
  have s5 := s5 hp
  generalize hL : dL (D0 mem) p = L at s1 s2 s5
  refine b131_23 hP vp (fun h2 => ?_) (fun h2 => b131_35 hP (K _ _ ?_))
  rotate_left
  · rw [cp, s1] at h2
    intro Q2 k2
    exact c_in rfl rfl rfl fun P hP => b219_0 hP (c162 (N := N) (by rw [e20 (by decide), hN2]) (by omega) (fun q => absurd rfl (q p hp)) (fun _ _ _ => Bk.i (b219_10 hP (fun z => absurd z (by decide)) (fun _ => b219_13 hP (c158r (a := 0) (b := 100) (by decide) (by decide) (fun q => absurd rfl (q n hn1 hn2)) (fun _ _ _ _ => Bk.i (b219_20 hP (fun _ => b219_25 hP vp (fun z => absurd h2 (by rw [cp, xu2_ne (by decide), s5] at z; exact z)) (fun _ => b219_34 hP (k2 _ _ (kEnd (kM20 h) hB)))) (fun z => absurd z (by decide)))))))))
  rw [cp, s1] at h2
  have hL1 : 0 < L := Nat.pos_of_ne_zero fun q => h2 (by rw [q]; rfl)
  generalize hF0 : (fun k => stD (cfD (dsF (D0 mem) (fun q => if q = p then k else dF (D0 mem) q))) (mem 48) n p) = F
  have hF : ∀ k, stD (cfD (dsF (D0 mem) (fun q => if q = p then k else dF (D0 mem) q))) (mem 48) n p = F k := fun k => by rw [← hF0]
  have hFk : ∀ k, ∃ m, m ≤ 100 ∧ F k = nI m := fun k => by
    obtain ⟨m, q1, q2, -⟩ := stD_nI (f := cfD (dsF (D0 mem) (fun q => if q = p then k else dF (D0 mem) q))) (c := mem 48) (n := n) (p := p) (by omega) (show dN (D0 mem) ≤ 8 by omega)
    exact ⟨m, by omega, by rw [← hF]; exact q2⟩
  have hfo : ∀ k, k < 24 → ∀ q, (if q = p then k else dF (D0 mem) q) < 24 := fun k hk q => by
    by_cases z : q = p
    · rw [if_pos z]; exact hk
    · rw [if_neg z]; exact (g7.2.2.2.2.1 q).2
  obtain ⟨vL, hvL⟩ : ∃ v, dlO F L = some v := by
    obtain ⟨L', rfl⟩ : ∃ L', L = L' + 1 := ⟨L - 1, by omega⟩
    exact dl1_s
  have hqL : ∀ k, dlk 100 (dlO F k) := fun k => by
    induction k with
    | zero => intro v hv; cases hv
    | succ k ih => exact dl1_k ih (hFk k)
  refine b131_38 hP (c88T h (TI0 h) fun m0 f0 a0 t0 => Bk.v (b131_54 hP ?_))
  have key := xloop (N := L) (G := fun k => ∀ m', TI mem m' → (∃ w, TwD m' 26 (dsF (D0 mem) (fun q => if q = p then w else dF (D0 mem) q))) → P 57 [.ref 0, .int (nI p), .int (nI n), .int (dlL (dlO F k)), .int (dlA (dlO F k)), .int (nI k)] [] (0, 0) (LAY, RFu r, m')) ?_ ?_
  · refine key m0 f0 ⟨dF (D0 mem) p, ?_⟩
    have e : (fun q => if q = p then dF (D0 mem) p else dF (D0 mem) q) = dF (D0 mem) := by
      funext q
      by_cases z : q = p
      · rw [if_pos z, z]
      · rw [if_neg z]
    rw [e]
    exact t0
  · intro m1 f1 _
    rw [hvL]
    refine b131_57 hP vp (fun _ => b131_121 hP (c31 fun m2 a2 w2 => Bk.v (b131_128 hP (c32 w2 (by decide) fun m3 a3 w3 => Bk.v (b131_137 hP (K _ _ ?_)))))) (fun z => absurd (Int32.le_refl _) (by rw [cp, f1.1 18 (by decide), s1] at z; exact z))
    intro Q2 k2
    obtain ⟨t1, t2, t3, t4⟩ := TI_M h f1
    have a13 : Ag [3, 4] m1 m3 := (a2.mono (by decide)).trans a3
    have a12 := Ag.M a13 (by decide)
    have b1 : MwD (xu2 m3 108 20 (nI 0)) (D0 mem) := MwD_ag (MwD_ag t1 a12 (by decide) (by decide)) th20 (by simp) (by decide)
    have b2 : MV (xu2 m3 108 20 (nI 0)) N (mem 48) := (t2.ag a12 (by decide) (by simp)).ag th20 (by simp) (by decide)
    have b4 : ∀ p, p < 8 → xu2 m3 108 20 (nI 0) 128 p = nI 99 := fun p hp => by rw [xu2_ne (by decide), a13 128 (by decide)]; exact t4 p hp
    have bN : xu2 m3 108 20 (nI 0) 108 2 = nI N := by rw [b1.2.1, gN]
    have bL : xu2 m3 108 20 (nI 0) 113 p = nI L := by rw [xu2_ne (by decide), a13 113 (by decide), f1.1 113 (by decide)]; exact s5
    have bF : ∀ q, q < 8 → xu2 m3 108 20 (nI 0) 129 q = nI (dF (D0 mem) q) := fun q hq => by
      obtain ⟨-, -, u1, u2, -⟩ := RRc_18 h hq
      rw [xu2_ne (by decide), a13 129 (by decide), f1.1 129 (by decide), u1]; exact u2
    refine c_in rfl rfl rfl fun P hP => b219_0 hP ?_
    generalize hm2 : xu2 m3 108 20 (nI 0) = mb at b1 b2 b4 bN bL bF
    refine c162 (N := N) bN (by omega) (fun q => absurd rfl (q p hp)) (fun _ _ _ => Bk.i (b219_10 hP (fun z => absurd z (by decide)) (fun _ => b219_13 hP (c158r (a := 0) (b := 100) (by decide) (by decide) (fun q => absurd rfl (q n hn1 hn2)) (fun _ _ _ _ => Bk.i (b219_20 hP (fun _ => b219_25 hP vp (fun _ => b219_37 hP ?_) (fun z => absurd (by rw [cp, bL] at z; exact z) h2)) (fun z => absurd z (by decide))))))))
    have key2 := xloop (N := L) (G := fun k => ∀ r' m', AgM (129 :: mtW) mqV mb m' → MV m' N (mem 48) → (∀ q, q ≠ p → m' 129 q = mb 129 q) → P 47 [.ref 108, .int (nI p), .int (nI n), .int (dlA (dlO F k)), .int (dlM (dlO F k)), .int (nI k)] [] (0, 0) (LAY, RFu r', m')) ?_ ?_
    · exact key2 r mb AgM.rfl' b2 (fun _ _ => rfl)
    · intro r' m4 a4 v4 u4
      rw [hvL]
      refine b219_47 hP vp (fun _ => b219_107 hP vp ?_) (fun z => absurd (Int32.le_refl _) (by rw [cp, a4.1 113 (by decide) (by decide), bL] at z; exact z))
      rw [cp]
      have a5 : AgM (129 :: mtW) mqV mb (xu2 m4 129 p (nI 0)) := a4.u2 (by decide) (by decide)
      have e129 : xu2 m4 129 p (nI 0) 129 = mb 129 := by
        rw [xu2_eq]
        funext q
        by_cases z : q = p
        · obtain ⟨-, -, u1, -⟩ := RRc_18 h (p := p) (by omega)
          rw [z, upd_at, bF p (by omega), u1]
        · rw [upd_ne z]; exact u4 q z
      have a6 := a5.drop e129
      have a19 : AgM [] [19] (xu2 m4 129 p (nI 0)) (xu2 (xu2 m4 129 p (nI 0)) 108 19 (nI 0)) := AgM.rfl'.us (by simp)
      have v5 : MV (xu2 m4 129 p (nI 0)) N (mem 48) := v4.ag ((AgM.rfl' (W := [129]) (V := [])).u2 (by simp) (by decide)) (by decide) (by simp)
      refine c161 (xs := []) (RwM_nil (by rw [xu2_eq, upd_at])) (by decide) fun m6 a7 w6 => Bk.v (b219_124 hP (k2 _ _ (kEnd (N := N) (R := R) ?_ hB)))
      have aa : AgM (123 :: mtW) (19 :: mqV) mb m6 := ((a6.mono (by decide) (by decide)).trans (a19.mono (by simp) (by simp))).trans (a7.mono (by simp) (by simp))
      rw [← hm2] at aa
      exact kT1 h f1 a13 w3 (t20 aa) ((v5.ag a19 (by simp) (by decide)).ag a7 (by decide) (by decide)) w6
    · intro k hk ih r' m4 a4 v4 u4
      refine b219_47 hP vp (fun z => absurd z (by rw [cp, a4.1 113 (by decide) (by decide), bL]; exact nI_ge hk (by omega))) (fun _ => b219_58 hP vp ?_)
      rw [cp]
      have a5 : AgM (129 :: mtW) mqV mb (xu2 m4 129 p (nI k)) := a4.u2 (by decide) (by decide)
      have v5 : MV (xu2 m4 129 p (nI k)) N (mem 48) := v4.ag ((AgM.rfl' (W := [129]) (V := [])).u2 (by simp) (by decide)) (by decide) (by simp)
      have w5 : MwD (xu2 m4 129 p (nI k)) (dsF (D0 mem) (fun q => if q = p then k else dF (D0 mem) q)) := MwD_F b1 (fun p hp => b4 p (by omega)) (hfo k (by omega)) a5 (fun q hq => by
        rw [xu2_eq]
        by_cases z : q = p
        · rw [if_pos z, z, upd_at]
        · rw [if_neg z, upd_ne z, u4 q z]; exact bF q (by omega))
      refine m222 (g := cfD (dsF (D0 mem) (fun q => if q = p then k else dF (D0 mem) q))) (Or.inr rfl) (MwD_Cf w5 (DOk_F g7 (hfo k (by omega)))) (by show PV (dN (D0 mem)) _; rw [gN]; exact t3) (by show MV _ (dN (D0 mem)) _; rw [gN]; exact v5) (let ⟨now, w1, w2⟩ := h.2.2.2.1.2.now; ⟨now, by omega, w2⟩) (by omega) fun r4 m5 a6 v6 e6 _ => Bk.i ?_
      have v6 : MV m5 (dN (D0 mem)) (mem 48) := v6
      rw [gN] at v6
      have e6 : m5 137 p = F k := by rw [e6 p (by show p < dN (D0 mem); omega), hF]
      have a7 : AgM (129 :: mtW) mqV mb m5 := a5.trans (a6.mono (by decide) (by decide))
      have u5 : ∀ q, q ≠ p → m5 129 q = mb 129 q := fun q z => by rw [a6.1 129 (by decide) (by decide), xu2_eq, upd_ne z]; exact u4 q z
      have go := ih r4 m5 a7 v6 u5
      have hex : dlO F (k + 1) = dl1 F (dlO F k) k := rfl
      rw [hex] at go
      have rep : dl1 F (dlO F k) k = some (F k, k) → ∀ v3 v4, P 90 [.ref 108, .int (nI p), .int (nI n), v3, v4, .int (nI k)] [] (0, 0) (LAY, RFu r4, m5) := fun he v3 v4 => by
        refine b219_90 hP vp (b219_101 hP ?_)
        rw [nIs, cp, e6]
        rw [he] at go
        exact go
      cases hs' : dlO F k with
      | none =>
        rw [hs'] at rep
        obtain ⟨m, q1, q2⟩ := hFk k
        refine b219_75 hP vp (fun _ => rep rfl _ _) (fun z => absurd (show m5 137 (nI p).toNatClampNeg < nI 500 from ?_) z)
        rw [cp, e6, q2]
        exact nI_lt (by omega) (by omega)
      | some v =>
        refine b219_75 hP vp (fun z => ?_) (fun z => b219_87 hP (b219_101 hP ?_))
        · rw [cp, e6] at z
          have z : F k < v.1 := z
          rw [hs'] at rep
          exact rep (if_pos z) _ _
        · rw [cp, e6] at z
          have z : ¬ F k < v.1 := z
          have he : dl1 F (dlO F k) k = some v := by rw [hs']; exact if_neg z
          rw [nIs]
          rw [he] at go
          exact go
  · intro k hk ih m1 f1 ⟨w, t1⟩
    have e1 : (fun x => if x = p then k else dF (dsF (D0 mem) (fun q => if q = p then w else dF (D0 mem) q)) x) = fun q => if q = p then k else dF (D0 mem) q := by
      funext q
      by_cases z : q = p
      · rw [if_pos z, if_pos z]
      · rw [if_neg z, if_neg z]
        exact if_neg z
    refine b131_57 hP vp (fun z => absurd z (by rw [cp, f1.1 18 (by decide), s1]; exact nI_ge hk (by omega))) (fun _ => b131_71 hP vp ?_)
    rw [cp]
    have t2 : TwD (xu2 m1 40 p (nI k)) 26 (dsF (D0 mem) (fun q => if q = p then k else dF (D0 mem) q)) := by
      have t2 := TwD_F (D := dsF (D0 mem) (fun q => if q = p then w else dF (D0 mem) q)) (r := p) (v := k) (show dN (D0 mem) ≤ 8 by omega) t1
      rw [e1] at t2
      exact t2
    refine c153T (D := dsF (D0 mem) (fun q => if q = p then k else dF (D0 mem) q)) (Or.inr rfl) h hb (f1.ag ((Ag.rfl' (W := [40])).u2 (by simp)) (by decide)) t2 (DOk_F g7 (hfo k (by omega))) gN (by omega) fun m4 f4 a4 e4 e48 => Bk.v ?_
    have t4 := TwD_26 (D := dsF (D0 mem) (fun q => if q = p then k else dF (D0 mem) q)) (show dN (D0 mem) ≤ 8 by omega) t2 a4
    have go := ih m4 f4 ⟨k, t4⟩
    have hex : dlO F (k + 1) = dl1 F (dlO F k) k := rfl
    rw [hex] at go
    have st : ∀ {Q : xQr} {d : Nat}, Q (some (.int (F k))) (LAY, RFu r, m4) → xCall (d + 1) 154 [.ref 0, .int (nI p)] (LAY, RFu r, m4) Q := fun kk => c154 (g := cfD (dsF (D0 mem) (fun q => if q = p then k else dF (D0 mem) q))) (by omega) e4 (by rw [e48, hF]; exact kk)
    have rep : dl1 F (dlO F k) k = some (F k, k) → ∀ v3 v4, P 105 [.ref 0, .int (nI p), .int (nI n), v3, v4, .int (nI k)] [] (0, 0) (LAY, RFu r, m4) := fun he v3 v4 => by
      refine b131_105 hP (st (Bk.i (b131_110 hP (b131_115 hP ?_))))
      rw [nIs]
      rw [he] at go
      exact go
    cases hs' : dlO F k with
    | none =>
      rw [hs'] at rep
      exact b131_91 hP (fun _ => rep rfl _ _) (fun z => absurd rfl z)
    | some v =>
      obtain ⟨m, q1, q2⟩ := hqL k v hs'
      refine b131_91 hP (fun z => absurd z (by show v.1 ≠ -1; rw [q2]; exact nI_nm (by omega))) (fun _ => b131_96 hP (st (Bk.i (b131_101 hP (fun z => b131_115 hP ?_) (fun z => ?_)))))
      · have z : v.1 ≤ F k := z
        have he : dl1 F (dlO F k) k = some v := by rw [hs']; exact if_neg (Int32.not_lt.mpr z)
        rw [nIs]
        rw [he] at go
        exact go
      · have z : ¬ v.1 ≤ F k := z
        rw [hs'] at rep
        exact rep (if_pos (Int32.not_le.mp z)) _ _
end K
