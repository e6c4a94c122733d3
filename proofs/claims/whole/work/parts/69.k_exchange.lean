/-! exchange -/
theorem DOk_W {D : xD} {a b : Nat} (hD : DOk D) (ha : a < dN D) (hb : b < dN D) : DOk (dsW D a b) :=
  ⟨hD.1, hD.2.1, hD.2.2.1, hD.2.2.2.1, fun p => ⟨(hD.2.2.2.2.1 (swp a b p)).1, (hD.2.2.2.2.1 p).2⟩, fun _ hp k hk => hD.2.2.2.2.2 _ (swp_lt ha hb hp) k hk⟩
theorem MwD_W {m m' : Nat → Nat → Int32} {D : xD} {a b : Nat} (h : MwD m D) (hw : ∀ p, p < dN D → m 128 p = nI 99) (ha : a < dN D) (hb : b < dN D) (hN : dN D ≤ 8) (hL : ∀ p, dL D p ≤ 24) (hA : AgM [112, 113] [] m m') (e1 : ∀ p, p < 8 → m' 113 p = m 113 (swp a b p)) (e2 : ∀ p, p < 8 → ∀ k, k < 24 → m' 112 (24 * p + k) = m 112 (24 * swp a b p + k)) : MwD m' (dsW D a b) := by
  obtain ⟨h1, h2, h3, h4, h5, h6, h7, h8⟩ := h
  have e : ∀ x, x ∉ [112, 113] → x ≠ 108 → m' x = m x := hA.1
  refine ⟨by rw [hA.2 0 (by simp)]; exact h1, by rw [hA.2 2 (by simp)]; exact h2, by rw [e 109 (by decide) (by decide)]; exact h3, by rw [e 110 (by decide) (by decide), e 111 (by decide) (by decide)]; exact h4, by rw [hA.2 32 (by simp)]; exact h5, fun p hp => ?_, ?_, ?_⟩
  · have hp : p < dN D := hp
    have hs := swp_lt ha hb hp
    obtain ⟨q1, q2, q3⟩ := h6 p hp
    obtain ⟨s1, -, s3⟩ := h6 _ hs
    rw [e1 p (by omega), e 129 (by decide) (by decide), e 128 (by decide) (by decide)]
    refine ⟨s1, q2, Or.inl ⟨hw p hp, ?_, ?_, fun k hk => ?_⟩⟩
    · rcases s3 with s | s
      · exact s.2.1
      · exact absurd (hw _ hs) s.1
    · rcases q3 with s | s
      · exact s.2.2.1
      · exact absurd (hw _ hp) s.1
    · have hk : k < dL D (swp a b p) := hk
      rw [e2 p (by omega) k (by have := hL (swp a b p); omega)]
      rcases s3 with s | s
      · exact s.2.2.2 k hk
      · exact absurd (hw _ hs) s.1
  · unfold RuE RmT at h7 ⊢
    rw [e (125 + 0) (by decide) (by decide), e 127 (by decide) (by decide), hA.2 29 (by simp)]
    exact h7
  · unfold RuE RmT at h8 ⊢
    rw [e (125 + 1) (by decide) (by decide), e 127 (by decide) (by decide), hA.2 29 (by simp)]
    exact h8
abbrev exT : Type := Option (Int32 × Nat × Nat)
def ex1 (S : Nat → Nat → Int32) (s : exT) (a b : Nat) : exT := match s with
  | none => some (S a b, a, b)
  | some v => if S a b < v.1 then some (S a b, a, b) else some v
def exI (S : Nat → Nat → Int32) (i : Nat) (s : exT) : Nat → exT
  | 0 => s
  | k + 1 => ex1 S (exI S i s k) i (i + 1 + k)
def exO (S : Nat → Nat → Int32) (N : Nat) : Nat → exT
  | 0 => none
  | i + 1 => exI S i (exO S N i) (N - (i + 1))
def exk (s : exT) : Prop := ∀ v, s = some v → v.2.1 < 8 ∧ ∃ m, m ≤ 8000 ∧ v.1 = nI m
def exL (s : exT) : Int32 := match s with | none => -1 | some v => v.1
theorem ex1_s {S : Nat → Nat → Int32} {s : exT} {a b : Nat} : ∃ v, ex1 S s a b = some v := by
  unfold ex1
  split
  · exact ⟨_, rfl⟩
  · split
    · exact ⟨_, rfl⟩
    · exact ⟨_, rfl⟩
theorem exI_s {S : Nat → Nat → Int32} {i : Nat} {s : exT} : ∀ k, (0 < k ∨ ∃ v, s = some v) → ∃ v, exI S i s k = some v
  | 0, h => h.elim (fun z => absurd z (by decide)) id
  | _ + 1, _ => ex1_s
theorem exO_s {S : Nat → Nat → Int32} {N : Nat} (hN : 2 ≤ N) : ∀ i, 0 < i → ∃ v, exO S N i = some v
  | 0, h => absurd h (by decide)
  | 1, _ => exI_s (N - 1) (Or.inl (by omega))
  | i + 2, _ => exI_s _ (Or.inr (exO_s hN (i + 1) (by omega)))
theorem ex1_k {S : Nat → Nat → Int32} {s : exT} {a b : Nat} (h : exk s) (ha : a < 8) (hS : ∃ m, m ≤ 8000 ∧ S a b = nI m) : exk (ex1 S s a b) := by
  intro v hv
  unfold ex1 at hv
  split at hv
  · injection hv with hv; rw [← hv]; exact ⟨ha, hS⟩
  · split at hv
    · injection hv with hv; rw [← hv]; exact ⟨ha, hS⟩
    · injection hv with hv; rw [← hv]; exact h _ rfl
def exRow (s : exT) (m : Nat → Nat → Int32) : Prop := ∀ v, s = some v → RwC m [nI v.2.1, nI v.2.2]
section K
variable {N R B r d : Nat} {mem m' m1 m2 : Nat → Nat → Int32} {Q : xQr}
theorem RRc_free (h : RRc mem N R B) : ∀ p, p < 8 → mem 128 p = nI 99 := by
  obtain ⟨-, -, -, -, -, -, -, -, -, h10, -⟩ := h.2.2.1
  intro p hp
  exact (h10 p hp).2.1
theorem Ag.M {W : List Nat} (a : Ag W mem m1) (h : 108 ∉ W) : AgM W [] mem m1 := ⟨fun c hc _ => a c hc, fun j _ => by rw [a 108 h]⟩
theorem TI_M (h : RRc mem N R B) (f : TI mem m') : MwD m' (D0 mem) ∧ MV m' N (mem 48) ∧ PV N (mem 48) ∧ (∀ p, p < 8 → m' 128 p = nI 99) := by
  obtain ⟨g1, -, -, -, -, -, g7, g8, g9⟩ := RRc_g h
  obtain ⟨hM, hS⟩ := h.2.2.2.1
  have a := Ag.M f.1 (by decide)
  exact ⟨MwD_ag g9 a (by decide) (by decide), hM.ag a (by decide) (by decide), hS.1, fun p hp => by rw [f.1 128 (by decide)]; exact RRc_free h p hp⟩
end K
def exS (mem : Nat → Nat → Int32) (n a b : Nat) : Int32 := stA (cfD (dsW (D0 mem) a b)) (mem 48) n
section K
variable {N R B r d : Nat} {mem m' m1 m2 m3 m4 m5 : Nat → Nat → Int32} {Q : xQr}
theorem mSwap {i j : Nat} (hi : i < 8) (hj : j < 8) (a3 : AgM [112, 113] [] m' m3) (s1 : ∀ p, p < 8 → m3 113 p = m' 113 (swp i j p)) (s2 : ∀ p, 8 ≤ p → m3 113 p = m' 113 p) (s3 : ∀ p, p < 8 → ∀ k, k < 24 → m3 112 (24 * p + k) = m' 112 (24 * swp i j p + k)) (s4 : ∀ i, 192 ≤ i → m3 112 i = m' 112 i) (a4 : AgM mtW mqV m3 m4)
    (a5 : AgM [112, 113] [] m4 m5) (u1 : ∀ p, p < 8 → m5 113 p = m4 113 (swp i j p)) (u2 : ∀ p, 8 ≤ p → m5 113 p = m4 113 p) (u3 : ∀ p, p < 8 → ∀ k, k < 24 → m5 112 (24 * p + k) = m4 112 (24 * swp i j p + k)) (u4 : ∀ i, 192 ≤ i → m5 112 i = m4 112 i) : AgM mtW mqV m' m5 := by
  rw [a4.1 113 (by decide) (by decide)] at u1 u2
  rw [a4.1 112 (by decide) (by decide)] at u3 u4
  have e113 := swap2 hi hj s1 s2 u1 u2
  have e112 := swap24 hi hj s3 s4 u3 u4
  have a : AgM (112 :: 113 :: mtW) mqV m' m5 := ((a3.mono (by decide) (by simp)).trans (a4.mono (by decide) (by decide))).trans (a5.mono (by decide) (by simp))
  exact (a.drop e112).drop e113
/-- the reference's: two exchange, quarters pass, and back again -/
def exA (s : exT) : Int32 := match s with | none => -1 | some v => nI v.2.1
def exB (s : exT) : Int32 := match s with | none => -1 | some v => nI v.2.2
def exl (s : exT) : Int32 := match s with | none => nI 0 | some v => v.1
theorem tk_exchange (x : Int32) : Tk 130 218 [.int x] := by
  intro N R B r mem Q h hB K
  obtain ⟨hR, hR4, hN, hN8, hR2, hN2⟩ := (RTo_parts h.2.2.1).1
  obtain ⟨g1, g2, g3, g4, g5, g6, g7, g8, g9⟩ := RRc_g h
  have gN : dN (D0 mem) = N := g1
  have hb : B < 500000000 := by omega
  refine c_in rfl rfl rfl fun P hP => b130_0 hP (c151 (a := 0) (b := 100) (by decide) (by decide) (fun hno => Bk.i (b130_7 hP (fun z => absurd rfl z) (fun _ => b130_10 hP (K _ _ ?_)))) (fun n hn1 hn2 en => Bk.i (b130_7 hP (fun _ => b130_12 hP (fun h2 => ?_) (fun h2 => b130_23 hP (K _ _ ?_))) (fun z => absurd z (by decide)))))
  · intro Q2 k2
    exact c_in rfl rfl rfl fun P hP => b218_0 hP (c158r (a := 0) (b := 100) (by decide) (by decide) (fun _ => Bk.i (b218_12 hP (fun z => absurd rfl z) (fun _ => b218_15 hP (k2 _ _ (kEnd (kM20 h) hB))))) (fun n h1 h2 e => absurd e (hno n h1 h2)))
  rotate_left
  · intro Q2 k2
    subst en
    exact c_in rfl rfl rfl fun P hP => b218_0 hP (c158r (a := 0) (b := 100) (by decide) (by decide) (fun q => absurd rfl (q n hn1 hn2)) (fun _ _ _ _ => Bk.i (b218_12 hP (fun _ => b218_17 hP (fun z => absurd (by rw [e20 (by decide), hN2] at z; rw [hN]; exact z) h2) (fun _ => b218_25 hP (k2 _ _ (kEnd (kM20 h) hB)))) (fun z => absurd z (by decide)))))
  subst en
  have h2N : 2 ≤ N := Decidable.by_contra fun q => by rw [hN] at h2; exact nI_ge (by omega) (by omega) h2
  generalize hS0 : exS mem n = S
  have hS : ∀ a b, S a b = stA (cfD (dsW (D0 mem) a b)) (mem 48) n := fun a b => by rw [← hS0]; rfl
  have hSk : ∀ a b, ∃ m, m ≤ 8000 ∧ S a b = nI m := fun a b => by
    obtain ⟨m, q1, q2⟩ := stA_nI (f := cfD (dsW (D0 mem) a b)) (c := mem 48) (n := n) (show dN (D0 mem) ≤ 8 by omega)
    exact ⟨m, by omega, by rw [hS]; exact q2⟩
  generalize hY : stA (gD mem) (mem 48) n = Y
  refine b130_26 hP (c153T (D := D0 mem) (Or.inl rfl) h hb (TI0 h) g8 g7 gN (by omega) fun m0 f0 a0 e0 e48 => Bk.v (b130_35 hP (c155 (g := gD mem) (show dN (D0 mem) ≤ 8 by omega) e0 (Bk.i (b130_39 hP ?_)))))
  rw [e48, hY]
  have inner : ∀ i, i < N → ∀ s, exk s → (∀ v5 v6 m2, TI mem m2 → exRow (exI S i s (N - (i + 1))) m2 → exk (exI S i s (N - (i + 1))) → P 157 [.ref 0, .int (nI n), .int Y, .int (exL (exI S i s (N - (i + 1)))), .int (nI i), v5, v6] [] (0, 0) (LAY, RFu r, m2)) → ∀ v6 m', TI mem m' → exRow s m' → P 63 [.ref 0, .int (nI n), .int Y, .int (exL s), .int (nI i), .int (nI (i + 1)), v6] [] (0, 0) (LAY, RFu r, m') := by
    intro i hi s hs kk
    have key := xloop (N := N - (i + 1)) (G := fun k => ∀ v6 m', TI mem m' → exRow (exI S i s k) m' → exk (exI S i s k) → P 63 [.ref 0, .int (nI n), .int Y, .int (exL (exI S i s k)), .int (nI i), .int (nI (i + 1 + k)), v6] [] (0, 0) (LAY, RFu r, m')) ?_ ?_
    · exact fun v6 m' f rw' => key v6 m' f rw' hs
    · intro v6 m' f w q
      refine b130_63 hP (fun _ => kk _ _ m' f w q) (fun z => absurd (Int32.le_refl _) (by rw [f.1 5 (by decide), hN, show i + 1 + (N - (i + 1)) = N by omega] at z; exact z))
    · intro k hk ih v6 m' f w q
      have hj : i + 1 + k < N := by omega
      generalize ej : i + 1 + k = j at hj
      have hex : exI S i s (k + 1) = ex1 S (exI S i s k) i j := by rw [← ej]; rfl
      rw [hex, show i + 1 + (k + 1) = j + 1 by omega] at ih
      refine b130_63 hP (fun z => absurd z (by rw [f.1 5 (by decide), hN]; exact nI_ge hj (by omega))) (fun _ => b130_75 hP (c88T h f fun m2 f2 a2 t2 => Bk.v (b130_86 hP (c92 (Or.inr rfl) (by omega) (by omega) (by omega) fun m3 a3 e1 e2 => Bk.v (b130_97 hP ?_)))))
      have a3' : Ag [31, 32, 33, 34, 35, 36, 37, 38, 39] m2 m3 := a3.mono (by intro c hc; simp at hc ⊢; omega)
      refine c153T (D := dsW (D0 mem) i j) (Or.inr rfl) h hb (f2.ag a3' (by decide)) (TwD_W t2 (by omega) (by omega) (by omega) (fun p => (g7.2.2.2.2.1 p).1) a3 e1 e2) (DOk_W g7 (by omega) (by omega)) gN (by omega) fun m4 f4 a4 e4 e48' => Bk.v (b130_106 hP (c155 (g := cfD (dsW (D0 mem) i j)) (show dN (D0 mem) ≤ 8 by omega) e4 (Bk.i ?_)))
      rw [e48', ← hS]
      have w4 : exRow (exI S i s k) m4 := fun v hv => (w v hv).mv ⟨fun c hc => by
        have h1 : ∀ c ∈ [3, 4], c ∉ [50, 52, 53, 54, 26 + 17, 26 + 20] ∧ c ∉ [31, 32, 33, 34, 35, 36, 37, 38, 39] ∧ c ∉ trC := by decide
        obtain ⟨q1, q2, q3⟩ := h1 c hc
        rw [a4 c q1, a3' c q2, a2 c q3], fun j hj => by cases hj⟩
      have rep : ex1 S (exI S i s k) i j = some (S i j, i, j) → ∀ v3, P 123 [.ref 0, .int (nI n), .int Y, v3, .int (nI i), .int (nI j), .int (S i j)] [] (0, 0) (LAY, RFu r, m4) := fun he v3 => by
        refine b130_123 hP (c31 fun m5 a5 w5 => Bk.v (b130_133 hP (c32 w5 (by decide) fun m6 a6 w6 => Bk.v (b130_142 hP (c32 w6 (by simp) fun m7 a7 w7 => Bk.v (b130_151 hP ?_))))))
        rw [nIs]
        have := ih (.int (S i j)) m7 (((f4.ag a5 (by decide)).ag a6 (by decide)).ag a7 (by decide)) (by rw [he]; intro v hv; injection hv with hv; rw [← hv]; exact w7) (ex1_k q (by omega) (hSk i j))
        rw [he] at this
        exact this
      cases hs' : exI S i s k with
      | none =>
        rw [hs'] at rep
        exact b130_110 hP (fun _ => rep rfl _) (fun z => absurd rfl z)
      | some v =>
        obtain ⟨-, m, q1, q2⟩ := q v hs'
        refine b130_110 hP (fun z => absurd z (by show v.1 ≠ -1; rw [q2]; exact nI_nm (by omega))) (fun _ => b130_117 hP (fun z => b130_151 hP ?_) (fun z => ?_))
        · have z : v.1 ≤ S i j := z
          have he : ex1 S (exI S i s k) i j = some v := by rw [hs']; exact if_neg (Int32.not_lt.mpr z)
          rw [nIs]
          have := ih (.int (S i j)) m4 f4 (by rw [he, ← hs']; exact w4) (ex1_k q (by omega) (hSk i j))
          rw [he] at this
          exact this
        · have z : ¬ v.1 ≤ S i j := z
          rw [hs'] at rep
          exact rep (if_pos (Int32.not_le.mp z)) _
  have key := xloop (N := N) (G := fun i => ∀ v5 v6 m', TI mem m' → exRow (exO S N i) m' → exk (exO S N i) → P 45 [.ref 0, .int (nI n), .int Y, .int (exL (exO S N i)), .int (nI i), v5, v6] [] (0, 0) (LAY, RFu r, m')) ?_ ?_
  · exact key _ _ m0 f0 (fun v hv => by cases hv) (fun v hv => by cases hv)
  · intro v5 v6 m1 f1 w1 q1
    obtain ⟨v, hv⟩ := exO_s (S := S) h2N N (by omega)
    rw [hv]
    refine b130_45 hP (fun _ => b130_163 hP (c32 (w1 v hv) (by simp) fun m2 a2 w2 => Bk.v (b130_173 hP (K _ _ ?_)))) (fun z => absurd (Int32.le_refl _) (by rw [f1.1 5 (by decide), hN] at z; exact z))
    intro Q2 k2
    obtain ⟨t1, t2, t3, t4⟩ := TI_M h f1
    have a12 := Ag.M a2 (by decide)
    have b1 : MwD (xu2 m2 108 20 (nI 0)) (D0 mem) := MwD_ag (MwD_ag t1 a12 (by decide) (by decide)) th20 (by simp) (by decide)
    have b2 : MV (xu2 m2 108 20 (nI 0)) N (mem 48) := (t2.ag a12 (by decide) (by simp)).ag th20 (by simp) (by decide)
    have b4 : ∀ p, p < 8 → xu2 m2 108 20 (nI 0) 128 p = nI 99 := fun p hp => by rw [xu2_ne (by decide), a2 128 (by decide)]; exact t4 p hp
    have bN : xu2 m2 108 20 (nI 0) 108 2 = nI N := by rw [b1.2.1, gN]
    refine c_in rfl rfl rfl fun P hP => b218_0 hP (c158r (a := 0) (b := 100) (by decide) (by decide) (fun q => absurd rfl (q n hn1 hn2)) (fun _ _ _ _ => Bk.i (b218_12 hP (fun _ => b218_17 hP (fun _ => b218_28 hP ?_) (fun z => absurd (by rw [bN]; rw [hN] at h2; exact h2) z)) (fun z => absurd z (by decide)))))
    refine m222 (g := gD mem) (Or.inr rfl) (MwD_Cf b1 g7) (by rw [g1]; exact t3) (by rw [g1]; exact b2) (let ⟨now, w1, w2⟩ := h.2.2.2.1.2.now; ⟨now, by omega, w2⟩) (by omega) fun r0 m3 a3 v3 _ _ => Bk.i (b218_37 hP ?_)
    rw [hY]
    generalize hm2 : xu2 m2 108 20 (nI 0) = mb at b1 b2 b4 bN a3
    rw [g1] at v3
    have step : ∀ (s : exT) i j r' m', i < N → j < N → i ≠ j → AgM mtW mqV mb m' → MV m' N (mem 48) → exk s → ∀ v8, (∀ v8 r2 m5, AgM mtW mqV mb m5 → MV m5 N (mem 48) → P 126 [.ref 108, .int (nI n), .int Y, .int (exA (ex1 S s i j)), .int (exB (ex1 S s i j)), .int (exl (ex1 S s i j)), .int (nI i), .int (nI j), v8] [] (0, 0) (LAY, RFu r2, m5)) → P 73 [.ref 108, .int (nI n), .int Y, .int (exA s), .int (exB s), .int (exl s), .int (nI i), .int (nI j), v8] [] (0, 0) (LAY, RFu r', m') := by
      intro s i j r' m' hi hj hne a v q v8 kk
      refine b218_73 hP (c216 (by omega) (by omega) hne fun m3 a3 e1 e2 e3 e4 => Bk.v (b218_81 hP ?_))
      have w3 : MwD m3 (dsW (D0 mem) i j) := MwD_W (MwD_ag b1 a (by decide) (by decide)) (fun p hp => by rw [a.1 128 (by decide) (by decide)]; exact b4 p (by omega)) (by omega) (by omega) (by omega) (fun p => (g7.2.2.2.2.1 p).1) a3 e1 e3
      refine m222 (g := cfD (dsW (D0 mem) i j)) (Or.inr rfl) (MwD_Cf w3 (DOk_W g7 (by omega) (by omega))) (by show PV (dN (D0 mem)) _; rw [gN]; exact t3) (by show MV m3 (dN (D0 mem)) _; rw [gN]; exact v.ag a3 (by decide) (by simp)) (let ⟨now, w1, w2⟩ := h.2.2.2.1.2.now; ⟨now, by omega, w2⟩) (by omega) fun r4 m4 a4 v4 _ _ => Bk.i (b218_90 hP (c216 (by omega) (by omega) hne fun m5 a5 u1 u2 u3 u4 => Bk.v ?_))
      have v4 : MV m4 (dN (D0 mem)) (mem 48) := v4
      rw [gN] at v4
      rw [← hS]
      have a6 := a.trans (mSwap (by omega) (by omega) a3 e1 e2 e3 e4 a4 a5 u1 u2 u3 u4)
      have v6 : MV m5 N (mem 48) := v4.ag a5 (by decide) (by simp)
      have rep : ex1 S s i j = some (S i j, i, j) → ∀ v3 v4 v5, P 115 [.ref 108, .int (nI n), .int Y, v3, v4, v5, .int (nI i), .int (nI j), .int (S i j)] [] (0, 0) (LAY, RFu r4, m5) := fun he v3 v4 v5 => by
        have := kk (.int (S i j)) r4 m5 a6 v6
        rw [he] at this
        exact b218_115 hP this
      cases s with
      | none => exact b218_100 hP (fun _ => rep rfl _ _ _) (fun z => absurd rfl z)
      | some v =>
        obtain ⟨q0, m, q1, q2⟩ := q v rfl
        refine b218_100 hP (fun z => absurd z (nI_nm (by omega))) (fun _ => b218_105 hP (fun z => rep (if_pos z) _ _ _) (fun z => b218_112 hP ?_))
        have he : ex1 S (some v) i j = some v := if_neg z
        have := kk (.int (S i j)) r4 m5 a6 v6
        rw [he] at this
        exact this
    have inn : ∀ i, i < N → ∀ s, exk s → (∀ v7 v8 r' m', AgM mtW mqV mb m' → MV m' N (mem 48) → exk (exI S i s (N - (i + 1))) → P 132 [.ref 108, .int (nI n), .int Y, .int (exA (exI S i s (N - (i + 1)))), .int (exB (exI S i s (N - (i + 1)))), .int (exl (exI S i s (N - (i + 1)))), .int (nI i), v7, v8] [] (0, 0) (LAY, RFu r', m')) → ∀ v8 r' m', AgM mtW mqV mb m' → MV m' N (mem 48) → P 64 [.ref 108, .int (nI n), .int Y, .int (exA s), .int (exB s), .int (exl s), .int (nI i), .int (nI (i + 1)), v8] [] (0, 0) (LAY, RFu r', m') := by
      intro i hi s hs kk
      have key := xloop (N := N - (i + 1)) (G := fun k => ∀ v8 r' m', AgM mtW mqV mb m' → MV m' N (mem 48) → exk (exI S i s k) → P 64 [.ref 108, .int (nI n), .int Y, .int (exA (exI S i s k)), .int (exB (exI S i s k)), .int (exl (exI S i s k)), .int (nI i), .int (nI (i + 1 + k)), v8] [] (0, 0) (LAY, RFu r', m')) ?_ ?_
      · exact fun v8 r' m' a v => key v8 r' m' a v hs
      · intro v8 r' m' a v q
        refine b218_64 hP (fun _ => kk _ _ r' m' a v q) (fun z => absurd (Int32.le_refl _) (by rw [a.2 2 (by decide), bN, show i + 1 + (N - (i + 1)) = N by omega] at z; exact z))
      · intro k hk ih v8 r' m' a v q
        have hj : i + 1 + k < N := by omega
        generalize ej : i + 1 + k = j at hj
        have hex : exI S i s (k + 1) = ex1 S (exI S i s k) i j := by rw [← ej]; rfl
        rw [hex, show i + 1 + (k + 1) = j + 1 by omega] at ih
        refine b218_64 hP (fun z => absurd z (by rw [a.2 2 (by decide), bN]; exact nI_ge hj (by omega))) (fun _ => step _ i j r' m' hi hj (by omega) a v q v8 fun v8 r2 m5 a5 v5 => b218_126 hP ?_)
        rw [nIs]
        exact ih _ r2 m5 a5 v5 (ex1_k q (by omega) (hSk i j))
    have key2 := xloop (N := N) (G := fun i => ∀ v7 v8 r' m', AgM mtW mqV mb m' → MV m' N (mem 48) → exk (exO S N i) → P 49 [.ref 108, .int (nI n), .int Y, .int (exA (exO S N i)), .int (exB (exO S N i)), .int (exl (exO S N i)), .int (nI i), v7, v8] [] (0, 0) (LAY, RFu r', m')) ?_ ?_
    · exact key2 _ _ r0 m3 a3 v3 (fun v hv => by cases hv)
    · intro v7 v8 r' m' a v' q
      rw [hv]
      refine b218_49 hP (fun _ => b218_138 hP (c161 (xs := []) (RwM_nil (by rw [xu2_eq, upd_at])) (by decide) fun m4 a4 w4 => Bk.v (b218_148 hP (c161 w4 (by simp) fun m5 a5 w5 => Bk.v (b218_154 hP (c161 w5 (by simp) fun m6 a6 w6 => Bk.v (b218_162 hP (k2 _ _ (kEnd (N := N) (R := R) ?_ hB))))))))) (fun z => absurd (Int32.le_refl _) (by rw [a.2 2 (by decide), bN] at z; exact z))
      have a19 : AgM [] [19] m' (xu2 m' 108 19 (nI 0)) := AgM.rfl'.us (by simp)
      have aa : AgM (123 :: mtW) (19 :: mqV) mb m6 := ((((a.mono (by decide) (by decide)).trans (a19.mono (by simp) (by simp))).trans (a4.mono (by simp) (by simp))).trans (a5.mono (by simp) (by simp))).trans (a6.mono (by simp) (by simp))
      rw [← hm2] at aa
      exact kT1 h f1 a2 w2 (t20 aa) ((((v'.ag a19 (by simp) (by decide)).ag a4 (by decide) (by decide)).ag a5 (by decide) (by decide)).ag a6 (by decide) (by decide)) w6
    · intro i hi ih v7 v8 r' m' a v' q
      refine b218_49 hP (fun z => absurd z (by rw [a.2 2 (by decide), bN]; exact nI_ge hi (by omega))) (fun _ => b218_58 hP ?_)
      rw [nIs]
      refine inn i hi (exO S N i) q (fun v7 v8 r' m' a v q => b218_132 hP ?_) _ r' m' a v'
      rw [nIs]
      exact ih _ _ r' m' a v q
  · intro i hi ih v5 v6 m1 f1 w1 q1
    refine b130_45 hP (fun z => absurd z (by rw [f1.1 5 (by decide), hN]; exact nI_ge hi (by omega))) (fun _ => b130_57 hP ?_)
    rw [nIs]
    refine inner i hi (exO S N i) q1 (fun v5 v6 m2 f2 w2 q2 => b130_157 hP ?_) _ m1 f1 w1
    rw [nIs]
    exact ih _ _ m2 f2 w2 q2
end K
