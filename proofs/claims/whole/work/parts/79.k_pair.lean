/-! pair -/
def pa1 (G : Nat → Nat → Int32) (s : Int32 × Nat × Nat) (a b : Nat) : Int32 × Nat × Nat := if s.1 < G a b then (G a b, a, b) else s
def paI (G : Nat → Nat → Int32) (i : Nat) (s : Int32 × Nat × Nat) : Nat → Int32 × Nat × Nat
  | 0 => s
  | k + 1 => pa1 G (paI G i s k) i (i + 1 + k)
def paO (G : Nat → Nat → Int32) (N : Nat) : Nat → Int32 × Nat × Nat
  | 0 => (nI 0, 0, 0)
  | i + 1 => paI G i (paO G N i) (N - (i + 1))
def paR (s : Int32 × Nat × Nat) : List Int32 := if s.1 ≤ 0 then [] else [nI s.2.1, nI s.2.2]
theorem pa_lt {x y : Int32} (h : 0 ≤ x) (h2 : x < y) : 0 < y := by
  rw [Int32.lt_iff_toInt_lt] at h2 ⊢
  rw [Int32.le_iff_toInt_le] at h
  omega
theorem pa_le {y : Int32} (h : 0 < y) : 0 ≤ y := by
  rw [Int32.lt_iff_toInt_lt] at h
  rw [Int32.le_iff_toInt_le]
  omega
section K
variable {N R B r d n T now j rm : Nat} {mem m' m0 m1 m2 m3 m4 m5 : Nat → Nat → Int32} {Q : xQr} {g : xCf} {D : xD}
theorem c67 {a b : Nat} (ha : a < 8) (hb : b < 8) (k : Q (some (.int (mem 48 (56 + (8 * a + b))))) (LAY, RFu r, mem)) : xCall (d + 1) 67 [.ref 47, .int (nI a), .int (nI b)] (LAY, RFu r, mem) Q := by
  have hs : isState 47 := by unfold isState; decide
  have e : nI 56 + nI a * nI 8 + nI b = nI (56 + (8 * a + b)) := by rw [nI_mul, nI_add, nI_add, Nat.add_assoc, Nat.mul_comm]
  have v : vp_in (nI 56 + nI a * nI 8 + nI b) 121 := by rw [e]; exact vpn (by omega) (by decide)
  refine c_in rfl rfl rfl fun P hP => b67_0 hP hs v ?_
  rw [e, nIc (by omega)]
  exact k
theorem tk_pair : Tk 121 206 [] := by
  intro N R B r mem Q h hB K
  obtain ⟨hR, hR4, hN, hN8, hR2, hN2⟩ := (RTo_parts h.2.2.1).1
  obtain ⟨hM, hS⟩ := h.2.2.2.1
  generalize hG0 : (fun a b => mem 48 (56 + (8 * a + b)) + mem 48 (56 + (8 * b + a))) = G
  have hG : ∀ a b, mem 48 (56 + (8 * a + b)) + mem 48 (56 + (8 * b + a)) = G a b := fun a b => by rw [← hG0]
  refine c_in rfl rfl rfl fun P hP => b121_0 hP (c31 fun ma aa wa => Bk.v (b121_9 hP ?_))
  have inner : ∀ i, i < N → ∀ s, 0 ≤ s.1 → (∀ v3 v4 m2, Ag [3, 4] mem m2 → RwC m2 (paR (paI G i s (N - (i + 1)))) → 0 ≤ (paI G i s (N - (i + 1))).1 → P 96 [.ref 0, .int (paI G i s (N - (i + 1))).1, .int (nI i), v3, v4] [] (0, 0) (LAY, RFu r, m2)) → ∀ v4 m', Ag [3, 4] mem m' → RwC m' (paR s) → P 26 [.ref 0, .int s.1, .int (nI i), .int (nI (i + 1)), v4] [] (0, 0) (LAY, RFu r, m') := by
    intro i hi s hs kk
    have key := xloop (N := N - (i + 1)) (G := fun k => ∀ v4 m', Ag [3, 4] mem m' → RwC m' (paR (paI G i s k)) → 0 ≤ (paI G i s k).1 → P 26 [.ref 0, .int (paI G i s k).1, .int (nI i), .int (nI (i + 1 + k)), v4] [] (0, 0) (LAY, RFu r, m')) ?_ ?_
    · exact fun v4 m' a w => key v4 m' a w hs
    · intro v4 m' a w q
      refine b121_26 hP (fun _ => kk _ _ m' a w q) (fun z => absurd (Int32.le_refl _) (by rw [a 5 (by decide), hN, show i + 1 + (N - (i + 1)) = N by omega] at z; exact z))
    · intro k hk ih v4 m' a w q
      have hj : i + 1 + k < N := by omega
      generalize ej : i + 1 + k = j at hj
      have hex : paI G i s (k + 1) = pa1 G (paI G i s k) i j := by rw [← ej]; rfl
      rw [hex, show i + 1 + (k + 1) = j + 1 by omega] at ih
      generalize paI G i s k = u at ih w q
      have e48 : m' 48 = mem 48 := a 48 (by decide)
      refine b121_26 hP (fun z => absurd z (by rw [a 5 (by decide), hN]; exact nI_ge hj (by omega))) (fun _ => b121_37 hP (c67 (by omega) (by omega) (Bk.i (b121_46 hP (c67 (by omega) (by omega) (Bk.i ?_))))))
      rw [e48]
      refine b121_55 hP (fun z => b121_90 hP ?_) (fun z => b121_64 hP ?_)
      · rw [hG] at z ⊢
        have he : pa1 G u i j = u := if_neg (Int32.not_lt.mpr z)
        rw [he] at ih
        rw [nIs]
        exact ih _ m' a w q
      · rw [hG] at z ⊢
        have z := Int32.not_le.mp z
        have he : pa1 G u i j = (G i j, i, j) := if_pos z
        rw [he] at ih
        have g0 := pa_lt q z
        refine c31 fun m5 a5 w5 => Bk.v (b121_74 hP (c32 w5 (by decide) fun m6 a6 w6 => Bk.v (b121_82 hP (c32 w6 (by simp) fun m7 a7 w7 => Bk.v (b121_90 hP ?_)))))
        rw [nIs]
        refine ih _ m7 (((a.trans (a5.mono (by decide))).trans a6).trans a7) ?_ (pa_le g0)
        rw [show paR (G i j, i, j) = [nI i, nI j] from if_neg (Int32.not_le.mpr g0)]
        exact w7
  have key := xloop (N := N) (G := fun i => ∀ v3 v4 m', Ag [3, 4] mem m' → RwC m' (paR (paO G N i)) → 0 ≤ (paO G N i).1 → P 11 [.ref 0, .int (paO G N i).1, .int (nI i), v3, v4] [] (0, 0) (LAY, RFu r, m')) ?_ ?_
  · exact key _ _ ma (aa.mono (by decide)) wa (Int32.le_refl _)
  · intro v3 v4 m1 a1 w1 q1
    refine b121_11 hP (fun _ => b121_102 hP (K _ _ ?_)) (fun z => absurd (Int32.le_refl _) (by rw [a1 5 (by decide), hN] at z; exact z))
    intro Q2 k2
    have t2 : MV m1 N (mem 48) := hM.ag (Ag.M a1 (by decide)) (by decide) (by simp)
    refine c_in rfl rfl rfl fun P hP => b206_0 hP ?_
    have bN : xu2 m1 108 20 (nI 0) 108 2 = nI N := by rw [e20 (by decide), a1 108 (by decide), hN2]
    have b121 : ∀ g, g < 64 → xu2 m1 108 20 (nI 0) 121 g = mem 48 (56 + g) := fun g hg => by rw [xu2_ne (by decide)]; exact t2.2.1 g hg
    generalize hmb : xu2 m1 108 20 (nI 0) = mb at bN b121
    have inn : ∀ i, i < N → ∀ s : Int32 × Nat × Nat, (∀ v5 v6, P 91 [.ref 108, .int (paI G i s (N - (i + 1))).1, .int (nI (paI G i s (N - (i + 1))).2.1), .int (nI (paI G i s (N - (i + 1))).2.2), .int (nI i), v5, v6] [] (0, 0) (LAY, RFu r, mb)) → ∀ v6, P 29 [.ref 108, .int s.1, .int (nI s.2.1), .int (nI s.2.2), .int (nI i), .int (nI (i + 1)), v6] [] (0, 0) (LAY, RFu r, mb) := by
      intro i hi s kk
      have key := xloop (N := N - (i + 1)) (G := fun k => ∀ v6, P 29 [.ref 108, .int (paI G i s k).1, .int (nI (paI G i s k).2.1), .int (nI (paI G i s k).2.2), .int (nI i), .int (nI (i + 1 + k)), v6] [] (0, 0) (LAY, RFu r, mb)) ?_ ?_
      · exact fun v6 => key v6
      · intro v6
        refine b206_29 hP (fun _ => kk _ _) (fun z => absurd (Int32.le_refl _) (by rw [bN, show i + 1 + (N - (i + 1)) = N by omega] at z; exact z))
      · intro k hk ih v6
        have hj : i + 1 + k < N := by omega
        generalize ej : i + 1 + k = j at hj
        have hex : paI G i s (k + 1) = pa1 G (paI G i s k) i j := by rw [← ej]; rfl
        rw [hex, show i + 1 + (k + 1) = j + 1 by omega] at ih
        generalize paI G i s k = u at ih
        have x1 : nI 8 * nI i + nI j = nI (8 * i + j) := by rw [nI_mul, nI_add]
        have x2 : nI 8 * nI j + nI i = nI (8 * j + i) := by rw [nI_mul, nI_add]
        have y1 : vp_in (nI 8 * nI i + nI j) 64 := by rw [x1]; exact vpn (by omega) (by decide)
        have y2 : vp_in (nI 8 * nI j + nI i) 64 := by rw [x2]; exact vpn (by omega) (by decide)
        have ev : mb 121 (nI 8 * nI i + nI j).toNatClampNeg + mb 121 (nI 8 * nI j + nI i).toNatClampNeg = G i j := by
          rw [x1, x2, nIc (by omega), nIc (by omega), b121 _ (by omega), b121 _ (by omega), hG]
        refine b206_29 hP (fun z => absurd z (by rw [bN]; exact nI_ge hj (by omega))) (fun _ => b206_38 hP y1 y2 (fun z => b206_76 hP (b206_85 hP ?_)) (fun z => b206_73 hP (b206_85 hP ?_)))
        · rw [ev] at z ⊢
          have he : pa1 G u i j = (G i j, i, j) := if_pos z
          rw [he] at ih
          rw [nIs]
          exact ih _
        · rw [ev] at z
          have he : pa1 G u i j = u := if_neg z
          rw [he] at ih
          rw [nIs]
          exact ih _
    have key2 := xloop (N := N) (G := fun i => ∀ v5 v6, P 14 [.ref 108, .int (paO G N i).1, .int (nI (paO G N i).2.1), .int (nI (paO G N i).2.2), .int (nI i), v5, v6] [] (0, 0) (LAY, RFu r, mb)) ?_ ?_
    · exact key2 _ _
    · intro v5 v6
      have a19 : AgM [] [19] mb (xu2 mb 108 19 (nI 0)) := AgM.rfl'.us (by simp)
      have fin : ∀ m2, AgM [123] [19] mb m2 → RwM m2 (paR (paO G N N)) → RRc m2 N R B := fun m2 a2 w2 => by
        rw [← hmb] at a2
        have g2 : AgM [123] [20, 19] m1 m2 := t20 a2
        exact ⟨kTx h a1 g2 (by decide), ⟨_, w1.mv (g2.eqs (by decide) (by decide)), w2⟩, kTo h a1 g2 (by decide), kSt h a1 g2 (by decide), kUn h a1 g2 (by decide), kOl h a1 g2 (by decide), kKe h a1 g2 (by decide), kZe h a1 g2 (by decide)⟩
      generalize paO G N N = u at fin k2
      refine b206_14 hP (fun _ => b206_97 hP (fun z => b206_116 hP (k2 _ _ (kEnd (N := N) (R := R) (fin _ (a19.mono (by simp) (by simp)) ?_) hB))) (fun z => b206_106 hP (c161 (xs := []) (RwM_nil (by rw [xu2_eq, upd_at])) (by decide) fun m4 a4 w4 => Bk.v (b206_111 hP (c161 w4 (by simp) fun m5 a5 w5 => Bk.v (b206_116 hP (k2 _ _ (kEnd (N := N) (R := R) (fin _ (((a19.mono (by simp) (by simp)).trans a4).trans a5) ?_) hB)))))))) (fun z => absurd (Int32.le_refl _) (by rw [bN] at z; exact z))
      · rw [show paR u = [] from if_pos z]
        exact RwM_nil (by rw [xu2_eq, upd_at])
      · rw [show paR u = [nI u.2.1, nI u.2.2] from if_neg z]
        exact w5
    · intro i hi ih v5 v6
      refine b206_14 hP (fun z => absurd z (by rw [bN]; exact nI_ge hi (by omega))) (fun _ => b206_23 hP ?_)
      rw [nIs]
      refine inn i hi (paO G N i) (fun v5 v6 => b206_91 hP ?_) _
      rw [nIs]
      exact ih _ _
  · intro i hi ih v3 v4 m1 a1 w1 q1
    refine b121_11 hP (fun z => absurd z (by rw [a1 5 (by decide), hN]; exact nI_ge hi (by omega))) (fun _ => b121_22 hP ?_)
    rw [nIs]
    refine inner i hi (paO G N i) q1 (fun v3 v4 m2 a2 w2 q2 => b121_96 hP ?_) _ m1 a1 w1
    rw [nIs]
    exact ih _ _ m2 a2 w2 q2
end K
