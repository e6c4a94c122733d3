/-! crowd -/
def cwF (F : Nat → Int32) (r : Nat) : Nat → Int32
  | 0 => nI 0
  | p + 1 => if F p = nI r then cwF F r p + nI 1 else cwF F r p
theorem cwF_s {F : Nat → Int32} {r p : Nat} : cwF F r (p + 1) = if F p = nI r then cwF F r p + nI 1 else cwF F r p := rfl
theorem cwF_n {F : Nat → Int32} {r : Nat} : ∀ p, ∃ m, m ≤ p ∧ cwF F r p = nI m
  | 0 => ⟨0, Nat.le_refl 0, rfl⟩
  | p + 1 => by
    obtain ⟨m, h1, h2⟩ := cwF_n (F := F) (r := r) p
    rw [cwF_s]
    split
    · exact ⟨m + 1, by omega, by rw [h2, nIs]⟩
    · exact ⟨m, by omega, h2⟩
def cr1 (C : Nat → Nat → Int32) (s : exT) (a b : Nat) : exT := match s with
  | none => some (C a b, a, b)
  | some v => if v.1 < C a b then some (C a b, a, b) else some v
theorem cr1_s {S : Nat → Nat → Int32} {s : exT} {a b : Nat} : ∃ v, cr1 S s a b = some v := by
  unfold cr1
  split
  · exact ⟨_, rfl⟩
  · split
    · exact ⟨_, rfl⟩
    · exact ⟨_, rfl⟩
def crI (C : Nat → Nat → Int32) (a : Nat) (s : exT) : Nat → exT
  | 0 => s
  | k + 1 => cr1 C (crI C a s k) a k
def crO (C : Nat → Nat → Int32) (R : Nat) : Nat → exT
  | 0 => none
  | d + 1 => crI C (d + 1) (crO C R d) R
def cA (s : exT) : Int32 := match s with | none => nI 0 | some v => nI v.2.1
def cB (s : exT) : Int32 := match s with | none => nI 0 | some v => nI v.2.2
section K
variable {N R B r d n T now j rm : Nat} {mem m' m0 m1 m2 m3 m4 m5 : Nat → Nat → Int32} {Q : xQr} {g : xCf} {D : xD}
theorem c90 (h : RRc mem N R B) (f : TI mem m') (hw : now < 1073741824) (k : Q (some (.int (cwF (fun p => fP (gD mem) (nI now) p) rm N))) (LAY, RFu r, m')) : xCall (d + 2) 90 [.ref 5, .int (nI rm), .int (nI now)] (LAY, RFu r, m') Q := by
  obtain ⟨hR, hR4, hN, hN8, hR2, hN2⟩ := (RTo_parts h.2.2.1).1
  obtain ⟨g1, g2, g3, g4, g5, g6, g7, g8, g9⟩ := RRc_g h
  obtain ⟨q1, q2⟩ := TwD_TC (TI_5 h f) g7
  have ht : isTown 5 := Or.inl rfl
  have e5 : m' 5 1 = nI N := by rw [f.1 5 (by decide), hN]
  refine c_in rfl rfl rfl fun P hP => b90_0 hP ht ?_
  have key := xloop (N := N) (G := fun p => P 5 [.ref 5, .int (nI rm), .int (nI now), .int (cwF (fun p => fP (gD mem) (nI now) p) rm p), .int (nI p)] [] (0, 0) (LAY, RFu r, m')) ?_ ?_
  · exact key
  · exact b90_5 hP ht (fun _ => b90_34 hP ht k) (fun z => absurd (Int32.le_refl _) (by rw [e5] at z; exact z))
  · intro p hp ih
    have e : fP (cfC m' 5) (nI now) p = fP (gD mem) (nI now) p := q2.2.2.2.2.2.1 now p (by rw [q2.2.1]; show p < fN (gD mem); omega) hw
    refine b90_5 hP ht (fun z => absurd z (by rw [e5]; exact nI_ge hp (by omega))) (fun _ => b90_14 hP ht (c89 ht q1 (by omega) hw (Bk.i ?_)))
    rw [e]
    rw [cwF_s] at ih
    refine b90_21 hP ht (fun z => b90_28 hP ht ?_) (fun z => b90_25 hP ht (b90_28 hP ht ?_))
    · rw [if_neg z] at ih
      rw [nIs]
      exact ih
    · rw [if_pos z] at ih
      rw [nIs]
      exact ih
theorem tk_crowd (x : Int32) : Tk 132 220 [.int x] := by
  intro N R B r mem Q h hB K
  obtain ⟨hR, hR4, hN, hN8, hR2, hN2⟩ := (RTo_parts h.2.2.1).1
  obtain ⟨g1, g2, g3, g4, g5, g6, g7, g8, g9⟩ := RRc_g h
  have gN : dN (D0 mem) = N := g1
  have hb : B < 500000000 := by omega
  refine c_in rfl rfl rfl fun P hP => b132_0 hP (c151 (a := 1) (b := 100) (by decide) (by decide) (fun hno => Bk.i (b132_7 hP (fun z => absurd rfl z) (fun _ => b132_10 hP (K _ _ ?_)))) (fun n hn1 hn2 en => Bk.i (b132_7 hP (fun _ => b132_12 hP (fun h2 => ?_) (fun h2 => b132_22 hP (K _ _ ?_))) (fun z => absurd z (by decide)))))
  · intro Q2 k2
    exact c_in rfl rfl rfl fun P hP => b220_0 hP (c158r (a := 1) (b := 100) (by decide) (by decide) (fun _ => Bk.i (b220_12 hP (fun z => absurd rfl z) (fun _ => b220_15 hP (k2 _ _ (kEnd (kM20 h) hB))))) (fun n h1 h2 e => absurd e (hno n h1 h2)))
  rotate_left
  · intro Q2 k2
    subst en
    exact c_in rfl rfl rfl fun P hP => b220_0 hP (c158r (a := 1) (b := 100) (by decide) (by decide) (fun q => absurd rfl (q n hn1 hn2)) (fun _ _ _ _ => Bk.i (b220_12 hP (fun _ => b220_17 hP (fun z => absurd (by rw [hR] at h2; rw [e20 (by decide), hR2]; exact h2) z) (fun _ => b220_24 hP (k2 _ _ (kEnd (kM20 h) hB)))) (fun z => absurd z (by decide)))))
  subst en
  have h0R : 0 < R := Nat.pos_of_ne_zero fun q => h2 (by rw [hR, q]; rfl)
  obtain ⟨now, w1, w2⟩ : ∃ now, now < 500000000 ∧ (mem 48) 120 = nI now := let ⟨now, w1, w2⟩ := h.2.2.2.1.2.now; ⟨now, by omega, w2⟩
  generalize hC0 : (fun j rm => cwF (fun p => fP (gD mem) (nI (now + j - 1)) p) rm N) = C
  have hC : ∀ j rm, cwF (fun p => fP (gD mem) (nI (now + j - 1)) p) rm N = C j rm := fun j rm => by rw [← hC0]
  have hCk : ∀ j rm, ¬ C j rm ≤ -1 := fun j rm => by
    obtain ⟨m, q1, q2⟩ := cwF_n (F := fun p => fP (gD mem) (nI (now + j - 1)) p) (r := rm) N
    rw [← hC, q2]
    intro z
    have h0 : nI 0 ≤ nI m := Int32.not_lt.mp (nI_nlt (by omega) (by omega))
    exact absurd (Int32.le_trans h0 z) (by decide)
  obtain ⟨vL, hvL⟩ : ∃ v, crO C R n = some v := by
    obtain ⟨n', rfl⟩ : ∃ n', n = n' + 1 := ⟨n - 1, by omega⟩
    obtain ⟨R', rfl⟩ : ∃ R', R = R' + 1 := ⟨R - 1, by omega⟩
    exact cr1_s
  refine b132_25 hP (vpn (by decide) (by decide)) ?_
  rw [nIc (by decide), w2]
  have key := xloop (N := n) (G := fun k => ∀ v5 v6 m', TI mem m' → exRow (crO C R k) m' → P 41 [.ref 0, .int (nI n), .int (exL (crO C R k)), .int (nI now), .int (nI (k + 1)), v5, v6] [] (0, 0) (LAY, RFu r, m')) ?_ ?_
  · exact key _ _ mem (TI0 h) (fun v hv => by cases hv)
  · intro v5 v6 m1 f1 rw1
    rw [hvL]
    refine b132_41 hP (fun _ => b132_125 hP (K _ _ ?_)) (fun z => absurd (nI_lt (by omega) (by omega)) z)
    intro Q2 k2
    obtain ⟨t1, t2, t3, t4⟩ := TI_M h f1
    have b1 : MwD (xu2 m1 108 20 (nI 0)) (D0 mem) := MwD_ag t1 th20 (by simp) (by decide)
    have b2 : MV (xu2 m1 108 20 (nI 0)) N (mem 48) := t2.ag th20 (by simp) (by decide)
    have bN : xu2 m1 108 20 (nI 0) 108 2 = nI N := by rw [b1.2.1, gN]
    have bR : xu2 m1 108 20 (nI 0) 108 0 = nI R := by rw [b1.1]; exact congrArg nI g2
    have hMB : MB (xu2 m1 108 20 (nI 0)) (gD mem) (mem 48) := ⟨MwD_Cf b1 g7, by rw [g1]; exact t3, by rw [g1]; exact b2, now, w1, w2⟩
    refine c_in rfl rfl rfl fun P hP => b220_0 hP ?_
    generalize hm2 : xu2 m1 108 20 (nI 0) = mb at b1 b2 bN bR hMB
    refine c158r (a := 1) (b := 100) (by decide) (by decide) (fun q => absurd rfl (q n hn1 hn2)) (fun _ _ _ _ => Bk.i (b220_12 hP (fun _ => b220_17 hP (fun _ => b220_27 hP (m191 hMB fun m2 i2 => Bk.v (b220_36 hP ?_))) (fun z => absurd (by rw [bR] at z; rw [hR]; exact z) h2)) (fun z => absurd z (by decide))))
    have key2 := xloop (N := n) (G := fun k => ∀ v6 v7 v8 r' m', MI mb (gD mem) (mem 48) k m' → P 46 [.ref 108, .int (nI n), .int (exL (crO C R k)), .int (cA (crO C R k)), .int (cB (crO C R k)), .int (nI (k + 1)), v6, v7, v8] [] (0, 0) (LAY, RFu r', m')) ?_ ?_
    · exact key2 _ _ _ r m2 i2
    · intro v6 v7 v8 r' m3 i3
      rw [hvL]
      refine b220_46 hP (fun _ => b220_143 hP (m192 hMB i3 fun m4 a4 v4 => Bk.v (b220_152 hP (c161 (xs := []) (RwM_nil (by rw [xu2_eq, upd_at])) (by decide) fun m5 a5 w5 => Bk.v (b220_162 hP (c161 w5 (by simp) fun m6 a6 w6 => Bk.v (b220_168 hP (k2 _ _ (kEnd (N := N) (R := R) ?_ hB))))))))) (fun z => absurd (nI_lt (by omega) (by omega)) z)
      rw [g1] at v4
      have a19 : AgM [] [19] m4 (xu2 m4 108 19 (nI 0)) := AgM.rfl'.us (by simp)
      have aa : AgM (123 :: mtW) (19 :: mqV) mb m6 := (((a4.mono (by decide) (by decide)).trans (a19.mono (by simp) (by simp))).trans (a5.mono (by simp) (by simp))).trans (a6.mono (by simp) (by simp))
      rw [← hm2] at aa
      exact kT1 h f1 (Ag.rfl' (W := [3, 4])) (rw1 vL hvL) (t20 aa) (((v4.ag a19 (by simp) (by decide)).ag a5 (by decide) (by decide)).ag a6 (by decide) (by decide)) w6
    · intro k hk ih v6 v7 v8 r' m3 i3
      refine b220_46 hP (fun z => absurd z (nI_nlt (by omega) (by omega))) (fun _ => b220_52 hP (m190 hMB i3 (by omega) fun r4 m4 y i4 => Bk.i (b220_56 hP ?_)))
      have e4 : ∀ p, p < N → m4 114 p = fP (gD mem) (nI (now + (k + 1) - 1)) p := fun p hp => by
        rw [(i4.2.2.1 p (by rw [g1]; exact hp)).1]
        show qtr (gD mem) (qtrs (gD mem) (mem 48) k) p = _
        rw [qtr_p (by rw [g1]; exact hp) (by rw [g1]; exact hN8), qtrs_120 (by rw [g1]; exact hN8) w2 k]
        rfl
      have e42 : m4 108 2 = nI N := by rw [i4.1.2 2 (by decide), bN]
      have e40 : m4 108 0 = nI R := by rw [i4.1.2 0 (by decide), bR]
      have inn := xloop (N := R) (G := fun rm => ∀ v7 v8, P 60 [.ref 108, .int (nI n), .int (exL (crI C (k + 1) (crO C R k) rm)), .int (cA (crI C (k + 1) (crO C R k) rm)), .int (cB (crI C (k + 1) (crO C R k) rm)), .int (nI (k + 1)), .int (nI rm), v7, v8] [] (0, 0) (LAY, RFu r4, m4)) ?_ ?_
      · exact inn _ _
      · intro v7 v8
        refine b220_60 hP (fun _ => b220_137 hP ?_) (fun z => absurd (Int32.le_refl _) (by rw [e40] at z; exact z))
        rw [nIs]
        exact ih _ _ _ r4 m4 i4
      · intro rm hrm ihr v7 v8
        refine b220_60 hP (fun z => absurd z (by rw [e40]; exact nI_ge hrm (by omega))) (fun _ => b220_69 hP ?_)
        have hs : crI C (k + 1) (crO C R k) (rm + 1) = cr1 C (crI C (k + 1) (crO C R k) rm) (k + 1) rm := rfl
        rw [hs] at ihr
        generalize crI C (k + 1) (crO C R k) rm = s at ihr
        have lp := xloop (N := N) (G := fun p => P 75 [.ref 108, .int (nI n), .int (exL s), .int (cA s), .int (cB s), .int (nI (k + 1)), .int (nI rm), .int (cwF (fun p => fP (gD mem) (nI (now + (k + 1) - 1)) p) rm p), .int (nI p)] [] (0, 0) (LAY, RFu r4, m4)) ?_ ?_
        · exact lp
        · refine b220_75 hP (fun _ => ?_) (fun z => absurd (Int32.le_refl _) (by rw [e42] at z; exact z))
          rw [hC]
          have rep : cr1 C s (k + 1) rm = some (C (k + 1) rm, k + 1, rm) → ∀ v2 v3 v4 v8, P 121 [.ref 108, .int (nI n), v2, v3, v4, .int (nI (k + 1)), .int (nI rm), .int (C (k + 1) rm), v8] [] (0, 0) (LAY, RFu r4, m4) := fun he v2 v3 v4 v8 => by
            refine b220_121 hP (b220_131 hP ?_)
            rw [he] at ihr
            rw [nIs]
            exact ihr _ _
          cases s with
          | none => exact b220_112 hP (fun _ => rep rfl _ _ _ _) (fun z => absurd (Int32.not_le.mp (hCk (k + 1) rm)) z)
          | some v =>
            refine b220_112 hP (fun z => rep (if_pos z) _ _ _ _) (fun z => b220_118 hP (b220_131 hP ?_))
            have he : cr1 C (some v) (k + 1) rm = some v := if_neg z
            rw [he] at ihr
            rw [nIs]
            exact ihr _ _
        · intro p hp ihp
          have vp : vp_in (nI p) 8 := vpn (by omega) (by decide)
          rw [cwF_s] at ihp
          refine b220_75 hP (fun z => absurd z (by rw [e42]; exact nI_ge hp (by omega))) (fun _ => b220_84 hP vp (fun z => b220_102 hP (b220_103 hP ?_)) (fun z => b220_98 hP (b220_103 hP ?_)))
          · rw [nIc (by omega), e4 p hp] at z
            rw [if_neg z] at ihp
            rw [nIs, show nI 0 = 0 from rfl, Int32.add_zero]
            exact ihp
          · rw [nIc (by omega), e4 p hp] at z
            rw [if_pos z] at ihp
            rw [nIs]
            exact ihp
  · intro k hk ih v5 v6 m1 f1 rw1
    refine b132_41 hP (fun z => absurd z (nI_nlt (by omega) (by omega))) (fun _ => b132_47 hP ?_)
    have inn := xloop (N := R) (G := fun rm => ∀ v6 m', TI mem m' → exRow (crI C (k + 1) (crO C R k) rm) m' → P 50 [.ref 0, .int (nI n), .int (exL (crI C (k + 1) (crO C R k) rm)), .int (nI now), .int (nI (k + 1)), .int (nI rm), v6] [] (0, 0) (LAY, RFu r, m')) ?_ ?_
    · exact inn _ m1 f1 rw1
    · intro v6 m2 f2 rw2
      refine b132_50 hP (fun _ => b132_119 hP ?_) (fun z => absurd (Int32.le_refl _) (by rw [f2.1 5 (by decide), hR] at z; exact z))
      rw [nIs]
      exact ih _ _ m2 f2 rw2
    · intro rm hrm ihr v6 m2 f2 rw2
      refine b132_50 hP (fun z => absurd z (by rw [f2.1 5 (by decide), hR]; exact nI_ge hrm (by omega))) (fun _ => b132_62 hP ?_)
      have ea : nI now + nI (k + 1) - nI 1 = nI (now + (k + 1) - 1) := by rw [nI_add, nI_sub (by omega)]
      rw [ea]
      refine c90 h f2 (by omega) (Bk.i ?_)
      rw [hC]
      have hs : crI C (k + 1) (crO C R k) (rm + 1) = cr1 C (crI C (k + 1) (crO C R k) rm) (k + 1) rm := rfl
      rw [hs] at ihr
      generalize crI C (k + 1) (crO C R k) rm = s at ihr rw2
      have rep : cr1 C s (k + 1) rm = some (C (k + 1) rm, k + 1, rm) → ∀ v2, P 85 [.ref 0, .int (nI n), v2, .int (nI now), .int (nI (k + 1)), .int (nI rm), .int (C (k + 1) rm)] [] (0, 0) (LAY, RFu r, m2) := fun he v2 => by
        refine b132_85 hP (c31 fun m5 a5 w5 => Bk.v (b132_95 hP (c32 w5 (by decide) fun m6 a6 w6 => Bk.v (b132_104 hP (c32 w6 (by simp) fun m7 a7 w7 => Bk.v (b132_113 hP ?_))))))
        rw [nIs]
        have := ihr (.int (C (k + 1) rm)) m7 (((f2.ag a5 (by decide)).ag a6 (by decide)).ag a7 (by decide)) (by rw [he]; intro v hv; injection hv with hv; rw [← hv]; exact w7)
        rw [he] at this
        exact this
      cases s with
      | none => exact b132_77 hP (fun z => absurd z (hCk _ _)) (fun _ => rep rfl _)
      | some v =>
        refine b132_77 hP (fun z => b132_113 hP ?_) (fun z => rep (if_pos (Int32.not_le.mp z)) _)
        have he : cr1 C (some v) (k + 1) rm = some v := if_neg (Int32.not_lt.mpr z)
        rw [nIs]
        have := ihr (.int (C (k + 1) rm)) m2 f2 (by rw [he]; exact rw2)
        rw [he] at this
        exact this
end K
