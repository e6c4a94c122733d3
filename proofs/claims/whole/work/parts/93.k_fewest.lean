/-! fewest: the class and the reference -/
section K
variable {N R B r d n T : Nat} {mem m' m0 m1 m2 m3 m4 m5 : Nat → Nat → Int32} {Q : xQr} {g : xCf} {D : xD} {c : Nat → Int32} {F : Nat → Nat}
/-- the class's sums and counts -/
def BKS (c : Nat → Int32) (F : Nat → Nat) (n : Nat) (m' : Nat → Nat → Int32) : Prop := ∀ s, s < n → m' 79 s = sm c s ∧ m' 80 s = nI (F s)
theorem F_le_n {n : Nat} (h : FS c F n) : ∀ s, s < n → s < 256 → F s ≤ s := by
  intro s
  induction s using Nat.strongRecOn with
  | _ s ih =>
    intro hs hs2
    by_cases h0 : 0 < s
    · rw [h.2 s h0 hs]
      obtain ⟨p, hp, e⟩ := mx_at (h := fun p => if s.testBit p = true then F (dropN s p) else 0) (n := 7)
      rw [e]
      by_cases hb : s.testBit p = true
      · rw [if_pos hb]
        have h1 := drop_lt hs2 (by omega) hb
        have := ih _ h1 (by omega) (by omega)
        split <;> omega
      · rw [if_neg hb]
        split <;> omega
    · rw [show s = 0 by omega, h.1]; exact Nat.le_refl _
theorem c2 (hc : mem 48 = c) (k : ∀ m' F, Ag [79, 80] mem m' → FS c F 256 → BKS c F 256 m' → Q none (LAY, RFu r, m')) : xCall (d + 1) 2 [.ref 78, .ref 47] (LAY, RFu r, mem) Q := by
  refine c_in rfl rfl rfl fun P hP => b2_0 hP (Or.inl rfl) (vpn (by decide) (by decide)) (vpn (by decide) (by decide)) ?_
  rw [nIc (by decide)]
  have key := xloop (N := 255) (G := fun j => ∀ m' F v3 v4, Ag [79, 80] mem m' → FS c F (j + 1) → BKS c F (j + 1) m' → P 16 [.ref 78, .ref 47, .int (nI (j + 1)), v3, v4] [] (0, 0) (LAY, RFu r, m')) ?_ ?_
  · refine key _ (fun _ => 0) _ _ ((Ag.rfl'.u2 (by simp)).u2 (by simp)) ⟨rfl, fun s h1 h2 => by omega⟩ (fun s hs => ?_)
    rw [show s = 0 by omega, xu2_ne (by decide), xu2_eq, upd_at, xu2_eq, upd_at, sm_0]
    exact ⟨by decide, rfl⟩
  · intro m' F v3 v4 a hF hB
    exact b2_16 hP (Or.inl rfl) (fun _ => b2_127 hP (s := 47) (Or.inl rfl) (k m' F a hF hB)) (fun z => absurd (Int32.le_refl _) z)
  · intro j hj ih m' F v3 v4 a hF hB
    have hs : j + 1 < 256 := by omega
    generalize hsE : j + 1 = s at hs hF hB
    have hFl := fun t (ht : t < s) => F_le_n hF t ht (by omega)
    refine b2_16 hP (Or.inl rfl) (fun z => absurd z (nI_ge hs (by decide))) (fun _ => b2_23 hP (Or.inl rfl) ?_)
    have key2 := xloop (N := 8) (G := fun i => ∀ m2, Ag [79] m' m2 → (∀ t, t < s → m2 79 t = sm c t) → ((∃ p, p < i ∧ s.testBit p = true) → m2 79 s = sm c s) → P 28 [.ref 78, .ref 47, .int (nI s), .int (nI (mx (fun p => if s.testBit p = true then F (dropN s p) else 0) i)), .int (nI i)] [] (0, 0) (LAY, RFu r, m2)) ?_ ?_
    · exact key2 m' Ag.rfl' (fun t ht => (hB t ht).1) (fun ⟨p, hp, _⟩ => absurd hp (Nat.not_lt_zero p))
    · intro m2 a2 s1 s2
      have h79 : m2 79 s = sm c s := by
        obtain ⟨p, hp, hb⟩ := bit_ex hs (by omega)
        exact s2 ⟨p, hp, hb⟩
      have vs : vp_in (nI s) 256 := vpn hs (by decide)
      have fin : ∀ y v4, y = mx (fun p => if s.testBit p = true then F (dropN s p) else 0) 8 + (if sm c s = 0 then 1 else 0) → P 120 [.ref 78, .ref 47, .int (nI s), .int (nI (mx (fun p => if s.testBit p = true then F (dropN s p) else 0) 8)), v4] [.int (nI y), .int (nI s), .ref 80] (0, 0) (LAY, RFu r, m2) := fun y v4 hy => by
        refine b2_120 hP (Or.inl rfl) vs ?_
        rw [nIs, nIc (by omega)]
        have := ih (xu2 m2 80 s (nI y)) (fun t => if t = s then y else F t) (.int (nI (mx (fun p => if s.testBit p = true then F (dropN s p) else 0) 8))) v4 ((a.trans (a2.mono (by simp))).u2 (by simp)) ?_ ?_
        · rw [hsE] at this; exact this
        · refine ⟨by show (if 0 = s then y else F 0) = 0; rw [if_neg (by omega)]; exact hF.1, fun t h0 ht => ?_⟩
          have hmx : ∀ t, t ≤ s → 0 < t → mx (fun p => if t.testBit p = true then (if dropN t p = s then y else F (dropN t p)) else 0) 8 = mx (fun p => if t.testBit p = true then F (dropN t p) else 0) 8 := fun t ht h0 => by
            have mc : ∀ {h h' : Nat → Nat} n, (∀ p, p < n → h p = h' p) → mx h n = mx h' n := fun {h h'} n => by
              induction n with
              | zero => intro _; rfl
              | succ n ih => intro hh; unfold mx; rw [ih (fun p hp => hh p (by omega)), hh n (by omega)]
            refine mc 8 fun p hp => ?_
            by_cases hb : t.testBit p = true
            · have := drop_lt (show t < 256 by omega) hp hb
              rw [if_pos hb, if_pos hb, if_neg (by omega)]
            · rw [if_neg hb, if_neg hb]
          show (if t = s then y else F t) = mx (fun p => if t.testBit p = true then (if dropN t p = s then y else F (dropN t p)) else 0) 8 + _
          rw [hmx t (by omega) h0]
          by_cases e : t = s
          · rw [if_pos e, hy, e]
          · rw [if_neg e]; exact hF.2 t h0 (by omega)
        · intro t ht
          rw [xu2_ne (by decide), xu2_eq]
          show _ ∧ _ = nI (if t = s then y else F t)
          by_cases e : t = s
          · rw [e, upd_at, if_pos rfl]; exact ⟨h79, rfl⟩
          · rw [upd_ne e, if_neg e, a2 80 (by decide)]
            exact ⟨s1 t (by omega), (hB t (by omega)).2⟩
      refine b2_28 hP (Or.inl rfl) (fun _ => b2_99 hP (Or.inl rfl) vs (fun z => b2_119 hP (Or.inl rfl) (fin _ _ ?_)) (fun z => b2_113 hP (Or.inl rfl) ?_)) (fun z => absurd (Int32.le_refl _) z) <;> rw [nIc (by omega), h79] at z
      · rw [if_neg z, Nat.add_zero]
      · rw [nI_add]
        exact fin _ _ (by rw [if_pos z])
    · intro i hi ih2 m2 a2 s1 s2
      have nx : ∀ m3 y, Ag [79] m' m3 → (∀ t, t < s → m3 79 t = sm c t) → ((∃ p, p < i + 1 ∧ s.testBit p = true) → m3 79 s = sm c s) → y = mx (fun p => if s.testBit p = true then F (dropN s p) else 0) (i + 1) → P 93 [.ref 78, .ref 47, .int (nI s), .int (nI y), .int (nI i)] [] (0, 0) (LAY, RFu r, m3) := fun m3 y q1 q2 q3 hy => by
        refine b2_93 hP (Or.inl rfl) ?_
        rw [nIs, hy]
        exact ih2 m3 q1 q2 q3
      refine b2_28 hP (Or.inl rfl) (fun z => absurd z (nI_ge hi (by decide))) (fun _ => b2_35 hP (Or.inl rfl) (fun z => nx m2 _ a2 s1 ?_ ?_) (fun z => ?_)) <;> rw [bit_in (by omega) hi] at z
      · rintro ⟨p, hp, hb⟩
        by_cases e : p = i
        · rw [e] at hb; exact absurd (if_pos hb) z
        · exact s2 ⟨p, by omega, hb⟩
      · have hb : ¬ s.testBit i = true := fun q => z (if_pos q)
        show _ = if mx _ i < (if s.testBit i = true then F (dropN s i) else 0) then _ else _
        rw [if_neg hb, if_neg (Nat.not_lt_zero _)]
      · have hb : s.testBit i = true := Decidable.by_contra fun q => by rw [if_neg q] at z; exact absurd z (by decide)
        have hd := drop_lt hs hi hb
        have ed : nI s &&& ((nI 1 <<< (nI i &&& 31)) ^^^ (-1)) = nI (dropN s i) := bit_drop hs hi
        have vd : vp_in (nI s &&& ((nI 1 <<< (nI i &&& 31)) ^^^ (-1))) 256 := by rw [ed]; exact vpn (by omega) (by decide)
        refine b2_45 hP (Or.inl rfl) vd vd (vpx (by omega) (by decide)) (vpn hs (by decide)) ?_
        have hFd := hFl (dropN s i) hd
        have hm : mx (fun p => if s.testBit p = true then F (dropN s p) else 0) i ≤ 256 := by
          rcases Nat.eq_zero_or_pos i with w | w
          · rw [w]; exact Nat.zero_le _
          · obtain ⟨p, hp, e⟩ := mx_at (h := fun p => if s.testBit p = true then F (dropN s p) else 0) (n := i - 1)
            rw [Nat.sub_add_cancel w] at e
            rw [e]
            by_cases q : s.testBit p = true
            · rw [if_pos q]
              have := hFl (dropN s p) (drop_lt hs (by omega) q)
              have := drop_lt hs (show p < 8 by omega) q
              omega
            · rw [if_neg q]; exact Nat.zero_le _
        have e80 : m2 80 (dropN s i) = nI (F (dropN s i)) := by rw [a2 80 (by decide)]; exact (hB _ hd).2
        rw [ed, nIc (by omega), nIx (by omega), nIc (by omega), e80, s1 _ hd, show m2 (47 + 1) (48 + i) = c (48 + i) by rw [a2 (47 + 1) (by decide), a 48 (by decide), hc], sm_drop hs hi hb]
        have ey : (if nI (mx (fun p => if s.testBit p = true then F (dropN s p) else 0) i) < nI (F (dropN s i)) then nI (F (dropN s i)) else nI (mx (fun p => if s.testBit p = true then F (dropN s p) else 0) i)) = nI (mx (fun p => if s.testBit p = true then F (dropN s p) else 0) (i + 1)) := by
          show _ = nI (if mx (fun p => if s.testBit p = true then F (dropN s p) else 0) i < (if s.testBit i = true then F (dropN s i) else 0) then (if s.testBit i = true then F (dropN s i) else 0) else mx (fun p => if s.testBit p = true then F (dropN s p) else 0) i)
          rw [if_pos hb]
          by_cases w : mx (fun p => if s.testBit p = true then F (dropN s p) else 0) i < F (dropN s i)
          · rw [if_pos w, if_pos (nI_lt w (by omega))]
          · rw [if_neg w, if_neg (nI_nlt (by omega) (by omega))]
        rw [ey]
        refine nx _ _ (a2.u2 (by simp)) (fun t ht => ?_) (fun _ => ?_) rfl
        · rw [xu2_eq, upd_ne (by omega)]; exact s1 t ht
        · rw [xu2_eq, upd_at]
def owM (c : Nat → Int32) : Nat := mkN (fun p => decide (c (48 + p) ≠ 0)) 8
theorem c3 (hc : mem 48 = c) (k : Q (some (.int (nI (owM c)))) (LAY, RFu r, mem)) : xCall (d + 1) 3 [.ref 47] (LAY, RFu r, mem) Q := by
  refine c_in rfl rfl rfl fun P hP => b3_0 hP (Or.inl rfl) ?_
  have key := xloop (N := 8) (G := fun i => P 4 [.ref 47, .int (nI (mkN (fun p => decide (c (48 + p) ≠ 0)) i)), .int (nI i)] [] (0, 0) (LAY, RFu r, mem)) ?_ ?_
  · exact key
  · exact b3_4 hP (Or.inl rfl) (fun _ => b3_34 hP (s := 47) (Or.inl rfl) k) (fun z => absurd (Int32.le_refl _) z)
  · intro i hi ih
    refine b3_4 hP (Or.inl rfl) (fun z => absurd z (nI_ge hi (by decide))) (fun _ => b3_10 hP (Or.inl rfl) (vpx (by omega) (by decide)) (fun z => b3_28 hP (Or.inl rfl) ?_) (fun z => b3_22 hP (Or.inl rfl) (b3_28 hP (Or.inl rfl) ?_))) <;> rw [nIx (by omega), show mem (47 + 1) (48 + i) = c (48 + i) by rw [← hc]] at z
    · rw [mk_f (decide_eq_false (fun q => q z))] at ih
      rw [nIs]
      exact ih
    · rw [mk_t hi (decide_eq_true z), nIs]
      exact ih
theorem c4 {s g : Nat} (hB : BKS c F 256 mem) (hF : FS c F 256) (hs : s < 256) (h0 : 0 < s) (hg : GP c F s g) (hl : ∀ g', g' < g → ¬ GP c F s g') (k : Q (some (.int (nI g))) (LAY, RFu r, mem)) : xCall (d + 1) 4 [.ref 78, .int (nI s)] (LAY, RFu r, mem) Q := by
  obtain ⟨l1, l2, l3⟩ := lw_of hs h0
  obtain ⟨g1, g2, g3, g4, g5⟩ := id hg
  have hgs : g ≤ s := sb_le g1 g2
  have hlg : 2 ^ lw s ≤ g := (and_pw g1 l1).2 g3
  have hF8 : ∀ t, t < 256 → F t ≤ 8 := fun t ht => Nat.le_trans (F_cnt hF t ht) (cnt_le _ 8)
  refine c_in rfl rfl rfl fun P hP => b4_0 hP ?_
  rw [l3]
  have hpw : 2 ^ lw s < 256 := by omega
  have ok : ∀ x, x < s → (GP c F s x → P 68 [.ref 78, .int (nI s), .int (nI (2 ^ lw s)), .int (nI x), .int (nI 1)] [] (0, 0) (LAY, RFu r, mem)) → (¬ GP c F s x → ∀ v4, P 70 [.ref 78, .int (nI s), .int (nI (2 ^ lw s)), .int (nI x), v4] [] (0, 0) (LAY, RFu r, mem)) → ∀ v4, P 7 [.ref 78, .int (nI s), .int (nI (2 ^ lw s)), .int (nI x), v4] [] (0, 0) (LAY, RFu r, mem) := fun x hx k1 k2 v4 => by
    have hx2 : x < 256 := by omega
    have e30 : ¬ GP c F s x → ∀ v4, P 30 [.ref 78, .int (nI s), .int (nI (2 ^ lw s)), .int (nI x), v4] [] (0, 0) (LAY, RFu r, mem) := fun hn v4 => b4_30 hP (b4_31 hP (fun _ => k2 hn _) (fun z => absurd rfl z))
    refine b4_7 hP (fun z => absurd z (nI_ge hx (by omega))) (fun _ => b4_12 hP (fun z => e30 (fun q => z ?_) _) (fun z => b4_20 hP (fun z2 => e30 (fun q => ?_) _) (fun z2 => b4_26 hP (b4_31 hP (fun y => absurd y (by decide)) (fun _ => b4_38 hP (vpn hx2 (by decide)) (fun z3 => k2 (fun q => z3 ?_) _) (fun z3 => ?_))))))
    · rw [nI_sd hx2 hs, sd_zero.mpr q.2.1]; rfl
    · have := (and_pw hx2 l1).1.mp z2
      rw [q.2.2.1] at this
      cases this
    · rw [nIc (by omega), (hB x hx2).1]; exact q.2.2.2.1
    · rw [nIc (by omega), (hB x hx2).1] at z3
      rw [nI_sd hx2 hs] at z
      have hsub : sbM x s := sd_zero.mp (nI_inj (b := 0) z (by have := sd_lt (s := x) (g := s); omega) (by decide))
      have hb : x.testBit (lw s) = true := by
        cases e : x.testBit (lw s) with
        | true => rfl
        | false => exact absurd ((and_pw hx2 l1).1.mpr e) z2
      have esd : nI s &&& (nI x ^^^ (-1)) = nI (sd s x) := nI_sd hs hx2
      have hsd := sd_lt (s := s) (g := x)
      have h1 := hF8 (sd s x) hsd
      have h2 := hF8 s hs
      refine b4_47 hP (by rw [esd]; exact vpn hsd (by decide)) (vpn hs (by decide)) (fun y => k2 (fun q => y ?_) _) (fun y => k1 ⟨hx2, hsub, hb, z3, ?_⟩)
      · have := q.2.2.2.2
        rw [esd, nIc (by omega), nIc (by omega), (hB _ hsd).2, (hB s hs).2, nI_sub (by omega)]
        congr 1
        omega
      · rw [esd, nIc (by omega), nIc (by omega), (hB _ hsd).2, (hB s hs).2, nI_sub (by omega)] at y
        have := nI_inj y (by omega) (by omega)
        omega
  have key := xloop (N := g - 2 ^ lw s) (G := fun i => ∀ v4, P 7 [.ref 78, .int (nI s), .int (nI (2 ^ lw s)), .int (nI (2 ^ lw s + i)), v4] [] (0, 0) (LAY, RFu r, mem)) ?_ ?_
  · exact key _
  · intro v4
    rw [show 2 ^ lw s + (g - 2 ^ lw s) = g by omega]
    by_cases e : g = s
    · rw [e] at k ⊢
      exact b4_7 hP (fun _ => b4_76 hP k) (fun z => absurd (Int32.le_refl _) z)
    · exact ok g (by omega) (fun _ => b4_68 hP k) (fun hn => absurd hg hn) v4
  · intro i hi ih v4
    refine ok _ (by omega) (fun q => absurd q (hl _ (by omega))) (fun _ v4 => b4_70 hP ?_) v4
    rw [nIs]
    exact ih _
theorem BKS_ag {n : Nat} (h : BKS c F n mem) (a : Ag [3, 4] mem m') : BKS c F n m' := fun s hs => by rw [a 79 (by decide), a 80 (by decide)]; exact h s hs
theorem c1 (hc : mem 48 = c) (hz : sm c (owM c) = 0) (k : ∀ m' F xs, Ag [79, 80, 3, 4] mem m' → FS c F 256 → GL c F xs (owM c) → xs.length = F (owM c) → RwC m' xs → Q (some (.int (nI (cnt (fun p => (owM c).testBit p) 8) - nI xs.length))) (LAY, RFu r, m')) : xCall (d + 2) 1 [.ref 78, .ref 47, .ref 3] (LAY, RFu r, mem) Q := by
  have hM : owM c < 256 := mkN8 _
  refine c_in rfl rfl rfl fun P hP => b1_0 hP (Or.inl rfl) (c2 hc fun m1 F a1 hF hB => Bk.v (b1_5 hP (Or.inl rfl) (c3 (c := c) (by rw [a1 48 (by decide)]; exact hc) (Bk.i (b1_9 hP (s := 47) (Or.inl rfl) (c237 hM (Bk.i (b1_14 hP (s := 47) (Or.inl rfl) (c31 fun m2 a2 w2 => Bk.v (b1_20 hP (s := 47) (Or.inl rfl) ?_))))))))))
  obtain ⟨xs, hG, hlen⟩ := GL_ex hF (owM c) hM hz
  have hF8 : F (owM c) ≤ 8 := Nat.le_trans (F_cnt hF _ hM) (cnt_le _ 8)
  have loop : ∀ zs s ys m' v6, GL c F zs s → RwC m' ys → ys.length + zs.length ≤ 8 → Ag [3, 4] m1 m' → (∀ m2, Ag [3, 4] m1 m2 → RwC m2 (ys ++ zs) → ∀ v3 v5 v6, P 60 [.ref 78, .ref 47, .ref 3, v3, .int (nI (cnt (fun p => (owM c).testBit p) 8)), v5, v6] [] (0, 0) (LAY, RFu r, m2)) → P 23 [.ref 78, .ref 47, .ref 3, .int (nI s), .int (nI (cnt (fun p => (owM c).testBit p) 8)), .int (nI ys.length), v6] [] (0, 0) (LAY, RFu r, m') := by
    intro zs
    induction zs with
    | nil =>
      intro s ys m' v6 hG w hl a kk
      have hs : s = 0 := hG
      rw [List.append_nil] at kk
      exact b1_23 hP (s := 47) (Or.inl rfl) (fun _ => kk m' a w _ _ _) (fun _ => b1_30 hP (s := 47) (Or.inl rfl) (fun _ => kk m' a w _ _ _) (fun z => absurd (by rw [hs]; rfl) z))
    | cons x zs ih =>
      intro s ys m' v6 hG w hl a kk
      obtain ⟨g, rfl, h0, hs, hz, hg, hle, hz2, hG2⟩ := hG
      rw [List.length_cons] at hl
      refine b1_23 hP (s := 47) (Or.inl rfl) (fun z => absurd z (nI_ge (by omega) (by decide))) (fun _ => b1_30 hP (s := 47) (Or.inl rfl) (fun z => absurd z (nI_ne0 h0 (by omega))) (fun _ => b1_34 hP (s := 47) (Or.inl rfl) (c4 (BKS_ag hB a) hF hs h0 hg hle (Bk.i (b1_39 hP (s := 47) (Or.inl rfl) (c32 w (by omega) fun m3 a3 w3 => Bk.v (b1_47 hP (s := 47) (Or.inl rfl) ?_)))))))
      rw [nI_sd hs hg.1, nIs]
      have := ih (sd s g) (ys ++ [nI g]) m3 (.int (nI g)) hG2 w3 (by rw [List.length_append]; show ys.length + 1 + zs.length ≤ 8; omega) (a.trans a3) (fun m4 a4 w4 => kk m4 a4 (by rw [List.append_assoc] at w4; exact w4))
      rw [List.length_append] at this
      exact this
  refine loop xs (owM c) [] m2 _ hG w2 (by rw [hlen]; show 0 + F (owM c) ≤ 8; omega) (a2.mono (by simp)) fun m3 a3 w3 v3 v5 v6 => b1_60 hP (s := 47) (Or.inl rfl) ?_
  rw [List.nil_append] at w3
  rw [w3.2.1]
  exact k m3 F xs ((a1.mono (by simp)).trans (a3.mono (by simp))) hF hG hlen w3
theorem m208 {s : Nat} (hN2 : mem 108 2 = nI N) (hN8 : N ≤ 8) (h120 : ∀ p, p < N → mem 120 p = c (48 + p)) (hz : ∀ p, N ≤ p → p < 8 → c (48 + p) = 0) (hs : s < 256) (k : Q (some (.int (sm c s))) (LAY, RFu r, mem)) : xCall (d + 2) 208 [.ref 108, .int (nI s)] (LAY, RFu r, mem) Q := by
  have e8 : sm c s = sumI (fun p => if s.testBit p = true then c (48 + p) else 0) N := sumI_ext hN8 (fun p h1 h2 => by rw [hz p h1 h2]; split <;> rfl)
  rw [e8] at k
  refine c_in rfl rfl rfl fun P hP => b208_0 hP ?_
  have key := xloop (N := N) (G := fun i => P 4 [.ref 108, .int (nI s), .int (sumI (fun p => if s.testBit p = true then c (48 + p) else 0) i), .int (nI i)] [] (0, 0) (LAY, RFu r, mem)) ?_ ?_
  · exact key
  · exact b208_4 hP (fun _ => b208_39 hP k) (fun z => absurd (by rw [hN2]; exact Int32.le_refl _) z)
  · intro i hi ih
    change P 4 [_, _, .int (sumI _ i + (if s.testBit i = true then c (48 + i) else 0)), _] _ _ _ at ih
    refine b208_4 hP (fun z => absurd z (by rw [hN2]; exact nI_ge hi (by omega))) (fun _ => b208_12 hP (c159 hs (by omega) (Bk.i (b208_18 hP (fun z => b208_30 hP (b208_31 hP ?_)) (fun z => b208_21 hP (vpn (by omega) (by decide)) (b208_31 hP ?_))))))
    · rw [if_neg (b01_0.mp z)] at ih
      rw [nIs]
      exact ih
    · rw [if_pos (Decidable.by_contra fun q => z (b01_f q))] at ih
      rw [nIs, nIc (by omega), h120 i hi]
      exact ih
def gvM (c : Nat → Int32) (F : Nat → Nat) (t : Nat) : Int32 := if t = 0 then nI 0 else if sd t (owM c) = 0 ∧ sm c t = 0 then nI (F t) else -1
theorem gvM_z (hF : FS c F 256) {t : Nat} (h1 : sbM t (owM c)) (h2 : sm c t = 0) : gvM c F t = nI (F t) := by
  unfold gvM
  by_cases e : t = 0
  · rw [if_pos e, e, hF.1]
  · rw [if_neg e, if_pos ⟨sd_zero.mpr h1, h2⟩]
theorem m209 {xs : List Int32} {Q2 : xQr} (hF : FS c F 256) (hN2 : m1 108 2 = nI N) (hN8 : N ≤ 8) (hM : MV m1 N c) (hz : ∀ p, N ≤ p → p < 8 → c (48 + p) = 0) (hzM : sm c (owM c) = 0) (hG : GL c F xs (owM c)) (hlen : xs.length = F (owM c))
    (k : ∀ m2, AgM [135, 123] [20, 19] m1 m2 → RwM m2 xs → Q2 (some (.int (nI (cnt (fun p => (owM c).testBit p) 8) - nI xs.length))) (LAY, RFu r, m2)) : xCall (d + 4) 209 [.ref 108] (LAY, RFu r, m1) Q2 := by
  have hMM : owM c < 256 := mkN8 _
  have hF8 : ∀ t, t < 256 → F t ≤ 8 := fun t ht => Nat.le_trans (F_cnt hF t ht) (cnt_le _ 8)
  have h120 : ∀ p, p < N → m1 120 p = c (48 + p) := fun p hp => (hM.1 p hp).2.2.2.2.2.2
  refine c_in rfl rfl rfl fun P hP => b209_0 hP ?_
  have t20' : ∀ W V m2, AgM W V (xu2 m1 108 20 (nI 0)) m2 → AgM W (20 :: V) m1 m2 := fun W V m2 a => t20 a
  have c2 : xu2 m1 108 20 (nI 0) 108 2 = nI N := by rw [e20 (by decide)]; exact hN2
  have c3 : ∀ p, p < N → xu2 m1 108 20 (nI 0) 120 p = c (48 + p) := fun p hp => by rw [xu2_ne (by decide)]; exact h120 p hp
  generalize hmb : xu2 m1 108 20 (nI 0) = mb at c2 c3 t20'
  have hMN : mkN (fun p => decide (c (48 + p) ≠ 0)) N = owM c := (mkN_ext hN8 (fun p h1 h2 => decide_eq_false (fun q => q (hz p h1 h2)))).symm
  -- sums, in the reference
  have s208 : ∀ {Q : xQr} {d : Nat} {s : Nat} {m' V}, AgM [135, 123] V mb m' → 2 ∉ V → s < 256 → Q (some (.int (sm c s))) (LAY, RFu r, m') → xCall (d + 2) 208 [.ref 108, .int (nI s)] (LAY, RFu r, m') Q := fun {Q d s m' V} a hV hs kk => m208 (N := N) (by rw [a.2 2 hV]; exact c2) hN8 (fun p hp => by rw [a.1 120 (by decide) (by decide)]; exact c3 p hp) hz hs kk
  -- the groups told
  have tell : ∀ zs s ys m' v3 v4, GL c F zs s → sbM s (owM c) → RwM m' ys → ys.length + zs.length ≤ 8 → AgM [135, 123] [19] mb m' → (∀ t, t ≤ owM c → m' 135 t = gvM c F t) → (∀ m2, AgM [135, 123] [19] mb m2 → RwM m2 (ys ++ zs) → (∀ t, t ≤ owM c → m2 135 t = gvM c F t) → ∀ v2 v3 v4, P 263 [.ref 108, .int (nI (owM c)), v2, v3, v4] [] (0, 0) (LAY, RFu r, m2)) → P 182 [.ref 108, .int (nI (owM c)), .int (nI s), v3, v4] [] (0, 0) (LAY, RFu r, m') := by
    intro zs
    induction zs with
    | nil =>
      intro s ys m' v3 v4 hG hsub w hl a hv kk
      have hs : s = 0 := hG
      rw [List.append_nil] at kk
      exact b209_182 hP (fun _ => kk m' a w hv _ _ _) (fun z => absurd (by rw [hs]; rfl) z)
    | cons x zs ih =>
      intro s ys m' v3 v4 hG hsub w hl a hv kk
      obtain ⟨g, rfl, h0, hs, hz0, hg, hle, hz2, hG2⟩ := hG
      obtain ⟨l1, l2, l3⟩ := lw_of hs h0
      obtain ⟨g1, g2, g3, g4, g5⟩ := id hg
      rw [List.length_cons] at hl
      have hsM := sb_le hs hsub
      have es : m' 135 s = nI (F s) := by rw [hv s hsM]; exact gvM_z hF hsub hz0
      refine b209_182 hP (fun z => absurd z (nI_ne0 h0 (by omega))) (fun _ => b209_186 hP ?_)
      rw [l3]
      have hg0 : 0 < g := Nat.pos_of_ne_zero fun z => by rw [z, Nat.zero_testBit] at g3; cases g3
      have ok : ∀ x, x < 256 → (GP c F s x → P 247 [.ref 108, .int (nI (owM c)), .int (nI s), .int (nI (2 ^ lw s)), .int (nI x)] [] (0, 0) (LAY, RFu r, m')) → (¬ GP c F s x → P 241 [.ref 108, .int (nI (owM c)), .int (nI s), .int (nI (2 ^ lw s)), .int (nI x)] [] (0, 0) (LAY, RFu r, m')) → P 194 [.ref 108, .int (nI (owM c)), .int (nI s), .int (nI (2 ^ lw s)), .int (nI x)] [] (0, 0) (LAY, RFu r, m') := fun x hx2 k1 k2 => by
        refine b209_194 hP (fun z => k2 fun q => z ?_) (fun z => b209_203 hP (fun z2 => k2 fun q => ?_) (fun z2 => b209_210 hP (s208 a (by decide) hx2 (Bk.i (b209_216 hP (fun z3 => k2 fun q => z3 q.2.2.2.1) (fun z3 => ?_))))))
        · rw [nI_sd hx2 hs, sd_zero.mpr q.2.1]; rfl
        · have := (and_pw hx2 l1).1.mp z2
          rw [q.2.2.1] at this
          cases this
        · rw [nI_sd hx2 hs] at z
          have hsub2 : sbM x s := sd_zero.mp (nI_inj (b := 0) z (by have := sd_lt (s := x) (g := s); omega) (by decide))
          have hb : x.testBit (lw s) = true := by
            cases e : x.testBit (lw s) with
            | true => rfl
            | false => exact absurd ((and_pw hx2 l1).1.mpr e) z2
          have esd : nI s &&& (nI x ^^^ (-1)) = nI (sd s x) := nI_sd hs hx2
          have hsd := sd_lt (s := s) (g := x)
          have hsdM : sbM (sd s x) (owM c) := fun q hq hb => hsub q hq (sd_sub q hq hb)
          have hz3 : sm c (sd s x) = 0 := by
            have := sm_sd (c := c) hsub2
            rw [hz0, z3, Int32.zero_add] at this
            exact this.symm
          have e2 : m' 135 (sd s x) = nI (F (sd s x)) := by rw [hv _ (sb_le hsd hsdM)]; exact gvM_z hF hsdM hz3
          have h1 := hF8 (sd s x) hsd
          have h2 := hF8 s hs
          refine b209_219 hP (by rw [esd]; exact vpn hsd (by decide)) (vpn hs (by decide)) (fun y => k1 ⟨hx2, hsub2, hb, z3, ?_⟩) (fun y => k2 fun q => y ?_)
          · rw [esd, nIc (by omega), nIc (by omega), e2, es, nI_sub (by omega)] at y
            have := nI_inj y (by omega) (by omega)
            omega
          · have := q.2.2.2.2
            rw [esd, nIc (by omega), nIc (by omega), e2, es, nI_sub (by omega)]
            congr 1
            omega
      have key := xloop (N := g - 1) (G := fun i => P 194 [.ref 108, .int (nI (owM c)), .int (nI s), .int (nI (2 ^ lw s)), .int (nI (i + 1))] [] (0, 0) (LAY, RFu r, m')) ?_ ?_
      · exact key
      · rw [show g - 1 + 1 = g by omega]
        refine ok g g1 (fun _ => b209_247 hP (c161 w (by omega) fun m3 a3 w3 => Bk.v (b209_253 hP ?_))) (fun q => absurd hg q)
        rw [nI_sd hs g1]
        have a33 : AgM [135, 123] [19] mb m3 := a.trans (a3.mono (by simp) (by simp))
        refine ih (sd s g) (ys ++ [nI g]) m3 _ _ hG2 (fun q hq hb => hsub q hq (sd_sub q hq hb)) w3 (by rw [List.length_append]; show ys.length + 1 + zs.length ≤ 8; omega) a33 (fun t ht => by rw [a3.1 135 (by decide) (by decide)]; exact hv t ht) (fun m4 a4 w4 hv4 => kk m4 a4 (by rw [List.append_assoc] at w4; exact w4) hv4)
      · intro i hi ih2
        refine ok (i + 1) (by omega) (fun q => absurd q (hle _ (by omega))) (fun _ => b209_241 hP ?_)
        rw [nIs]
        exact ih2
  -- the table filled
  have fill : ∀ v3 v4, P 42 [.ref 108, .int (nI (owM c)), .int (nI N), v3, v4] [] (0, 0) (LAY, RFu r, mb) := fun v3 v4 => by
    refine b209_42 hP ?_
    have key := xloop (N := owM c + 1) (G := fun s => ∀ m' v3 v4, AgM [135] [] mb m' → (∀ t, t < s → m' 135 t = gvM c F t) → P 44 [.ref 108, .int (nI (owM c)), .int (nI s), v3, v4] [] (0, 0) (LAY, RFu r, m')) ?_ ?_
    · exact key mb _ _ AgM.rfl' (fun t ht => absurd ht (Nat.not_lt_zero t))
    · intro m' v3 v4 a hv
      refine b209_44 hP (fun _ => b209_175 hP ?_) (fun z => absurd (nI_lt (by omega) (by omega)) z)
      have a19 : AgM [] [19] m' (xu2 m' 108 19 (nI 0)) := AgM.rfl'.us (by simp)
      have h8 := hF8 _ hMM
      refine tell xs (owM c) [] _ _ _ hG (fun _ _ h => h) (RwM_nil (by rw [xu2_eq, upd_at])) (by rw [hlen]; show 0 + F (owM c) ≤ 8; omega) ((a.mono (by simp) (by simp)).trans (a19.mono (by simp) (by simp))) (fun t ht => by rw [xu2_ne (by decide)]; exact hv t (by omega)) (fun m2 a2 w2 hv2 v2 v3 v4 => b209_263 hP (c237 hMM (Bk.i (b209_267 hP (vpn hMM (by decide)) ?_))))
      rw [nIc (by omega), hv2 _ (Nat.le_refl _), gvM_z hF (fun _ _ h => h) hzM, ← hlen]
      rw [List.nil_append] at w2
      exact k m2 (t20' _ _ _ a2) w2
    · intro s hs ih m' v3 v4 a hv
      have hs2 : s < 256 := by omega
      have vs : vp_in (nI s) 256 := vpn hs2 (by decide)
      have cs : (nI s).toNatClampNeg = s := nIc (by omega)
      have nx : ∀ m2 v3 v4, AgM [135] [] mb m2 → (∀ t, t < s → m2 135 t = gvM c F t) → m2 135 s = gvM c F s → P 169 [.ref 108, .int (nI (owM c)), .int (nI s), v3, v4] [] (0, 0) (LAY, RFu r, m2) := fun m2 v3 v4 a2 h1 h2 => by
        refine b209_169 hP ?_
        rw [nIs]
        refine ih m2 _ _ a2 fun t ht => ?_
        by_cases e : t = s
        · rw [e]; exact h2
        · exact h1 t (by omega)
      have p63 : ∀ y, y = (if s = 0 then nI 0 else -1) → P 63 [.ref 108, .int (nI (owM c)), .int (nI s), v3, v4] [.int y, .int (nI s), .ref 135] (0, 0) (LAY, RFu r, m') := fun y hy => by
        have a2 : AgM [135] [] mb (xu2 m' 135 s y) := a.u2 (by simp) (by decide)
        have h1 : ∀ t, t < s → xu2 m' 135 s y 135 t = gvM c F t := fun t ht => by rw [xu2_eq, upd_ne (by omega)]; exact hv t ht
        have h2 : xu2 m' 135 s y 135 s = y := by rw [xu2_eq, upd_at]
        refine b209_63 hP vs (fun z => ?_) (fun z => ?_) <;> rw [cs]
        · rw [nI_sd hs2 hMM] at z
          have hne : sd s (owM c) ≠ 0 := fun q => z (by rw [q]; rfl)
          have hs0 : s ≠ 0 := fun q => hne (by rw [q]; exact sd_zero.mpr fun p _ h => by rw [Nat.zero_testBit] at h; cases h)
          refine nx _ _ _ a2 h1 ?_
          rw [h2, hy, if_neg hs0]
          unfold gvM
          rw [if_neg hs0, if_neg (fun q => hne q.1)]
        · rw [nI_sd hs2 hMM] at z
          have hsdz : sd s (owM c) = 0 := nI_inj (b := 0) z (by have := sd_lt (s := s) (g := owM c); omega) (by decide)
          have hsub : sbM s (owM c) := sd_zero.mp hsdz
          generalize xu2 m' 135 s y = m2 at a2 h1 h2
          refine b209_72 hP (fun z0 => nx _ _ _ a2 h1 ?_) (fun z0 => b209_76 hP (s208 (a2.mono (W' := [135, 123]) (V' := []) (by simp) (by simp)) (by simp) hs2 (Bk.i (b209_81 hP (fun z1 => b209_87 hP ?_) (fun z1 => b209_84 hP (nx _ _ _ a2 h1 ?_))))))
          · have hs0 : s = 0 := nI_inj (b := 0) z0 (by omega) (by decide)
            rw [h2, hy, if_pos hs0]
            unfold gvM
            rw [if_pos hs0]
          · have hs0 : s ≠ 0 := fun q => z0 (by rw [q]; rfl)
            obtain ⟨l1, l2, l3⟩ := lw_of hs2 (by omega)
            obtain ⟨g0, hg0⟩ := F_ex hF hs2 z1 l1 l2
            have hg0 : GP c F s g0 := hg0
            have hFs8 := hF8 s hs2
            rw [l3]
            have main : ∀ g, g < 256 → sbM g s → ∀ m3 v, AgM [135] [] mb m3 → (∀ t, t < s → m3 135 t = gvM c F t) → m3 135 s = v → (v = -1 ∨ ∃ k, v = nI k ∧ k ≤ F s) → (∀ g', g < g' → GP c F s g' → v = nI (F s)) → P 95 [.ref 108, .int (nI (owM c)), .int (nI s), .int (nI (2 ^ lw s)), .int (nI g)] [] (0, 0) (LAY, RFu r, m3) := by
              intro g
              induction g using Nat.strongRecOn with
              | _ g ihg =>
                intro hg hgs m3 v a3 h1 h3 hv1 hv2
                refine b209_95 hP (fun zz => ?_) (fun zz => ?_)
                · have hg00 : g = 0 := Decidable.by_contra fun q => nI_nle (by omega) (by omega) zz
                  refine nx m3 _ _ a3 h1 ?_
                  have hgp : 0 < g0 := Nat.pos_of_ne_zero fun q => by
                    have := hg0.2.2.1
                    rw [q, Nat.zero_testBit] at this
                    cases this
                  rw [h3, hv2 g0 (by omega) hg0]
                  exact (gvM_z hF hsub z1).symm
                · have hgp : 0 < g := Nat.pos_of_ne_zero fun q => zz (by rw [q]; exact Int32.le_refl _)
                  obtain ⟨n1, n2⟩ := sub_next hs2 hg hgs hgp
                  have hnl : (g - 1) &&& s < g := Nat.lt_of_le_of_lt Nat.and_le_left (by omega)
                  have hns : sbM ((g - 1) &&& s) s := fun p _ hb => by
                    rw [Nat.testBit_and] at hb
                    simp only [Bool.and_eq_true] at hb
                    exact hb.2
                  have nxt : ∀ m4 v', AgM [135] [] mb m4 → (∀ t, t < s → m4 135 t = gvM c F t) → m4 135 s = v' → (v' = -1 ∨ ∃ k, v' = nI k ∧ k ≤ F s) → (∀ g', g < g' → GP c F s g' → v' = nI (F s)) → (GP c F s g → v' = nI (F s)) → P 158 [.ref 108, .int (nI (owM c)), .int (nI s), .int (nI (2 ^ lw s)), .int (nI g)] [] (0, 0) (LAY, RFu r, m4) := fun m4 v' q1 q2 q3 q4 q5 q6 => by
                    refine b209_158 hP ?_
                    rw [n1]
                    refine ihg _ hnl (by omega) hns m4 v' q1 q2 q3 q4 fun g' hg' hgp' => ?_
                    by_cases e : g' = g
                    · rw [e] at hgp'; exact q6 hgp'
                    · by_cases e2 : g < g'
                      · exact q5 g' e2 hgp'
                      · have := n2 g' (by omega) hgp'.1 hgp'.2.1
                        omega
                  refine b209_100 hP (fun y1 => nxt m3 v a3 h1 h3 hv1 hv2 fun q => ?_) (fun y1 => b209_107 hP (s208 (a3.mono (W' := [135, 123]) (V' := []) (by simp) (by simp)) (by simp) hg (Bk.i (b209_113 hP (fun y2 => nxt m3 v a3 h1 h3 hv1 hv2 fun q => absurd q.2.2.2.1 y2) (fun y2 => ?_)))))
                  · have := (and_pw hg l1).1.mp y1
                    rw [q.2.2.1] at this
                    cases this
                  · have hb : g.testBit (lw s) = true := by
                      cases e : g.testBit (lw s) with
                      | true => rfl
                      | false => exact absurd ((and_pw hg l1).1.mpr e) y1
                    have esd : nI s &&& (nI g ^^^ (-1)) = nI (sd s g) := nI_sd hs2 hg
                    have hsd := sd_lt (s := s) (g := g)
                    have hlt := (sd_ltS hs2 l1 hb l2).2
                    have hsdM : sbM (sd s g) (owM c) := fun q hq hb => hsub q hq (sd_sub q hq hb)
                    have hz3 : sm c (sd s g) = 0 := by
                      have := sm_sd (c := c) hgs
                      rw [z1, y2, Int32.zero_add] at this
                      exact this.symm
                    have e2 : m3 135 (sd s g) = nI (F (sd s g)) := by rw [h1 _ hlt]; exact gvM_z hF hsdM hz3
                    have h8 := hF8 (sd s g) hsd
                    have hgr := F_grp hF hs2 l1 hgs hb z1
                    have vsd : vp_in (nI s &&& (nI g ^^^ (-1))) 256 := by rw [esd]; exact vpn hsd (by decide)
                    refine b209_116 hP vsd (fun y3 => absurd y3 (by rw [esd, nIc (by omega), e2]; exact pw (by omega))) (fun _ => b209_130 hP vs vsd vs ?_)
                    rw [esd, cs, nIc (by omega), e2, h3, nIs]
                    have hmx : ∃ k, (if v < nI (F (sd s g) + 1) then nI (F (sd s g) + 1) else v) = nI k ∧ k ≤ F s ∧ F (sd s g) + 1 ≤ k := by
                      rcases hv1 with e | ⟨k, e, hk⟩
                      · refine ⟨F (sd s g) + 1, ?_, hgr, Nat.le_refl _⟩
                        rw [e, if_pos]
                        rw [Int32.lt_iff_toInt_lt, nI_toInt (by omega), show (-1 : Int32).toInt = -1 by decide]
                        omega
                      · rw [e]
                        by_cases w : k < F (sd s g) + 1
                        · rw [if_pos (nI_lt w (by omega))]; exact ⟨_, rfl, hgr, Nat.le_refl _⟩
                        · rw [if_neg (nI_nlt (by omega) (by omega))]; exact ⟨k, rfl, hk, by omega⟩
                    obtain ⟨k2, ek, hk1, hk2⟩ := hmx
                    refine nxt _ (nI k2) (a3.u2 (by simp) (by decide)) (fun t ht => by rw [xu2_eq, upd_ne (by omega)]; exact h1 t ht) (by rw [xu2_eq, upd_at, ek]) (Or.inr ⟨k2, rfl, hk1⟩) (fun g' hg' hgp' => ?_) (fun q => ?_)
                    · have e := hv2 g' hg' hgp'
                      rw [e] at ek
                      by_cases w : F s < F (sd s g) + 1
                      · omega
                      · rw [if_neg (nI_nlt (by omega) (by omega))] at ek
                        exact ek.symm
                    · have := q.2.2.2.2
                      congr 1
                      omega
            exact main s hs2 (fun _ _ h => h) m2 y a2 h1 h2 (by rw [hy, if_neg hs0]; exact Or.inl rfl) (fun g' hg' hgp' => by have := sb_le hgp'.1 hgp'.2.1; omega)
          · have hs0 : s ≠ 0 := fun q => z0 (by rw [q]; rfl)
            rw [h2, hy, if_neg hs0]
            unfold gvM
            rw [if_neg hs0, if_neg (fun q => z1 q.2)]
      refine b209_44 hP (fun z => absurd z (nI_nlt (by omega) (by omega))) (fun _ => b209_49 hP (fun z => b209_62 hP (p63 _ ?_)) (fun z => b209_58 hP (p63 _ ?_)))
      · exact (if_neg (fun q => z (by rw [q]; rfl))).symm
      · exact (if_pos (nI_inj (b := 0) z (by omega) (by decide))).symm
  -- who owes, who is owed
  have key := xloop (N := N) (G := fun i => ∀ v3 v4, P 9 [.ref 108, .int (nI (mkN (fun p => decide (c (48 + p) ≠ 0)) i)), .int (nI i), v3, v4] [] (0, 0) (LAY, RFu r, mb)) ?_ ?_
  · exact key _ _
  · intro v3 v4
    rw [hMN]
    exact b209_9 hP (fun _ => fill _ _) (fun z => absurd (by rw [c2]; exact Int32.le_refl _) z)
  · intro i hi ih v3 v4
    refine b209_9 hP (fun z => absurd z (by rw [c2]; exact nI_ge hi (by omega))) (fun _ => b209_17 hP (vpn (by omega) (by decide)) (fun z => b209_33 hP (b209_34 hP ?_)) (fun z => b209_27 hP (b209_34 hP ?_))) <;> rw [nIc (by omega), c3 i hi] at z
    · rw [mk_f (decide_eq_false (fun q => q z))] at ih
      rw [nIs, show nI 0 = 0 from rfl, Int32.or_zero]
      exact ih _ _
    · rw [mk_t (by omega) (decide_eq_true z), nIs]
      exact ih _ _
theorem tk_fewest : Tk 123 209 [] := by
  intro N R B r mem Q h hB K
  obtain ⟨hR, hR4, hN, hN8, hR2, hN2⟩ := (RTo_parts h.2.2.1).1
  obtain ⟨hM, hS⟩ := h.2.2.2.1
  have hz : ∀ p, N ≤ p → p < 8 → mem 48 (48 + p) = 0 := fun p h1 h2 => (hS.2.2.2.1 p h1 h2).2 6 (by decide) (by decide)
  have hzM : sm (mem 48) (owM (mem 48)) = 0 := by
    have e : sm (mem 48) (owM (mem 48)) = sumI (fun p => mem 48 (48 + p)) 8 := sumI_congr fun p hp => by
      rw [show (owM (mem 48)).testBit p = decide (mem 48 (48 + p) ≠ 0) from mkN_bit _ 8 p hp]
      by_cases q : mem 48 (48 + p) = 0
      · rw [decide_eq_false (fun w => w q), if_neg (by decide), q]
      · rw [decide_eq_true q, if_pos rfl]
    rw [e, sumI_ofInt, hS.2.2.2.2.2.2.2.2.2]
    rfl
  refine c_in rfl rfl rfl fun P hP => b123_0 hP (c1 (c := mem 48) rfl hzM fun m1 F xs a1 hF hG hlen w1 => Bk.i (b123_15 hP (K _ _ ?_)))
  intro Q2 k2
  have aM := Ag.M a1 (by decide)
  have hZ := h.2.2.2.2.2.2.2
  refine m209 (d := 296) (N := N) (c := mem 48) hF (by rw [a1 108 (by decide)]; exact hN2) hN8 (hM.ag aM (by decide) (by simp)) hz hzM hG hlen fun m2 a2 w2 => k2 _ _ (kEnd (N := N) (R := R) (RR_ro h (a1.mono (by decide)) (hZ.mv fun c hc => Or.inl (a1 c ?_)) w1 (a2.mono (by decide) (by decide)) ((hM.ag aM (by decide) (by simp)).ag a2 (by decide) (by decide)) w2) hB)
  have : ∀ c ∈ zC, c ∉ [79, 80, 3, 4] := by decide
  exact this c hc
end K
