/-! the reference's goesTo, greatest, sitting, goRoom -/
def qV : List Nat := [22, 23, 24, 25, 28]
section C
variable {d r : Nat} {mem : Nat → Nat → Int32} {Q : xQr} {f : xCf} {c : Nat → Int32}
theorem c186 {p now : Nat} (hC : CfM mem f) (hw : mem 108 15 = nI now) (hw2 : now < 1073741800) (hp : p < fN f) (k : Q (some (.int (fP f (nI now) p))) (LAY, RFu r, mem)) : xCall (d + 1) 186 [.ref 108, .int (nI p)] (LAY, RFu r, mem) Q := by
  obtain ⟨h1, h2, h3, h4, h5, h6, h7, h8, h9, -⟩ := hC
  obtain ⟨⟨L, hL, eL⟩, F, hF, eF⟩ := h8 p hp
  rw [← h9 now p hp (by omega)] at k
  have vp : vp_in (nI p) 8 := vpn (by omega) (by decide)
  refine c_in rfl rfl rfl fun P hP => ?_
  have fin : ∀ x v2, x = goE mem now p → P 61 [.ref 108, .int (nI p), v2] [.int x] (0, 0) (LAY, RFu r, mem) := fun x v2 hx => by
    unfold goE2 at k
    rw [← hx] at k
    refine b186_61 hP (fun e => b186_82 hP (b186_83 hP ?_)) (fun e => b186_67 hP (fun e2 => b186_82 hP (b186_83 hP ?_)) (fun e2 => b186_75 hP (b186_83 hP ?_)))
    · rw [if_neg (fun q => q.1 e)] at k; exact k
    · rw [if_neg (fun q => e2 q.2)] at k; exact k
    · rw [if_pos ⟨e, e2⟩] at k; exact k
  refine b186_0 hP vp (fun z => b186_20 hP vp (fun z2 => ?_) (fun z2 => b186_29 hP (fin _ _ ?_))) (fun z => b186_11 hP vp (fin _ _ ?_))
  · rw [nIc (by omega)] at z z2
    have hL0 : 0 < L := Nat.pos_of_ne_zero fun q => z2 (by rw [eL, q]; decide)
    have hm : (now + F) % L < L := Nat.mod_lt _ hL0
    have e : nI 24 * nI p + (mem 108 15 + mem 129 p - (mem 108 15 + mem 129 p) / mem 113 p * mem 113 p) = nI (24 * p + (now + F) % L) := by
      rw [hw, eF, eL, nI_add, nI_rem (by omega) (by omega) hL0, nI_mul, nI_add]
    refine b186_33 hP vp vp (by rw [nIc (by omega)]; exact z2) ?_ (fin _ _ ?_)
    · rw [nIc (by omega), e]; exact vpn (by omega) (by decide)
    · rw [nIc (by omega), e, nIc (by omega)]
      unfold goE
      rw [if_neg (fun q => q z), if_neg z2, eF, eL, nIc (by omega), nIc (by omega)]
  · rw [nIc (by omega)] at z z2
    unfold goE
    rw [if_neg (fun q => q z), if_pos z2]
  · rw [nIc (by omega)] at z ⊢
    unfold goE
    rw [if_pos z]
def gS (f : xCf) (c : Nat → Int32) (rm z b : Nat) : Nat → Bool := if b = 0 then psS (fN f) c rm (if z = 1 then 2 else 1) else if z = 1 then giS f c rm else asS f c rm
def gW (f : xCf) (c : Nat → Int32) (z : Nat) : Nat → Int32 := if z = 1 then fG f c else fA f c
theorem gS_lt {rm z b p : Nat} (h : gS f c rm z b p = true) : p < fN f := by
  unfold gS at h
  split at h
  · exact psS_lt h
  · split at h
    · exact (giS_lt h).1
    · exact (asS_lt h).1
theorem CfM.pv (h : CfM mem f) (hM : MV mem (fN f) c) {p : Nat} (hp : p < fN f) : PvM mem c p := by
  obtain ⟨e1, e2, e3, e4, e5, e6, e7⟩ := hM.1 p hp
  obtain ⟨q1, q2⟩ := h.2.2.2.2.2.2.1 p hp
  exact ⟨by rw [q1]; exact q2, e3.symm, e4.symm, e5.symm, e6.symm, e7.symm⟩
theorem c187 {rm z b : Nat} (hC : CfM mem f) (hM : MV mem (fN f) c) (hPV : PV (fN f) c) (hrm : rm < 4) (hz : z < 2) (hb : b < 2)
    (k : ∀ r' mem', AgM [] qV mem mem' → Q (some (.int (oI (pick (gW f c z) (gS f c rm z b) 8)))) (LAY, RFu r', mem')) : xCall (d + 71) 187 [.ref 108, .int (nI rm), .int (nI z), .int (nI z), .int (nI b)] (LAY, RFu r, mem) Q := by
  have hN := hC.2.2.2.1
  have hN0 := hC.2.2.1
  have hxs := hC.2.2.2.2.2.2.2.2.2
  rw [pick_ext (N := fN f) hN (fun p h1 h2 => bfalse fun q => by have := gS_lt q; omega)] at k
  refine c_in rfl rfl rfl fun P hP => b187_0 hP ?_
  have key := xloop (N := fN f) (G := fun n => ∀ r' m' x6 v8, AgM [] qV mem m' → (∀ w, pick (gW f c z) (gS f c rm z b) n = some w → x6 = gW f c z w) → P 9 [.ref 108, .int (nI rm), .int (nI z), .int (nI z), .int (nI b), .int (oI (pick (gW f c z) (gS f c rm z b) n)), .int x6, .int (nI n), v8] [] (0, 0) (LAY, RFu r', m')) ?_ ?_
  · exact key r mem _ _ AgM.rfl' (fun w hw => by cases hw)
  · intro r' m' x6 v8 hA _
    have hN1 : m' 108 2 = nI (fN f) := by rw [hA.2 2 (by decide), hN0]
    exact b187_9 hP (fun _ => b187_130 hP (k r' m' hA)) (fun q => absurd (by rw [hN1]; exact Int32.le_refl _) q)
  · intro n hn ih r' m' x6 v8 hA h6
    have hN1 : m' 108 2 = nI (fN f) := by rw [hA.2 2 (by decide), hN0]
    have hM' : MV m' (fN f) c := hM.ag hA (by simp) (by decide)
    have hC' : CfM m' f := hC.ag hA (by simp) (by decide)
    obtain ⟨e1, e2, e3, e4, e5, e6, e7⟩ := hM'.1 n hn
    obtain ⟨q1, q2⟩ := hC'.2.2.2.2.2.2.1 n hn
    have vn : vp_in (nI n) 8 := vpn (by omega) (by decide)
    have hn8 : n < 8 := by omega
    have no : gS f c rm z b n ≠ true → ∀ v8, P 124 [.ref 108, .int (nI rm), .int (nI z), .int (nI z), .int (nI b), .int (oI (pick (gW f c z) (gS f c rm z b) n)), .int x6, .int (nI n), v8] [] (0, 0) (LAY, RFu r', m') := fun h v8 => by
      refine b187_124 hP ?_
      rw [nIs]
      have e : pick (gW f c z) (gS f c rm z b) (n + 1) = pick (gW f c z) (gS f c rm z b) n := by
        rw [pick_s]
        cases pick (gW f c z) (gS f c rm z b) n with
        | none => simp only [if_neg h]
        | some w => simp [bfalse h]
      rw [e] at ih
      exact ih r' m' x6 v8 hA h6
    have yes : gS f c rm z b n = true → ∀ v8, P 91 [.ref 108, .int (nI rm), .int (nI z), .int (nI z), .int (nI b), .int (oI (pick (gW f c z) (gS f c rm z b) n)), .int x6, .int (nI n), v8] [] (0, 0) (LAY, RFu r', m') := fun h v8 => by
      obtain ⟨xsA, xsG, hA1, hG1, hx⟩ := hC'.2.2.2.2.2.2.2.2.2
      have hE : ∃ xs, RuE m' z xs ∧ gW f c z n = rv (envF (m' 110) (m' 111) c n) xs := by
        have : z = 0 ∨ z = 1 := by omega
        rcases this with hz0 | hz1
        · rw [hz0]; exact ⟨xsA, hA1, (hx c n hn).1⟩
        · rw [hz1]; exact ⟨xsG, hG1, (hx c n hn).2⟩
      obtain ⟨xs, hE1, hE2⟩ := hE
      refine b187_91 hP (c181 hz hn8 hE1 (hC'.pv hM' hn) fun r2 m2 hA2 => Bk.i ?_)
      rw [← hE2]
      have hA3 : AgM [] qV mem m2 := hA.trans hA2
      cases e : pick (gW f c z) (gS f c rm z b) n with
      | none =>
        have e' : pick (gW f c z) (gS f c rm z b) (n + 1) = some n := by rw [pick_s, e]; exact if_pos h
        rw [e'] at ih
        refine b187_98 hP (fun _ => b187_116 hP (b187_124 hP ?_)) (fun q => absurd rfl q)
        rw [nIs]
        exact ih r2 m2 _ _ hA3 (fun w hw => by cases hw; rfl)
      | some w =>
        have hw := (pick_in e).1
        rw [pick_s, e] at ih
        simp only [h, Bool.true_and, decide_eq_true_eq] at ih
        rw [h6 w e]
        refine b187_98 hP (fun q => absurd q (nI_nm (by omega))) (fun _ => b187_106 hP (fun q => b187_116 hP (b187_124 hP ?_)) (fun q => b187_113 hP (b187_124 hP ?_)))
        · rw [nIs]
          rw [if_pos q] at ih
          exact ih r2 m2 _ _ hA3 (fun w hw => by cases hw; rfl)
        · rw [nIs]
          rw [if_neg q] at ih
          exact ih r2 m2 _ _ hA3 (fun w hw => by cases hw; rfl)
    refine b187_9 hP (fun q => absurd q (by rw [hN1]; exact nI_ge hn (by omega))) (fun _ => b187_18 hP vn (fun q => no ?_ _) (fun q => b187_29 hP vn (fun s => ?_) (fun s => b187_40 hP (no ?_ _))))
    · rw [nIc (by omega), e1] at q
      intro h
      unfold gS at h
      split at h
      · exact q (psS_t.mp h).2.1
      · split at h
        · exact q (giS_lt h).2.1
        · exact q (asS_lt h).2.1
    · rw [nIc (by omega), e1] at q
      rw [nIc (by omega), e2] at s
      have hp12 := hPV.p12 hn (by rw [q]; exact nI_nm' hrm)
      have hz01 : z = 0 ∨ z = 1 := by omega
      have hpose : c (8 + n) = if z = 1 then 2 else 1 := by
        rcases hz01 with hz0 | hz1
        · rw [hz0] at s ⊢
          have := b01_0.mp s
          rcases hp12 with h | h
          · exact h
          · exact absurd h this
        · rw [hz1] at s ⊢
          exact b01_1.mp s
      refine b187_43 hP (fun y => yes ?_ _) (fun y => ?_)
      · have hb0 : b = 0 := nI_inj y (by omega) (by decide)
        unfold gS
        rw [if_pos hb0]
        exact psS_t.mpr ⟨hn, q, hpose⟩
      · have hb0 : ¬ b = 0 := fun w => y (by rw [w]; rfl)
        refine b187_48 hP (fun y2 => b187_77 hP vn (fun y3 => yes ?_ _) (fun y3 => b187_88 hP (no ?_ _))) (fun y2 => b187_53 hP vn (fun y3 => no ?_ _) (fun y3 => b187_64 hP vn (fun y4 => yes ?_ _) (fun y4 => b187_74 hP (no ?_ _))))
        · have hz0 : z = 0 := hz01.resolve_right fun w => y2 (by rw [w])
          rw [nIc (by omega), e4] at y3
          unfold gS
          rw [if_neg hb0, if_neg (by omega)]
          rw [if_neg (by omega)] at hpose
          exact asS_t hn q hpose y3
        · have hz0 : z = 0 := hz01.resolve_right fun w => y2 (by rw [w])
          rw [nIc (by omega), e4] at y3
          unfold gS
          rw [if_neg hb0, if_neg (by omega)]
          exact fun w => y3 (asS_lt w).2.2.2
        · have hz1 : z = 1 := nI_inj y2 (by omega) (by decide)
          rw [nIc (by omega), e3] at y3
          unfold gS
          rw [if_neg hb0, if_pos hz1]
          exact fun w => absurd (giS_lt w).2.2.2.1 (Int32.not_le.mpr y3)
        · have hz1 : z = 1 := nI_inj y2 (by omega) (by decide)
          rw [nIc (by omega), e3] at y3
          rw [nIc (by omega), q1] at y4
          unfold gS
          rw [if_neg hb0, if_pos hz1]
          rw [if_pos hz1] at hpose
          exact giS_t hn q hpose (Int32.not_lt.mp y3) y4
        · have hz1 : z = 1 := nI_inj y2 (by omega) (by decide)
          rw [nIc (by omega), q1] at y4
          unfold gS
          rw [if_neg hb0, if_pos hz1]
          exact fun w => y4 (giS_lt w).2.2.2.2
    · rw [nIc (by omega), e1] at q
      rw [nIc (by omega), e2] at s
      have hz01 : z = 0 ∨ z = 1 := by omega
      intro h
      have hp : c (8 + n) = if z = 1 then 2 else 1 := by
        unfold gS at h
        split at h
        · exact (psS_t.mp h).2.2
        · split at h
          · rename_i w; rw [if_pos w]; exact (giS_lt h).2.2.1
          · rename_i w; rw [if_neg w]; exact (asS_lt h).2.2.1
      rcases hz01 with hz0 | hz1
      · rw [hz0] at s
        rw [if_neg (by omega)] at hp
        exact s (b01_f (by rw [hp]; exact i12))
      · rw [hz1] at s
        rw [if_pos hz1] at hp
        exact s (b01_t hp)
theorem c188 {rm : Nat} (hN0 : mem 108 2 = nI (fN f)) (hN : fN f ≤ 8) (hM : MV mem (fN f) c) (k : Q (some (.int (nI (cnt (psS (fN f) c rm 2) 8)))) (LAY, RFu r, mem)) : xCall (d + 1) 188 [.ref 108, .int (nI rm)] (LAY, RFu r, mem) Q := by
  rw [cnt_ext (N := fN f) hN (fun p h1 h2 => bfalse fun q => by have := psS_lt q; omega)] at k
  refine c_in rfl rfl rfl fun P hP => b188_0 hP ?_
  have key := xloop (N := fN f) (G := fun n => P 4 [.ref 108, .int (nI rm), .int (nI (cnt (psS (fN f) c rm 2) n)), .int (nI n)] [] (0, 0) (LAY, RFu r, mem)) ?_ ?_
  · exact key
  · exact b188_4 hP (fun _ => b188_46 hP k) (fun q => absurd (by rw [hN0]; exact Int32.le_refl _) q)
  · intro n hn ih
    obtain ⟨e1, e2, -⟩ := hM.1 n hn
    have vn : vp_in (nI n) 8 := vpn (by omega) (by decide)
    change P 4 [_, _, .int (nI (cnt (psS (fN f) c rm 2) n + (if psS (fN f) c rm 2 n = true then 1 else 0))), _] _ _ _ at ih
    have no : psS (fN f) c rm 2 n ≠ true → P 37 [.ref 108, .int (nI rm), .int (nI (cnt (psS (fN f) c rm 2) n)), .int (nI n)] [.int (nI (cnt (psS (fN f) c rm 2) n))] (0, 0) (LAY, RFu r, mem) := fun h => by
      rw [if_neg h] at ih
      refine b188_37 hP (b188_38 hP ?_)
      rw [nI_add, nIs]
      exact ih
    refine b188_4 hP (fun q => absurd q (by rw [hN0]; exact nI_ge hn (by omega))) (fun _ => b188_12 hP vn (fun q => no ?_) (fun q => b188_23 hP vn (fun s => no ?_) (fun s => b188_33 hP (b188_38 hP ?_))))
    · rw [nIc (by omega), e1] at q
      exact fun h => q (psS_t.mp h).2.1
    · rw [nIc (by omega), e2] at s
      exact fun h => s (b01_t (psS_t.mp h).2.2)
    · rw [nIc (by omega), e1] at q
      rw [nIc (by omega), e2] at s
      rw [if_pos (psS_t.mpr ⟨hn, q, b01_1.mp s⟩)] at ih
      rw [nI_add, nIs]
      exact ih
theorem psS_mv {N : Nat} {c : Nat → Int32} {S T : Nat → Bool} {rm : Nat} {x y : Int32} (hS : ∀ p, S p = psS N c rm x p) (hxy : x ≠ y) (hT : ∀ p, p < 8 → T p = true → S p = true) : ∀ p, p < 8 → psS N (posW c S T y) rm x p = T p := fun p hp => by
  have e : psS N (posW c S T y) rm x p = (decide (p < N) && decide (posW c S T y p = nI rm) && decide (posW c S T y (8 + p) = x)) := rfl
  rw [e, posW_lo (by omega), posW_p hp]
  by_cases h : T p = true
  · have hs := hT p hp h
    have hs2 := hs
    rw [hS p] at hs2
    obtain ⟨a1, a2, a3⟩ := psS_t.mp hs2
    rw [h, if_neg (by simp), decide_eq_true a1, decide_eq_true a2, decide_eq_true a3]
    rfl
  · rw [bfalse h]
    by_cases hs : S p = true
    · rw [hs, if_pos (by simp), decide_eq_false (p := y = x) (fun q => hxy q.symm), Bool.and_false]
    · rw [bfalse hs, if_neg (by simp)]
      have := bfalse hs
      rw [hS p] at this
      exact this
/-- the first loop: who sits too many stands up -/
theorem rm_up {rm H : Nat} {P : xPr} (hP : Cl (d + 71) none 189 P Q) (hrm : rm < 4) (hH : H ≤ 16)
    (hC : CfM mem f) (hPV : PV (fN f) c) (hM : MV mem (fN f) c)
    (k : ∀ r' mem' c', AgM [115] qV mem mem' → MV mem' (fN f) c' → c' = posW c (psS (fN f) c rm 2) (lf (fG f c) (psS (fN f) c rm 2) (cnt (psS (fN f) c rm 2) 8 - H)) 1 → cnt (psS (fN f) c' rm 2) 8 ≤ H → P 26 [.ref 108, .int (nI rm), .int (nI H), .null, .null, .null] [] (0, 0) (LAY, RFu r', mem')) :
    P 0 [.ref 108, .int (nI rm), .int (nI H), .null, .null, .null] [] (0, 0) (LAY, RFu r, mem) := by
  have hN := hC.2.2.2.1
  generalize hS : psS (fN f) c rm 2 = S at *
  generalize hw : fG f c = w at *
  have hcl : cnt S 8 ≤ 8 := cnt_le S 8
  have key := xloop (N := cnt S 8 - H) (G := fun j => ∀ r' m', AgM [115] qV mem m' → MV m' (fN f) (posW c S (lf w S j) 1) → P 0 [.ref 108, .int (nI rm), .int (nI H), .null, .null, .null] [] (0, 0) (LAY, RFu r', m')) ?_ ?_
  · refine key r mem AgM.rfl' ?_
    show MV mem (fN f) (posW c S S 1)
    rw [posW_0]
    exact hM
  · intro r' m' hA hMv
    have hcn : cnt (psS (fN f) (posW c S (lf w S (cnt S 8 - H)) 1) rm 2) 8 = cnt S 8 - (cnt S 8 - H) := by
      rw [cnt_congr 8 (psS_mv (fun p => by rw [hS]) i21 (fun p _ h => lf_sub h)), lf_cnt]
    refine b189_0 hP (c188 (by rw [hA.2 2 (by decide), hC.2.2.1]) hN hMv (Bk.i (b189_5 hP (fun _ => k r' m' _ hA hMv rfl (by rw [hcn]; omega)) (fun q => absurd (nI_le ?_ (by omega)) q))))
    rw [hcn]; omega
  · intro j hj ih r' m' hA hMv
    have hC' : CfM m' f := hC.ag hA (by decide) (by decide)
    have hcn : cnt (psS (fN f) (posW c S (lf w S j) 1) rm 2) 8 = cnt S 8 - j := by
      rw [cnt_congr 8 (psS_mv (fun p => by rw [hS]) i21 (fun p _ h => lf_sub h)), lf_cnt]
    refine b189_0 hP (c188 (by rw [hA.2 2 (by decide), hC.2.2.1]) hN hMv (Bk.i (b189_5 hP (fun q => absurd q (nI_ge ?_ (by omega))) (fun _ => b189_9 hP ?_))))
    · rw [hcn]; omega
    · have hPV' : PV (fN f) (posW c S (lf w S j) 1) := PV_posW hN hPV (fun p z => by rw [← hS] at z; rw [(psS_t.mp z).2.1]; exact nI_nm' hrm) (Or.inl rfl)
      refine c187 (z := 1) (b := 0) hC' hMv hPV' hrm (by decide) (by decide) fun r2 m2 hA2 => Bk.i ?_
      have ep : pick (gW f (posW c S (lf w S j) 1) 1) (gS f (posW c S (lf w S j) 1) rm 1 0) 8 = pick w (lf w S j) 8 := by
        refine pick_congr (psS_mv (x := 2) (fun p => by rw [hS]) i21 (fun p _ h => lf_sub h)) (fun p hp hs => ?_)
        show fG f (posW c S (lf w S j) 1) p = w p
        rw [← hw]
        exact (hC'.wf (fun i h1 h2 => posW_lo (by omega)) (gS_lt (z := 1) (b := 0) (rm := rm) hs)).2
      rw [ep]
      cases e : pick w (lf w S j) 8 with
      | none =>
        have := cnt_none (pick_none.mp e)
        rw [lf_cnt] at this
        omega
      | some b =>
        obtain ⟨hb, hbS⟩ := pick_in e
        have hbS2 := lf_sub hbS
        refine b189_21 hP (vpn hb (by decide)) ?_
        show P 0 _ [] (0, 0) (LAY, RFu r2, xu2 m2 115 (nI b).toNatClampNeg (nI 0))
        rw [nIc (by omega)]
        refine ih r2 _ ((hA.trans (hA2.mono (by simp) (fun _ h => h))).u2 (by simp) (by decide)) ?_
        have := (hMv.ag hA2 (by simp) (by decide)).pose hN hb (x := 1) (y := nI 0) (by rw [b01_f i12]; rfl)
        rw [posW_s hb hbS2] at this
        rw [lf_s e]
        exact this
/-- the second loop: who stands sits down -/
theorem rm_dn {rm H : Nat} {P : xPr} (hP : Cl (d + 71) none 189 P Q) (hrm : rm < 4) (hH : H ≤ 16)
    (hC : CfM mem f) (hPV : PV (fN f) c) (hM : MV mem (fN f) c) (hcn : cnt (psS (fN f) c rm 2) 8 ≤ H)
    (k : ∀ r' mem' v3 c', AgM [115] qV mem mem' → MV mem' (fN f) c' → c' = posW c (psS (fN f) c rm 1) (lf (fA f c) (psS (fN f) c rm 1) (H - cnt (psS (fN f) c rm 2) 8)) 2 → P 68 [.ref 108, .int (nI rm), .int (nI H), v3, .null, .null] [] (0, 0) (LAY, RFu r', mem')) :
    P 26 [.ref 108, .int (nI rm), .int (nI H), .null, .null, .null] [] (0, 0) (LAY, RFu r, mem) := by
  have hN := hC.2.2.2.1
  generalize hS : psS (fN f) c rm 1 = S at *
  generalize hw : fA f c = w at *
  generalize hn2 : cnt (psS (fN f) c rm 2) 8 = n2 at *
  have hPVj : ∀ j, PV (fN f) (posW c S (lf w S j) 2) := fun j => PV_posW hN hPV (fun p z => by rw [← hS] at z; rw [(psS_t.mp z).2.1]; exact nI_nm' hrm) (Or.inr rfl)
  have ep : ∀ j, pick (gW f (posW c S (lf w S j) 2) 0) (gS f (posW c S (lf w S j) 2) rm 0 0) 8 = pick w (lf w S j) 8 := fun j => by
    refine pick_congr (psS_mv (x := 1) (fun p => by rw [hS]) i12 (fun p _ h => lf_sub h)) (fun p hp hs => ?_)
    show fA f (posW c S (lf w S j) 2) p = w p
    rw [← hw]
    exact (hC.wf (fun i h1 h2 => posW_lo (by omega)) (gS_lt (z := 0) (b := 0) (rm := rm) hs)).1
  have main : ∀ t j, j + t = H - n2 → ∀ r' m' , AgM [115] qV mem m' → MV m' (fN f) (posW c S (lf w S j) 2) → cnt (psS (fN f) (posW c S (lf w S j) 2) rm 2) 8 = n2 + j → P 35 [.ref 108, .int (nI rm), .int (nI H), .int (oI (pick w (lf w S j) 8)), .null, .null] [] (0, 0) (LAY, RFu r', m') := by
    intro t
    induction t with
    | zero =>
      intro j hj r' m' hA hMv hc
      have fin : ∀ v3, P 68 [.ref 108, .int (nI rm), .int (nI H), v3, .null, .null] [] (0, 0) (LAY, RFu r', m') := fun v3 => k r' m' v3 _ hA hMv (by rw [← hj, Nat.add_zero])
      refine b189_35 hP (fun _ => fin _) (fun _ => b189_40 hP (c188 (by rw [hA.2 2 (by decide), hC.2.2.1]) hN hMv (Bk.i (b189_45 hP (fun _ => fin _) (fun q => absurd (nI_le ?_ ?_) q)))))
      · rw [hc]; omega
      · have := cnt_le (psS (fN f) (posW c S (lf w S j) 2) rm 2) 8; omega
    | succ t ih =>
      intro j hj r' m' hA hMv hc
      have hC' : CfM m' f := hC.ag hA (by decide) (by decide)
      cases e : pick w (lf w S j) 8 with
      | none =>
        refine b189_35 hP (fun _ => k r' m' _ _ hA hMv ?_) (fun q => absurd rfl q)
        rw [← hj, lf_stop e]
      | some b =>
        obtain ⟨hb, hbS⟩ := pick_in e
        have hbS2 := lf_sub hbS
        have hbN : b < fN f := by rw [← hS] at hbS2; exact psS_lt hbS2
        refine b189_35 hP (fun q => absurd q (nI_nm (by omega))) (fun _ => b189_40 hP (c188 (by rw [hA.2 2 (by decide), hC.2.2.1]) hN hMv (Bk.i (b189_45 hP (fun q => absurd q (nI_ge ?_ (by omega))) (fun _ => b189_49 hP (vpn hb (by decide)) ?_)))))
        · rw [hc]; omega
        · show xCall _ _ _ (LAY, RFu r', xu2 m' 115 (nI b).toNatClampNeg (nI 1)) _
          rw [nIc (by omega)]
          have hMv2 : MV (xu2 m' 115 b (nI 1)) (fN f) (posW c S (lf w S (j + 1)) 2) := by
            have := hMv.pose hN hb (x := 2) (y := nI 1) (by rw [b01_t rfl]; rfl)
            rw [posW_s hb hbS2] at this
            rw [lf_s e]
            exact this
          have hA2 : AgM [115] qV mem (xu2 m' 115 b (nI 1)) := hA.u2 (by simp) (by decide)
          have hc2 : cnt (psS (fN f) (posW c S (lf w S (j + 1)) 2) rm 2) 8 = n2 + (j + 1) := by
            have hnb : psS (fN f) (posW c S (lf w S j) 2) rm 2 b = false := by
              have h1 := psS_mv (x := 1) (y := 2) (rm := rm) (N := fN f) (c := c) (S := S) (T := lf w S j) (fun p => by rw [hS]) i12 (fun p _ h => lf_sub h) b hb
              rw [hbS] at h1
              refine bfalse fun q => ?_
              have := (psS_t.mp h1).2.2
              rw [(psS_t.mp q).2.2] at this
              exact i21 this
            rw [← Nat.add_assoc, ← hc, ← cnt_add hb hnb]
            refine cnt_congr 8 (fun p hp => ?_)
            have ee : posW c S (lf w S (j + 1)) 2 = upd (posW c S (lf w S j) 2) (8 + b) 2 := by rw [lf_s e, posW_s hb hbS2]
            rw [ee]
            unfold psS
            rw [upd_ne (by omega)]
            by_cases eb : p = b
            · subst eb
              rw [upd_at, posW_lo (by omega), decide_eq_true hbN, decide_eq_true (p := p = p) rfl, decide_eq_true (p := (2 : Int32) = 2) rfl]
              rw [← hS] at hbS2
              rw [decide_eq_true (psS_t.mp hbS2).2.1]
              simp
            · rw [upd_ne (by omega), decide_eq_false eb, Bool.or_false]
          refine c187 (z := 0) (b := 0) (hC.ag hA2 (by decide) (by decide)) hMv2 (hPVj (j + 1)) hrm (by decide) (by decide) fun r2 m2 hA3 => Bk.i (b189_64 hP ?_)
          rw [ep]
          exact ih (j + 1) (by omega) r2 m2 (hA2.trans (hA3.mono (by simp) (fun _ h => h))) (hMv2.ag hA3 (by simp) (by decide)) hc2
  have h0 : posW c S (lf w S 0) 2 = c := by show posW c S S 2 = c; rw [posW_0]
  refine b189_26 hP (c187 (z := 0) (b := 0) (c := posW c S (lf w S 0) 2) hC (by rw [h0]; exact hM) (hPVj 0) hrm (by decide) (by decide) fun r2 m2 hA2 => Bk.i (b189_34 hP ?_))
  rw [ep 0]
  refine main (H - n2) 0 (by omega) r2 m2 (hA2.mono (by simp) (fun _ h => h)) ?_ ?_
  · rw [h0]; exact hM.ag hA2 (by simp) (by decide)
  · rw [h0, hn2]; rfl
theorem c189 {rm : Nat} (hrm : rm < fR f) (hC : CfM mem f) (hPV : PV (fN f) c) (hM : MV mem (fN f) c)
    (k : ∀ r' mem', AgM [115, 120, 121, 130, 131] qV mem mem' → MV mem' (fN f) (rmG f (rm1 f c rm) rm) → mem' 130 = upd (mem 130) rm (oA (askR f (rm1 f c rm) rm)) → (∀ j, j ≠ rm → mem' 131 j = mem 131 j) → (∀ ab, askR f (rm1 f c rm) rm = some ab → mem' 131 rm = nI ab.2) → Q (some (.int (b01 ((askR f (rm1 f c rm) rm).isSome = true)))) (LAY, RFu r', mem')) :
    xCall (d + 72) 189 [.ref 108, .int (nI rm), .int (nI (fH f rm))] (LAY, RFu r, mem) Q := by
  have hN := hC.2.2.2.1
  have hr4 : rm < 4 := Nat.lt_of_lt_of_le hrm hC.2.1
  have hH := (hC.2.2.2.2.1 rm hrm).2
  have hPV1 := PV_rm1 hN hr4 hPV
  have vr : vp_in (nI rm) 4 := vpn hr4 (by decide)
  refine c_in rfl rfl rfl fun P hP => ?_
  have go : ∀ r1 m1 v3, AgM [115] qV mem m1 → MV m1 (fN f) (rm1 f c rm) → P 68 [.ref 108, .int (nI rm), .int (nI (fH f rm)), v3, .null, .null] [] (0, 0) (LAY, RFu r1, m1) := fun r1 m1 v3 hA1 hM1 => by
    generalize hc1 : rm1 f c rm = c1 at k hPV1 hM1
    have hC1 : CfM m1 f := hC.ag hA1 (by decide) (by decide)
    refine b189_68 hP (c187 (z := 0) (b := 1) hC1 hM1 hPV1 hr4 (by decide) (by decide) fun r2 m2 hA2 => Bk.i (b189_76 hP ?_))
    have hC2 : CfM m2 f := hC1.ag hA2 (by simp) (by decide)
    have hM2 := hM1.ag hA2 (by simp) (by decide)
    refine c187 (z := 1) (b := 1) hC2 hM2 hPV1 hr4 (by decide) (by decide) fun r3 m3 hA3 => Bk.i ?_
    have hA13 : AgM [115] qV mem m3 := (hA1.trans (hA2.mono (by simp) (fun _ h => h))).trans (hA3.mono (by simp) (fun _ h => h))
    have hA13' : AgM [115, 120, 121, 130, 131] qV mem m3 := hA13.mono (by simp) (fun _ h => h)
    have hM3 := hM2.ag hA3 (by simp) (by decide)
    have e130 : m3 130 = mem 130 := hA13.1 130 (by simp) (by decide)
    have e131 : m3 131 = mem 131 := hA13.1 131 (by simp) (by decide)
    show P 86 [_, _, _, _, .int (oI (pick (fA f c1) (asS f c1 rm) 8)), _] [.int (oI (pick (fG f c1) (giS f c1 rm) 8))] (0, 0) (LAY, RFu r3, m3)
    have none_ : askR f c1 rm = none → Q (some (.int (nI 0))) (LAY, RFu r3, xu2 m3 130 rm (-1)) := fun e => by
      have := k r3 (xu2 m3 130 rm (-1)) (hA13'.u2 (by simp) (by decide)) (by
        have : rmG f c1 rm = c1 := by unfold rmG; rw [e]
        rw [this]
        exact hM3.ag (W := [130]) (V := []) (AgM.rfl'.u2 (by simp) (by decide)) (by decide) (by decide)) (by rw [xu2_eq, e130, e]; rfl) (fun j hj => by rw [xu2_ne (by decide), e131]) (fun ab h => by rw [e] at h; cases h)
      rw [e] at this
      exact this
    refine b189_86 hP vr (fun z => b189_107 hP (Or.inl rfl) ?_) (fun z => b189_101 hP (fun z2 => ?_) (fun z2 => b189_107 hP (Or.inl rfl) ?_))
    · rw [nIc (by omega)]
      cases e1 : pick (fA f c1) (asS f c1 rm) 8 with
      | none => exact none_ (askR_n1 e1)
      | some a => rw [e1] at z; exact absurd z (nI_nm (by have := (pick_in e1).1; omega))
    · cases e1 : pick (fA f c1) (asS f c1 rm) 8 with
      | none => rw [e1] at z; exact absurd rfl z
      | some a =>
        cases e2 : pick (fG f c1) (giS f c1 rm) 8 with
        | none => rw [e2] at z2; exact absurd rfl z2
        | some b =>
          obtain ⟨ha, haS⟩ := pick_in e1
          obtain ⟨hb, hbS⟩ := pick_in e2
          have hab : b ≠ a := fun q => by
            have h1 := (asS_lt haS).2.2.1
            have h2 := (giS_lt hbS).2.2.1
            rw [q, h1] at h2
            exact i12 h2
          have e := askR_s e1 e2
          refine b189_109 hP vr vr (vpn ha (by decide)) (vpn hb (by decide)) (vpn hb (by decide)) (vpn hb (by decide)) (vpn ha (by decide)) (vpn ha (by decide)) ?_ ?_ (Or.inr rfl) ?_
          · show vp_in (nI 8 * nI b + nI a) 64
            rw [nI_mul, nI_add]; exact vpn (by omega) (by decide)
          · show vp_in (nI 8 * nI b + nI a) 64
            rw [nI_mul, nI_add]; exact vpn (by omega) (by decide)
          · show Q (some (.int (nI 1))) _
            have ei : (oI (some a)).toNatClampNeg = a := nIc (by omega)
            have ei2 : (oI (some b)).toNatClampNeg = b := nIc (by omega)
            have ei3 : (nI 8 * oI (some b) + oI (some a)).toNatClampNeg = 8 * b + a := by
              show (nI 8 * nI b + nI a).toNatClampNeg = _
              rw [nI_mul, nI_add, nIc (by omega)]
            rw [ei, ei2, ei3, nIc (by omega)]
            have := fun m h1 h2 h3 h4 h5 => k r3 m h1 h2 h3 h4 h5
            rw [e] at this
            refine this _ ?_ ?_ ?_ ?_ ?_
            · exact (((((((((hA13'.u2 (by simp) (by decide)).u2 (by simp) (by decide)).u2 (by simp) (by decide)).u2 (by simp) (by decide)).u2 (by simp) (by decide)).u2 (by simp) (by decide)).u2 (by simp) (by decide)).u2 (by simp) (by decide)))
            · unfold rmG
              rw [e]
              obtain ⟨g1, g2, g3⟩ := hM3
              refine ⟨fun p hp => ?_, fun g hg => ?_, ?_⟩
              · obtain ⟨f1, f2, f3, f4, f5, f6, f7⟩ := g1 p hp
                simp only [xu2_ne, ne_eq, Nat.reduceEqDiff, not_false_eq_true]
                show _ = giv c1 b a p ∧ _ = b01 (giv c1 b a (8 + p) = 2) ∧ _ = giv c1 b a (16 + p) ∧ _ = giv c1 b a (24 + p) ∧ _ = giv c1 b a (32 + p) ∧ _ = giv c1 b a (40 + p) ∧ _ = giv c1 b a (48 + p)
                rw [giv_lo hb ha (by omega), giv_p hb ha (by omega), giv_lo hb ha (i := 16 + p) (by omega), giv_lo hb ha (i := 24 + p) (by omega), giv_lo hb ha (i := 32 + p) (by omega), giv_lo hb ha (i := 40 + p) (by omega)]
                refine ⟨f1, ?_, f3, f4, f5, f6, ?_⟩
                · rw [xu2_eq, xu2_eq]
                  by_cases pb : p = b
                  · rw [if_neg (by omega), if_pos pb, pb, upd_at, b01_f i12]; rfl
                  · rw [upd_ne pb]
                    by_cases pa : p = a
                    · rw [if_pos pa, pa, upd_at, b01_t rfl]; rfl
                    · rw [upd_ne pa, if_neg pa, if_neg pb]
                      simp only [xu2_ne, ne_eq, Nat.reduceEqDiff, not_false_eq_true]
                      exact f2
                · simp only [xu2_eq, xu2_ne, ne_eq, Nat.reduceEqDiff, not_false_eq_true]
                  unfold giv
                  by_cases pa : p = a
                  · subst pa
                    rw [upd_at, upd_at, upd_ne (by omega), f7]
                    rw [n1]
                  · rw [upd_ne pa, upd_ne (i := 48 + a) (by omega)]
                    by_cases pb : p = b
                    · subst pb
                      rw [upd_at, upd_at, f7, n1]
                    · rw [upd_ne pb, upd_ne (by omega), upd_ne (by omega), upd_ne (by omega), upd_ne (by omega)]
                      exact f7
              · show _ = giv c1 b a (56 + g)
                unfold giv
                rw [upd_ne (by omega), upd_ne (by omega), xu2_eq]
                simp only [xu2_ne, ne_eq, Nat.reduceEqDiff, not_false_eq_true]
                by_cases eg : g = 8 * b + a
                · rw [eg, upd_at, show 56 + (8 * b + a) = 56 + 8 * b + a by omega, upd_at, g2 (8 * b + a) (by omega), show 56 + (8 * b + a) = 56 + 8 * b + a by omega]
                  rfl
                · rw [upd_ne eg, upd_ne (by omega), upd_ne (by omega), upd_ne (by omega)]
                  exact g2 g hg
              · simp only [xu2_ne, ne_eq, Nat.reduceEqDiff, not_false_eq_true]
                show _ = giv c1 b a 120
                rw [giv_lo hb ha (by omega)]
                exact g3
            · simp only [xu2_eq, xu2_ne, ne_eq, Nat.reduceEqDiff, not_false_eq_true]
              rw [e130]
              funext j
              unfold upd
              by_cases q : j = rm
              · rw [if_pos q, if_pos q]; rfl
              · rw [if_neg q, if_neg q, if_neg q]
            · intro j hj
              simp only [xu2_eq, xu2_ne, ne_eq, Nat.reduceEqDiff, not_false_eq_true]
              rw [upd_ne hj, e131]
            · intro ab hab2
              cases hab2
              simp only [xu2_eq, xu2_ne, ne_eq, Nat.reduceEqDiff, not_false_eq_true]
              rw [upd_at]
              rfl
    · rw [nIc (by omega)]
      cases e2 : pick (fG f c1) (giS f c1 rm) 8 with
      | none => exact none_ (askR_n2 e2)
      | some a => rw [e2] at z2; exact absurd z2 (nI_nm (by have := (pick_in e2).1; omega))
  refine rm_up hP hr4 hH hC hPV hM fun r1 m1 c1 hA1 hM1 e1 hcn => ?_
  have hC1 : CfM m1 f := hC.ag hA1 (by decide) (by decide)
  have hPVc : PV (fN f) c1 := by
    rw [e1]
    exact PV_posW hN hPV (fun p z => by rw [(psS_t.mp z).2.1]; exact nI_nm' hr4) (Or.inl rfl)
  refine rm_dn hP hr4 hH hC1 hPVc hM1 hcn fun r2 m2 v3 c2 hA2 hM2 e2 => go r2 m2 v3 (hA1.trans hA2) ?_
  have : c2 = rm1 f c rm := by
    unfold rm1
    by_cases q : fH f rm < cnt (psS (fN f) c rm 2) 8
    · rw [if_pos q]
      have hc2 : cnt (psS (fN f) c1 rm 2) 8 = fH f rm := by
        rw [e1, cnt_congr 8 (psS_mv (fun p => rfl) i21 (fun p _ h => lf_sub h)), lf_cnt]
        omega
      rw [e2, hc2, Nat.sub_self]
      show posW c1 _ (psS (fN f) c1 rm 1) 2 = _
      rw [posW_0, e1]
    · rw [if_neg q]
      have hc1 : c1 = c := by
        rw [e1, show cnt (psS (fN f) c rm 2) 8 - fH f rm = 0 by omega]
        show posW c _ (psS (fN f) c rm 2) 1 = c
        rw [posW_0]
      rw [e2, hc1]
  rw [← this]
  exact hM2
end C
