theorem nI_neg {a b : Nat} (h : a < b) (hb : b < 2147483648) : ¬ 0 ≤ nI a - nI b := by
  have e : nI b - nI a = nI (b - a) := nI_sub (by omega)
  have e2 : nI a - nI b = -(nI (b - a)) := by rw [← e, Int32.neg_sub]
  rw [e2, Int32.le_iff_toInt_le, Int32.toInt_neg, nI_toInt (by omega), show (0 : Int32).toInt = 0 by decide, Int.bmod_eq_of_le (by omega) (by omega)]
  omega
theorem nI_negsub {a b : Nat} (h : a ≤ b) : -(nI a - nI b) = nI (b - a) := by rw [Int32.neg_sub, nI_sub h]
theorem n1 : nI 1 = 1 := by decide
theorem n2 : nI 2 = 2 := by decide
theorem n0 : nI 0 = 0 := by decide
theorem posW_e {c : Nat → Int32} {S T : Nat → Bool} {x : Int32} (h : ∀ p, p < 8 → S p = false) : posW c S T x = c := by
  rw [posW_congr (S' := S) (T' := S) (fun _ _ => rfl) (fun p hp z => by rw [h p hp] at z; cases z), posW_0]
/-- nobody behind the last one stands or sits -/
def OKc (N : Nat) (c : Nat → Int32) : Prop := ∀ p, N ≤ p → p < 8 → c (8 + p) = 0
theorem OKc_posW {N : Nat} {c : Nat → Int32} {S T : Nat → Bool} {x : Int32} (h : OKc N c) (hS : ∀ p, S p = true → p < N) : OKc N (posW c S T x) := fun p h1 h2 => by
  unfold posW
  rw [wr_at h2, show S p = false from bfalse fun z => by have := hS p z; omega]
  exact h p h1 h2
theorem psS_lt {N : Nat} {c : Nat → Int32} {r p : Nat} {x : Int32} (h : psS N c r x p = true) : p < N := by
  unfold psS at h
  simp only [Bool.and_eq_true, decide_eq_true_eq] at h
  exact h.1.1
theorem OKc_rm1 {f : xCf} {c : Nat → Int32} {r : Nat} (h : OKc (fN f) c) : OKc (fN f) (rm1 f c r) := by
  unfold rm1
  split
  · exact OKc_posW h (fun p z => psS_lt z)
  · exact OKc_posW h (fun p z => psS_lt z)
theorem askR_lt {f : xCf} {c : Nat → Int32} {r a b : Nat} (h : askR f c r = some (a, b)) : a < 8 ∧ b < 8 ∧ asS f c r a = true ∧ giS f c r b = true ∧ pick (fA f c) (asS f c r) 8 = some a ∧ pick (fG f c) (giS f c r) 8 = some b := by
  unfold askR at h
  cases e1 : pick (fA f c) (asS f c r) 8 with
  | none => rw [e1] at h; cases h
  | some a' =>
    cases e2 : pick (fG f c) (giS f c r) 8 with
    | none => rw [e1, e2] at h; cases h
    | some b' =>
      rw [e1, e2] at h
      cases h
      exact ⟨(pick_in e1).1, (pick_in e2).1, (pick_in e1).2, (pick_in e2).2, rfl, rfl⟩
theorem giv_o {c : Nat → Int32} {b a i : Nat} (h1 : i ≠ 8 + b) (h2 : i ≠ 8 + a) (h3 : i < 48 ∨ 120 ≤ i) (hb : b < 8) (ha : a < 8) : giv c b a i = c i := by
  unfold giv
  rw [upd_ne (by omega), upd_ne (by omega), upd_ne (by omega), upd_ne (by omega), upd_ne (by omega)]
theorem OKc_rmG {f : xCf} {c : Nat → Int32} {r : Nat} (h : OKc (fN f) c) : OKc (fN f) (rmG f c r) := by
  unfold rmG
  cases e : askR f c r with
  | none => exact h
  | some ab =>
    obtain ⟨a, b⟩ := ab
    obtain ⟨ha, hb, h1, h2, -⟩ := askR_lt e
    have h1 := (asS_lt h1).1
    have h2 := (giS_lt h2).1
    intro p hp hp8
    show giv c b a (8 + p) = 0
    rw [giv_o (by omega) (by omega) (by omega) hb ha]
    exact h p hp hp8
theorem goPn_ne {f : xCf} {c : Nat → Int32} {n i : Nat} (h : n ≤ i) (h2 : i < 8 ∨ 8 + n ≤ i) : goPn f c n i = c i := by
  unfold goPn
  rw [wr_ne (by omega), wr_ne (by omega)]
theorem goPn_s {f : xCf} {c : Nat → Int32} {n : Nat} (hn : n < 8) : goPn f c (n + 1) = upd (upd (goPn f c n) (8 + n) (if fP f (c 120) n = -1 then 0 else if fP f (c 120) n ≠ c n then 1 else c (8 + n))) n (fP f (c 120) n) := by
  unfold goPn
  rw [← wr_s (k := 0), ← wr_s (k := 8), wr_upd (k := 0) (i := 8 + n) (by omega), Nat.zero_add]
theorem upd_self {c : Nat → Int32} {i : Nat} {x : Int32} (h : c i = x) : upd c i x = c := by
  funext j
  unfold upd
  by_cases e : j = i
  · rw [if_pos e, e, h]
  · rw [if_neg e]
theorem OKc_goP {f : xCf} {c : Nat → Int32} (h : OKc (fN f) c) : OKc (fN f) (goP f c) := fun p h1 h2 => by
  unfold goP
  rw [goPn_ne (by omega) (by omega)]
  exact h p h1 h2
theorem OKc_rms {f : xCf} {c : Nat → Int32} (h : OKc (fN f) c) : ∀ n, OKc (fN f) (rms f c n)
  | 0 => h
  | n + 1 => OKc_rmG (OKc_rm1 (OKc_rms h n))
section C
variable {d r : Nat} {mem : Nat → Nat → Int32} {Q : xQr} {s t q p : Nat}
theorem c9 {now : Nat} (ht : isTown t) (hs : isState s) (hT : TC mem t) (hw : mem (s + 1) 120 = nI now) (hw2 : now < 1073741824)
    (k : ∀ mem', Ag [s + 1] mem mem' → mem' (s + 1) = goP (cfC mem t) (mem (s + 1)) → Q none (LAY, RFu r, mem')) : xCall (d + 2) 9 [.ref 51, .ref t, .ref s] (LAY, RFu r, mem) Q := by
  have hst := tc_ne ht hs
  have hN := hT.2.2.1
  have hN8 := hT.2.2.2.1
  generalize hc : mem (s + 1) = c at k hw
  generalize hf : cfC mem t = f at k
  have hfN : fN f = tN mem t := by rw [← hf]; rfl
  refine c_in rfl rfl rfl fun P hP => b9_0 hP ht hs ?_
  have key := xloop (N := fN f) (G := fun n => ∀ m' v5, Ag [s + 1] mem m' → m' (s + 1) = goPn f c n → P 8 [.ref 51, .ref t, .ref s, .ref (s + 1), .int (nI n), v5] [] (0, 0) (LAY, RFu r, m')) ?_ ?_
  · exact key mem _ Ag.rfl' (by rw [hc]; unfold goPn; rw [wr_0, wr_0])
  · intro m' v5 hA h
    have hN0 : m' t 1 = nI (fN f) := by rw [hA t (by have := hst 0 (by decide); simp; omega), hN, hfN]
    exact b9_8 hP ht hs (fun _ => b9_79 hP ht hs (k m' hA h)) (fun z => absurd (by rw [hN0]; exact Int32.le_refl _) z)
  · intro n hn ih m' v5 hA h
    have hn8 : n < 8 := by omega
    have hN0 : m' t 1 = nI (fN f) := by rw [hA t (by have := hst 0 (by decide); simp; omega), hN, hfN]
    have hE : ∀ k, k ∈ tCells → m' (t + k) = mem (t + k) := fun k hk => hA (t + k) (by have := hst k hk; simp; omega)
    have h120 : m' (s + 1) 120 = nI now := by rw [h, goPn_ne (by omega) (by omega), hw]
    refine b9_8 hP ht hs (fun z => absurd z (by rw [hN0]; exact nI_ge hn (by omega))) (fun _ => b9_17 hP ht hs (vpn (by decide) (by decide)) ?_)
    rw [nIc (by decide), h120]
    refine c89 ht (TC_eq hE hT) hn8 hw2 (Bk.i ?_)
    rw [cf_eq hE, hf, ← hw]
    have hg := goPn_s (f := f) (c := c) hn8
    generalize fP f (c 120) n = pl at hg
    have hn_ : m' (s + 1) n = c n := by rw [h, goPn_ne (by omega) (by omega)]
    have h8 : m' (s + 1) (8 + n) = c (8 + n) := by rw [h, goPn_ne (by omega) (by omega)]
    have k65 : ∀ m2, Ag [s + 1] m' m2 → m2 (s + 1) = upd (goPn f c n) (8 + n) (if pl = -1 then 0 else if pl ≠ c n then 1 else c (8 + n)) → P 65 [.ref 51, .ref t, .ref s, .ref (s + 1), .int (nI n), .int pl] [] (0, 0) (LAY, RFu r, m2) := fun m2 g1 g2 => by
      refine b9_65 hP ht hs (vpx (by omega) (by decide)) ?_
      rw [nIs, nIz, nIc (by omega)]
      exact ih _ _ ((hA.trans g1).u2 (by simp)) (by rw [xu2_eq, g2, hg])
    refine b9_27 hP ht hs (fun z => b9_46 hP ht hs (vpx (by omega) (by decide)) (fun z2 => k65 _ Ag.rfl' ?_) (fun z2 => b9_57 hP ht hs (vpx (by omega) (by decide)) (k65 _ (Ag.rfl'.u2 (by simp)) ?_))) (fun z => b9_35 hP ht hs (vpx (by omega) (by decide)) (k65 _ (Ag.rfl'.u2 (by simp)) ?_))
    · rw [nIz, nIc (by omega), hn_] at z2
      rw [if_neg z, if_neg (fun q => q z2), upd_self (by rw [← h, h8]), h]
    · rw [nIz, nIc (by omega), hn_] at z2
      rw [if_neg z, if_pos z2, nIx (by omega), xu2_eq, h]
      rfl
    · rw [if_pos z, nIx (by omega), xu2_eq, h]
      rfl
theorem cf_fR : fR (cfC mem t) = tR mem t := rfl
theorem cf_fN : fN (cfC mem t) = tN mem t := rfl
theorem cf_fH {n : Nat} : fH (cfC mem t) n = tH mem t n := rfl
theorem c8 {now : Nat} (ht : isTown t) (hs : isState s) (hT : TC mem t) (hO : OKc (tN mem t) (mem (s + 1))) (hw : mem (s + 1) 120 = nI now) (hw2 : now < 1073741824)
    (k : ∀ mem', Ag [52, 53, 54, t + 17, t + 20, s + 1] mem mem' → mem' (s + 1) = qtr (cfC mem t) (mem (s + 1)) →
      (∀ n, n < tR mem t → mem' 52 n = oA (rmA (cfC mem t) (goP (cfC mem t) (mem (s + 1))) n) ∧ mem' 53 n = oB (rmA (cfC mem t) (goP (cfC mem t) (mem (s + 1))) n)) →
      Q (some (.int (nI (qAsk (cfC mem t) (mem (s + 1)))))) (LAY, RFu r, mem')) : xCall (d + 5) 8 [.ref 51, .ref t, .ref s] (LAY, RFu r, mem) Q := by
  have hst := tc_ne ht hs
  have hR := hT.1
  have hR4 := hT.2.1
  have hN := hT.2.2.1
  have hN8 := hT.2.2.2.1
  have hH := hT.2.2.2.2.1
  have hs54 : s + 1 ≠ 52 ∧ s + 1 ≠ 53 ∧ s + 1 ≠ 54 ∧ s + 1 ≠ t + 17 ∧ s + 1 ≠ t + 20 := by unfold isState at hs; unfold isTown at ht; omega
  generalize hc : mem (s + 1) = c at k hw hO
  generalize hf : cfC mem t = f at k
  have hfN : fN f = tN mem t := by rw [← hf]; rfl
  have hfR : fR f = tR mem t := by rw [← hf]; rfl
  have hfH : ∀ n, fH f n = tH mem t n := fun n => by rw [← hf]; rfl
  rw [← hfN] at hO
  have hO2 := OKc_goP (f := f) hO
  refine c_in rfl rfl rfl fun P hP => b8_0 hP ht hs (c9 ht hs hT (by rw [hc]; exact hw) hw2 fun m0 g0 h0 => Bk.v (b8_8 hP ht hs ?_))
  rw [hf, hc] at h0
  generalize hcg : goP f c = c1 at h0 hO2
  have key := xloop (N := fR f) (G := fun n => ∀ m' v5 v6 v7, Ag [52, 53, 54, t + 17, t + 20, s + 1] mem m' → m' (s + 1) = rms f c1 n → (∀ j, j < n → m' 52 j = oA (rmA f c1 j) ∧ m' 53 j = oB (rmA f c1 j)) → P 11 [.ref 51, .ref t, .ref s, .int (nI (nAsk f c1 n)), .int (nI n), v5, v6, v7] [] (0, 0) (LAY, RFu r, m')) ?_ ?_
  · exact key m0 _ _ _ (g0.mono (fun c hc => by simp at hc ⊢; omega)) h0 (fun j hj => absurd hj (Nat.not_lt_zero j))
  · intro m' v5 v6 v7 hA hm hj
    have hE : ∀ k, k ∈ tCells → m' (t + k) = mem (t + k) := fun k hk => hA (t + k) (by have := hst k hk; simp; omega)
    have hR0 : m' t 0 = nI (fR f) := by rw [show m' t = mem t from hE 0 (by decide), hR, hfR]
    refine b8_11 hP ht hs (fun _ => b8_112 hP ht hs (c14 ht hs (TC_eq hE hT) fun m2 g2 h2 => Bk.v (b8_118 hP ht hs ?_))) (fun z => absurd (by rw [hR0]; exact Int32.le_refl _) z)
    have := k m2 (hA.trans (g2.mono (fun c hc => by simp at hc ⊢; omega))) ?_ (fun n hn => ?_)
    · unfold qAsk at this
      rw [hcg] at this
      exact this
    · rw [h2, hm]
      unfold qtr
      rw [hcg, hfN]
      congr 1
      unfold tN
      rw [show m' t = mem t from hE 0 (by decide)]
    · rw [g2 52 (by simp; omega), g2 53 (by simp; omega), hcg]
      exact hj n (by omega)
  · intro n hn ih m' v5 v6 v7 hA hm hj
    have hn4 : n < 4 := by omega
    have hE : ∀ k, k ∈ tCells → m' (t + k) = mem (t + k) := fun k hk => hA (t + k) (by have := hst k hk; simp; omega)
    have hR0 : m' t 0 = nI (fR f) := by rw [show m' t = mem t from hE 0 (by decide), hR, hfR]
    have hH0 : m' (t + 1) n = nI (fH f n) ∧ fH f n ≤ 16 := by rw [hE 1 (by decide), hfH]; exact hH n hn4
    have hOn := OKc_rms hO2 n
    have hcf : cfC m' t = f := by rw [cf_eq hE, hf]
    generalize hcn : rms f c1 n = cn at hm hOn
    have eS : ∀ x : Int32, x ≠ 0 → ∀ p, p < 8 → (decide (m' (s + 1) p = nI n) && decide (m' (s + 1) (8 + p) = x)) = psS (fN f) cn n x p := fun x hx p hp => by
      rw [hm]
      unfold psS
      by_cases z : p < fN f
      · rw [decide_eq_true z, Bool.true_and]
      · rw [decide_eq_false z, Bool.false_and, Bool.false_and, hOn p (by omega) hp, decide_eq_false (p := (0 : Int32) = x) (fun q => hx q.symm), Bool.and_false]
    have nx : ∀ m2 v5 v6 v7, Ag [52, 53, 54, t + 17, t + 20, s + 1] m' m2 → m2 52 = m' 52 → m2 53 = m' 53 → m2 (s + 1) = rm1 f cn n → P 92 [.ref 51, .ref t, .ref s, .int (nI (nAsk f c1 n)), .int (nI n), v5, v6, v7] [] (0, 0) (LAY, RFu r, m2) := fun m2 v5 v6 v7 g1 g2 g3 g4 => by
      have hE2 : ∀ k, k ∈ tCells → m2 (t + k) = mem (t + k) := fun k hk => (hA.trans g1) (t + k) (by have := hst k hk; simp; omega)
      have hcf2 : cfC m2 t = f := by rw [cf_eq hE2, hf]
      refine b8_92 hP ht hs (c13 ht hs (TC_eq hE2 hT) hn4 fun m3 q1 q2 q3 q4 => Bk.i ?_)
      rw [hcf2, g4] at q2 q3 q4
      rw [hcf2, g4]
      have er : rmA f c1 n = askR f (rm1 f cn n) n := by unfold rmA; rw [hcn]
      have hj2 : ∀ j, j < n + 1 → m3 52 j = oA (rmA f c1 j) ∧ m3 53 j = oB (rmA f c1 j) := fun j hj' => by
        rw [q2, q3, g2, g3]
        by_cases e : j = n
        · rw [e, upd_at, upd_at, er]
          exact ⟨rfl, rfl⟩
        · rw [upd_ne e, upd_ne e]
          exact hj j (by omega)
      have ih' := ih m3 v5 v6 v7 ((hA.trans g1).trans q1) (by rw [q4, ← hcn]; rfl) hj2
      have en : nAsk f c1 (n + 1) = nAsk f c1 n + (if (askR f (rm1 f cn n) n).isSome = true then 1 else 0) := by rw [← er]; rfl
      rw [en] at ih'
      refine b8_100 hP ht hs (fun z => b8_106 hP ht hs ?_) (fun z => b8_103 hP ht hs (b8_106 hP ht hs ?_))
      · rw [nIs]
        by_cases q : (askR f (rm1 f cn n) n).isSome = true
        · unfold b01 at z; rw [if_pos q] at z; exact absurd z (by decide)
        · rw [if_neg q] at ih'; exact ih'
      · rw [nIs, nIs]
        by_cases q : (askR f (rm1 f cn n) n).isSome = true
        · rw [if_pos q] at ih'; exact ih'
        · unfold b01 at z; rw [if_neg q] at z; exact absurd rfl z
    refine b8_11 hP ht hs (fun z => absurd z (by rw [hR0]; exact nI_ge hn (by omega))) (fun _ => b8_20 hP ht hs (c63 hs (Bk.i (b8_27 hP ht hs (c63 hs (Bk.i (b8_36 hP ht hs (vpn hn4 (by decide)) ?_)))))))
    rw [mkN_congr 8 (eS (nI 2) (by decide)), mkN_congr 8 (eS (nI 1) (by decide)), n2, n1, nIc (by omega), hH0.1]
    refine c237 (mkN8 _) (Bk.i ?_)
    rw [cnt_mk]
    have hcl := cnt_le (psS (fN f) cn n 2) 8
    refine b8_50 hP ht hs (fun z => ?_) (fun z => ?_)
    · have hle : cnt (psS (fN f) cn n 2) 8 ≤ fH f n := Nat.not_lt.mp fun q => nI_neg q (by omega) z
      have er : rm1 f cn n = posW cn (psS (fN f) cn n 1) (lf (fA f cn) (psS (fN f) cn n 1) (fH f n - cnt (psS (fN f) cn n 2) 8)) 2 := by unfold rm1; rw [if_neg (by omega)]
      rw [nI_sub hle]
      refine b8_72 hP ht hs (fun z2 => nx _ _ _ _ Ag.rfl' rfl rfl ?_) (fun z2 => b8_77 hP ht hs (fun z3 => nx _ _ _ _ Ag.rfl' rfl rfl ?_) (fun z3 => b8_82 hP ht hs (c11 ht hs (TC_eq hE hT) (by omega) fun m2 q1 q2 => Bk.v (nx _ _ _ _ (q1.mono (fun c hc => by simp at hc ⊢; omega)) (q1 52 (by have := hst; simp; unfold isTown at ht; omega)) (q1 53 (by simp; unfold isTown at ht; omega)) ?_))))
      · have : fH f n - cnt (psS (fN f) cn n 2) 8 = 0 := Decidable.by_contra fun q => nI_nle (by omega) (by omega) z2
        rw [er, this, hm]
        exact posW_0.symm
      · rw [er, hm, posW_e (mkN_none z3)]
      · rw [q2, er, hcf, hm]
    · have hlt : fH f n < cnt (psS (fN f) cn n 2) 8 := Nat.not_le.mp fun q => z (by rw [nI_sub q]; exact nI_pos' (by omega))
      refine b8_58 hP ht hs ?_
      rw [nI_negsub (by omega)]
      refine c10 ht hs (TC_eq hE hT) (by omega) fun m2 q1 q2 => Bk.v (b8_69 hP ht hs (nx _ _ _ _ (q1.mono (fun c hc => by simp at hc ⊢; omega)) (q1 52 (by simp; unfold isTown at ht; omega)) (q1 53 (by simp; unfold isTown at ht; omega)) ?_))
      rw [q2, hcf, hm]
      unfold rm1
      rw [if_pos hlt]
end C
