/-! queue -/
/-- the first k of S in the order of w -/
def qL (w : Nat → Int32) (S : Nat → Bool) : Nat → List Int32
  | 0 => []
  | k + 1 => match pick w (lf w S k) 8 with
    | none => qL w S k
    | some b => qL w S k ++ [nI b]
theorem qL_s {w : Nat → Int32} {S : Nat → Bool} {k b : Nat} (e : pick w (lf w S k) 8 = some b) : qL w S (k + 1) = qL w S k ++ [nI b] := by
  show (match pick w (lf w S k) 8 with | none => qL w S k | some b => qL w S k ++ [nI b]) = _
  rw [e]
theorem lf_pick {w : Nat → Int32} {S : Nat → Bool} {k : Nat} (h : k < cnt S 8) : ∃ b, pick w (lf w S k) 8 = some b ∧ b < 8 ∧ lf w S k b = true := by
  cases e : pick w (lf w S k) 8 with
  | none =>
    have := cnt_none (pick_none.mp e)
    rw [lf_cnt] at this
    omega
  | some b => exact ⟨b, rfl, (pick_in e).1, (pick_in e).2⟩
theorem qL_len {w : Nat → Int32} {S : Nat → Bool} : ∀ {k : Nat}, k ≤ cnt S 8 → (qL w S k).length = k
  | 0, _ => rfl
  | k + 1, h => by
    obtain ⟨b, e, -⟩ := lf_pick (w := w) (S := S) (k := k) (by omega)
    rw [qL_s e, List.length_append, qL_len (by omega)]
    rfl
theorem qL_congr {w w' : Nat → Int32} {S S' : Nat → Bool} (h1 : ∀ p, p < 8 → S p = S' p) (h2 : ∀ p, p < 8 → S p = true → w p = w' p) : ∀ k, qL w S k = qL w' S' k
  | 0 => rfl
  | k + 1 => by
    have e : pick w (lf w S k) 8 = pick w' (lf w' S' k) 8 := pick_congr (fun p hp => lf_congr h1 h2 k p hp) (fun p hp hs => h2 p hp (lf_sub hs))
    show (match pick w (lf w S k) 8 with | none => qL w S k | some b => qL w S k ++ [nI b]) = (match pick w' (lf w' S' k) 8 with | none => qL w' S' k | some b => qL w' S' k ++ [nI b])
    rw [e, qL_congr h1 h2 k]
theorem cnt_disj {S T : Nat → Bool} (h : ∀ p, S p = true → T p = false) : ∀ n, cnt S n + cnt T n ≤ n
  | 0 => Nat.le_refl _
  | n + 1 => by
    have ih := cnt_disj h n
    show cnt S n + (if S n = true then 1 else 0) + (cnt T n + (if T n = true then 1 else 0)) ≤ n + 1
    by_cases q : S n = true
    · rw [if_pos q, h n q, if_neg (by decide)]
      omega
    · rw [if_neg q]
      split <;> omega
theorem mk_set {f : Nat → Bool} {b : Nat} (hb : b < 8) : setN (mkN f 8) b = mkN (fun p => f p || decide (p = b)) 8 := by
  rw [← mkN_self (setN_lt (p := b) (mkN8 f) hb)]
  exact mkN_congr 8 (fun p hp => by rw [setN_bit (mkN8 f) hb hp, mkN_bit f 8 p hp])
theorem c159 {d r m p : Nat} {mem : Nat → Nat → Int32} {Q : xQr} (hm : m < 256) (hp : p < 8) (k : Q (some (.int (b01 (m.testBit p = true)))) (LAY, RFu r, mem)) : xCall (d + 1) 159 [.int (nI m), .int (nI p)] (LAY, RFu r, mem) Q := by
  have e := bit_in hm hp
  refine c_in rfl rfl rfl fun P hP => b159_0 hP (fun z => b159_13 hP (b159_14 hP (Or.inl rfl) ?_)) (fun z => b159_9 hP (b159_14 hP (Or.inr rfl) ?_))
  · rw [e] at z
    rw [b01_f (fun q => z (if_pos q))] at k
    exact k
  · rw [e] at z
    rw [b01_t (Decidable.by_contra fun q => by rw [if_neg q] at z; exact absurd z (by decide))] at k
    exact k
section K
variable {N R B r d n T : Nat} {mem m' m0 m1 m2 m3 m4 m5 : Nat → Nat → Int32} {Q : xQr} {g : xCf} {D : xD}
theorem c115 {q : Nat} {xs rs : List Int32} {S : Nat → Bool} (hq : isRule q) (hr : RuL mem q xs) (hw : RwC mem rs) (hl : rs.length + cnt S 8 ≤ 8)
    (k : ∀ mem', Ag [54, q + 2, 3, 4] mem mem' → RwC mem' (rs ++ qL (fun p => rv (envF (mem 7) (mem 8) (mem 48) p) xs) S (cnt S 8)) → Q none (LAY, RFu r, mem')) : xCall (d + 4) 115 [.ref 0, .ref q, .int (nI (mkN S 8))] (LAY, RFu r, mem) Q := by
  have q34 : q + 2 ≠ 3 ∧ q + 2 ≠ 4 ∧ q + 2 ≠ 54 := by unfold isRule at hq; omega
  refine c_in rfl rfl rfl fun P hP => b115_0 hP hq (c15 (t := 5) (s := 47) hq (Or.inl rfl) (Or.inl rfl) (mkN8 S) hr fun m1 a1 e54 => Bk.v (b115_17 hP hq ?_))
  generalize hw' : (fun p => rv (envF (mem 7) (mem 8) (mem 48) p) xs) = w at k
  have e54 : m1 54 = wts (mem 54) w (mkN S 8) 8 := by rw [← hw']; exact e54
  have ew : ∀ p, p < 8 → S p = true → m1 54 p = w p := fun p hp hs => by
    rw [e54]; unfold wts; rw [if_pos ⟨hp, by rw [mkN_bit S 8 p hp]; exact hs⟩]
  have r1 : RwC m1 rs := hw.mv ⟨fun c hc => a1 c (by
    simp at hc ⊢; omega), fun j hj => by cases hj⟩
  have hcS := cnt_le S 8
  have key := xloop (N := cnt S 8) (G := fun j => ∀ m' v5, Ag [3, 4] m1 m' → RwC m' (rs ++ qL w S j) → P 22 [.ref 0, .ref q, .int (nI (mkN S 8)), .int (nI (mkN (lf w S j) 8)), .int (nI j), v5] [] (0, 0) (LAY, RFu r, m')) ?_ ?_
  · exact key m1 _ Ag.rfl' (by rw [show qL w S 0 = [] from rfl, List.append_nil]; exact r1)
  · intro m' v5 a w'
    have fin : P 67 [.ref 0, .ref q, .int (nI (mkN S 8)), .int (nI (mkN (lf w S (cnt S 8)) 8)), .int (nI (cnt S 8)), v5] [] (0, 0) (LAY, RFu r, m') := b115_67 hP hq (k m' ((a1.mono (by simp)).trans (a.mono (by simp))) w')
    refine b115_22 hP hq (fun _ => fin) (fun z => b115_29 hP hq (fun _ => fin) (fun z2 => absurd ?_ z2))
    rw [mkN_zero (lf_empty (Nat.le_refl _))]
    rfl
  · intro j hj ih m' v5 a w'
    obtain ⟨b, eb, hb, hb2⟩ := lf_pick (w := w) (S := S) (k := j) hj
    have hlq := qL_len (w := w) (S := S) (k := j) (by omega)
    rw [qL_s eb, lf_s eb] at ih
    refine b115_22 hP hq (fun z => absurd z (nI_ge (by omega) (by decide))) (fun _ => b115_29 hP hq (fun z => ?_) (fun _ => b115_33 hP hq (c16 (mkN8 _) (Bk.i (b115_41 hP hq ?_)))))
    · have := mkN_none z b hb
      rw [hb2] at this
      cases this
    · have e : pick (m' 54) (fun p => (mkN (lf w S j) 8).testBit p) 8 = pick w (lf w S j) 8 := pick_congr (fun p hp => mkN_bit _ 8 p hp) (fun p hp hs => by
        rw [mkN_bit _ 8 p hp] at hs
        rw [a 54 (by decide)]
        exact ew p hp (lf_sub hs))
      rw [e, eb]
      refine c32 w' (by rw [List.length_append, hlq]; omega) fun m2 a2 w2 => Bk.v (b115_52 hP hq ?_)
      change P 22 [.ref 0, .ref q, .int (nI (mkN S 8)), .int (nI (mkN (lf w S j) 8) &&& ((nI 1 <<< (nI b &&& 31)) ^^^ (-1))), .int (nI j + nI 1), .int (nI b)] [] (0, 0) (LAY, RFu r, m2)
      rw [bit_drop (mkN8 _) hb, mk_drop hb, nIs]
      refine ih m2 _ (a.trans a2) ?_
      rw [← List.append_assoc]
      exact w2
theorem RwM_mv {m m' : Nat → Nat → Int32} {xs : List Int32} {W V : List Nat} (h : RwM m xs) (a : AgM W V m m') (h1 : 123 ∉ W) (h2 : 19 ∉ V) : RwM m' xs := by
  unfold RwM at h ⊢
  rw [a.1 123 h1 (by decide), a.2 19 h2]
  exact h
def qzS (N : Nat) (c : Nat → Int32) (rm z : Nat) : Nat → Bool := psS N c rm (if z = 1 then 2 else 1)
theorem m199 {rm z : Nat} {c : Nat → Int32} {P : xPr} (hP : Cl (d + 71) none 199 P Q) (hrm : rm < 4) (hz : z < 2) (hC : CfM mem g) (hM : MV mem (fN g) c) (hPV : PV (fN g) c) {rs : List Int32} {v4 v5 v6 : Value} (hw : RwM mem rs) (hl : rs.length + cnt (qzS (fN g) c rm z) 8 ≤ 8)
    (k : ∀ r' m' v4 v5 v6, AgM [123] (19 :: qV) mem m' → RwM m' (rs ++ qL (gW g c z) (qzS (fN g) c rm z) (cnt (qzS (fN g) c rm z) 8)) → P 24 [.ref 108, .int (nI rm), .int (nI (rs.length + cnt (qzS (fN g) c rm z) 8)), .int (nI (z + 1)), v4, v5, v6] [] (0, 0) (LAY, RFu r', m')) :
    P 24 [.ref 108, .int (nI rm), .int (nI rs.length), .int (nI z), v4, v5, v6] [] (0, 0) (LAY, RFu r, mem) := by
  have hN := hC.2.2.2.1
  have hN0 := hC.2.2.1
  generalize hS : qzS (fN g) c rm z = S at *
  generalize hw' : gW g c z = w at *
  have hcS := cnt_le S 8
  have Slt : ∀ p, S p = true → p < fN g ∧ c p = nI rm ∧ c (8 + p) = if z = 1 then 2 else 1 := fun p hp => by rw [← hS] at hp; exact psS_t.mp hp
  have b1 : ∀ j, (fun p => decide (S p = true ∧ ¬ lf w S j p = true)) = fun p => S p && !(lf w S j p) := fun j => by
    funext p
    cases S p <;> cases lf w S j p <;> rfl
  have find : ∀ j r' m' v5 v6, AgM [123] (19 :: qV) mem m' → (∀ r2 m2 v6, AgM [123] (19 :: qV) mem m2 → m2 123 = m' 123 → m2 108 19 = m' 108 19 → P 121 [.ref 108, .int (nI rm), .int (nI (rs.length + j)), .int (nI z), .int (nI (mkN (fun p => S p && !(lf w S j p)) 8)), .int (oI (pick w (lf w S j) 8)), v6] [] (0, 0) (LAY, RFu r2, m2)) → P 41 [.ref 108, .int (nI rm), .int (nI (rs.length + j)), .int (nI z), .int (nI (mkN (fun p => S p && !(lf w S j p)) 8)), v5, v6] [] (0, 0) (LAY, RFu r', m') := fun j r' m' v5 v6 a kf => by
    refine b199_41 hP ?_
    generalize hT : lf w S j = T at *
    have Tsub : ∀ p, T p = true → S p = true := fun p hp => by rw [← hT] at hp; exact lf_sub hp
    generalize hD : mkN (fun p => S p && !(T p)) 8 = D at *
    have hD8 : D < 256 := by rw [← hD]; exact mkN8 _
    rw [pick_ext (N := fN g) hN (fun p h1 h2 => bfalse fun q => by have := (Slt p (Tsub p q)).1; omega)] at kf
    have key := xloop (N := fN g) (G := fun i => ∀ r2 m2, AgM [] qV m' m2 → P 47 [.ref 108, .int (nI rm), .int (nI (rs.length + j)), .int (nI z), .int (nI D), .int (oI (pick w T i)), .int (nI i)] [] (0, 0) (LAY, RFu r2, m2)) ?_ ?_
    · exact key r' m' AgM.rfl'
    · intro r2 m2 a2
      have aa : AgM [123] (19 :: qV) mem m2 := a.trans (a2.mono (by simp) (fun _ h => List.mem_cons_of_mem _ h))
      have hN1 : m2 108 2 = nI (fN g) := by rw [aa.2 2 (by decide), hN0]
      exact b199_47 hP (fun _ => kf r2 m2 _ aa (a2.1 123 (by simp) (by decide)) (a2.2 19 (by decide))) (fun q => absurd (by rw [hN1]; exact Int32.le_refl _) q)
    · intro i hi ih r2 m2 a2
      have aa : AgM [123] (19 :: qV) mem m2 := a.trans (a2.mono (by simp) (fun _ h => List.mem_cons_of_mem _ h))
      have hN1 : m2 108 2 = nI (fN g) := by rw [aa.2 2 (by decide), hN0]
      have hM' : MV m2 (fN g) c := hM.ag aa (by decide) (by decide)
      have hC' : CfM m2 g := hC.ag aa (by decide) (by decide)
      have vi : vp_in (nI i) 8 := vpn (by omega) (by decide)
      have ci : (nI i).toNatClampNeg = i := nIc (by omega)
      obtain ⟨q1, q2, -⟩ := hM'.1 i hi
      have no : T i ≠ true → P 115 [.ref 108, .int (nI rm), .int (nI (rs.length + j)), .int (nI z), .int (nI D), .int (oI (pick w T i)), .int (nI i)] [] (0, 0) (LAY, RFu r2, m2) := fun hn => by
        refine b199_115 hP ?_
        rw [nIs]
        have e : pick w T (i + 1) = pick w T i := by
          rw [pick_s]
          cases pick w T i with
          | none => simp only [if_neg hn]
          | some x => simp [bfalse hn]
        rw [e] at ih
        exact ih r2 m2 a2
      refine b199_47 hP (fun q => absurd q (by rw [hN1]; exact nI_ge hi (by omega))) (fun _ => b199_56 hP vi (fun q => no fun t => q ?_) (fun q => b199_67 hP vi (fun s => no fun t => s ?_) (fun s => b199_78 hP (c159 hD8 (by omega) (Bk.i (b199_85 hP (fun y => no fun t => y (b01_f ?_)) (fun y => ?_)))))))
      · rw [ci, q1]; exact (Slt i (Tsub i t)).2.1
      · rw [ci, q2, (Slt i (Tsub i t)).2.2]
        have : z = 0 ∨ z = 1 := by omega
        rcases this with rfl | rfl
        · exact b01_f (by decide)
        · exact b01_t rfl
      · rw [← hD, mkN_bit _ 8 i (by omega), t]
        simp
      · rw [ci, q1] at q
        rw [ci, q2] at s
        have hs : S i = true := by
          rw [← hS]
          refine psS_t.mpr ⟨hi, q, ?_⟩
          have hp12 := hPV.p12 hi (by rw [q]; exact nI_nm' hrm)
          have : z = 0 ∨ z = 1 := by omega
          rcases this with rfl | rfl
          · rcases hp12 with h | h
            · exact h
            · exact absurd h (b01_0.mp s)
          · exact b01_1.mp s
        have ht : T i = true := by
          have := b01_0.mp y
          rw [← hD, mkN_bit _ 8 i (by omega), hs] at this
          simpa using this
        obtain ⟨xsA, xsG, hA1, hG1, hx⟩ := hC'.2.2.2.2.2.2.2.2.2
        have hE : ∃ xs, RuE m2 z xs ∧ ∀ p, p < fN g → w p = rv (envF (m2 110) (m2 111) c p) xs := by
          have : z = 0 ∨ z = 1 := by omega
          rcases this with hz0 | hz1
          · rw [hz0]; exact ⟨xsA, hA1, fun p hp => by rw [← hw', hz0]; exact (hx c p hp).1⟩
          · rw [hz1]; exact ⟨xsG, hG1, fun p hp => by rw [← hw', hz1]; exact (hx c p hp).2⟩
        obtain ⟨xs, hE1, hE2⟩ := hE
        cases e : pick w T i with
        | none =>
          have e' : pick w T (i + 1) = some i := by rw [pick_s, e]; exact if_pos ht
          rw [e'] at ih
          refine b199_88 hP (fun _ => b199_111 hP (b199_115 hP ?_)) (fun q => absurd rfl q)
          rw [nIs]
          exact ih r2 m2 a2
        | some x =>
          have hxi := (pick_in e).1
          rw [pick_s, e] at ih
          simp only [ht, Bool.true_and, decide_eq_true_eq] at ih
          refine b199_88 hP (fun q => absurd q (nI_nm (by omega))) (fun _ => b199_94 hP (c181 hz (by omega) hE1 (hC'.pv hM' hi) fun r3 m3 a3 => Bk.i ?_))
          have hC3 : CfM m3 g := hC'.ag a3 (by decide) (by decide)
          have hM3 : MV m3 (fN g) c := hM'.ag a3 (by decide) (by decide)
          have hE3 : RuE m3 z xs := by
            unfold RuE RmT at hE1 ⊢
            have hz5 : ∀ z < 2, 125 + z ∉ ([] : List Nat) ∧ 125 + z ≠ 108 := by decide
            rw [a3.1 (125 + z) (hz5 z hz).1 (hz5 z hz).2, a3.1 127 (by decide) (by decide), a3.2 29 (by decide)]
            exact hE1
          refine b199_101 hP (c181 hz (by omega) hE3 (hC3.pv hM3 (by omega)) fun r4 m4 a4 => Bk.i ?_)
          rw [a3.1 110 (by decide) (by decide), a3.1 111 (by decide) (by decide), ← hE2 i hi, ← hE2 x (by omega)]
          have a5 : AgM [] qV m' m4 := (a2.trans a3).trans a4
          refine b199_108 hP (fun q => b199_115 hP ?_) (fun q => b199_111 hP (b199_115 hP ?_))
          · rw [nIs]
            rw [if_neg (Int32.not_lt.mpr q)] at ih
            exact ih r4 m4 a5
          · rw [nIs]
            rw [if_pos (Int32.not_le.mp q)] at ih
            exact ih r4 m4 a5
  refine b199_24 hP (fun q => absurd q (nI_ge hz (by decide))) (fun _ => b199_29 hP ?_)
  have key := xloop (N := cnt S 8) (G := fun j => ∀ r' m' x5 v6, x5 ≠ -1 → AgM [123] (19 :: qV) mem m' → RwM m' (rs ++ qL w S j) → P 35 [.ref 108, .int (nI rm), .int (nI (rs.length + j)), .int (nI z), .int (nI (mkN (fun p => S p && !(lf w S j p)) 8)), .int x5, v6] [] (0, 0) (LAY, RFu r', m')) ?_ ?_
  · have := key r mem (nI 0) v6 (by decide) AgM.rfl' (by rw [show qL w S 0 = [] from rfl, List.append_nil]; exact hw)
    rw [show mkN (fun p => S p && !(lf w S 0 p)) 8 = 0 from mkN_zero (fun p _ => by show (S p && !(S p)) = false; cases S p <;> rfl)] at this
    exact this
  · intro r' m' x5 v6 h5 a w'
    refine b199_35 hP (fun q => absurd q h5) (fun _ => find (cnt S 8) r' m' _ _ a fun r2 m2 v6 a2 e1 e2 => ?_)
    rw [pick_none.mpr (lf_empty (Nat.le_refl _))]
    refine b199_121 hP (fun q => absurd rfl q) (fun _ => b199_127 hP (b199_35 hP (fun _ => b199_151 hP ?_) (fun q => absurd rfl q)))
    rw [nIs]
    refine k r2 m2 _ _ _ a2 ?_
    unfold RwM at w' ⊢
    rw [e1, e2]
    exact w'
  · intro j hj ih r' m' x5 v6 h5 a w'
    obtain ⟨b, eb, hb, hb2⟩ := lf_pick (w := w) (S := S) (k := j) hj
    have hlq := qL_len (w := w) (S := S) (k := j) (by omega)
    rw [qL_s eb, lf_s eb] at ih
    refine b199_35 hP (fun q => absurd q h5) (fun _ => find j r' m' _ _ a fun r2 m2 v6 a2 e1 e2 => ?_)
    rw [eb]
    have w2 : RwM m2 (rs ++ qL w S j) := by
      unfold RwM at w' ⊢
      rw [e1, e2]
      exact w'
    refine b199_121 hP (fun _ => b199_130 hP (c161 w2 (by rw [List.length_append, hlq]; omega) fun m3 a3 w3 => Bk.v (b199_136 hP ?_))) (fun q => absurd q (nI_nm (by omega)))
    change P 35 [.ref 108, .int (nI rm), .int (nI (rs.length + j) + nI 1), .int (nI z), .int (nI (mkN (fun p => S p && !(lf w S j p)) 8) ||| (nI 1 <<< (nI b &&& 31))), .int (nI b), v6] [] (0, 0) (LAY, RFu r2, m3)
    have := ih r2 m3 (nI b) v6 (nI_nm (by omega)) (a2.trans (a3.mono (by simp) (by simp))) (by rw [← List.append_assoc]; exact w3)
    rw [bit_set (mkN8 _) hb, mk_set hb, nIs]
    have e3 : mkN (fun p => (S p && !(lf w S j p)) || decide (p = b)) 8 = mkN (fun p => S p && !(lf w S j p && decide (p ≠ b))) 8 := mkN_congr 8 fun p hp => by
      by_cases q : p = b
      · subst q
        rw [lf_sub hb2]; simp
      · simp [q]
    rw [e3]
    exact this
theorem tk_queue (x : Int32) : Tk 114 199 [.int x] := by
  intro N R B r mem Q h hB K
  obtain ⟨hR, hR4, hN, hN8, hR2, hN2⟩ := (RTo_parts h.2.2.1).1
  obtain ⟨g1, g2, g3, g4, g5, g6, g7, g8, g9⟩ := RRc_g h
  have gN : dN (D0 mem) = N := g1
  have hM := h.2.2.2.1.1
  have hS := h.2.2.2.1.2
  refine c_in rfl rfl rfl fun P hP => b114_0 hP (c82 (Or.inl rfl) hR (by omega) (fun hno => Bk.i (b114_8 hP (fun z => absurd rfl z) (fun _ => b114_11 hP (K _ _ ?_)))) (fun rm hrm ep => Bk.i (b114_8 hP (fun _ => ?_) (fun z => absurd z (by decide)))))
  · intro Q2 k2
    exact c_in rfl rfl rfl fun P hP => b199_0 hP (c164 (R := R) (by rw [e20 (by decide), hR2]) (by omega) (fun _ => Bk.i (b199_10 hP (fun z => absurd rfl z) (fun _ => b199_13 hP (k2 _ _ (kEnd (kM20 h) hB))))) (fun p hp ep => absurd ep (hno p hp)))
  subst ep
  have mk : ∀ z : Nat, z < 2 → mkN (fun p => decide (mem 48 p = nI rm) && decide (mem 48 (8 + p) = nI (z + 1))) 8 = mkN (qzS N (mem 48) rm z) 8 := fun z hz => mkN_congr 8 fun p hp => by
    have ez : nI (z + 1) = if z = 1 then 2 else 1 := by
      have : z = 0 ∨ z = 1 := by omega
      rcases this with rfl | rfl <;> decide
    rw [ez]
    by_cases q : p < N
    · show _ = (decide (p < N) && decide (mem 48 p = nI rm) && decide (mem 48 (8 + p) = _))
      rw [decide_eq_true q, Bool.true_and]
    · have e1 := (hS.2.2.2.1 p (by omega) hp).1
      rw [e1, decide_eq_false (fun q => absurd q.symm (nI_nm (by omega))), Bool.false_and]
      exact (bfalse fun w => q (psS_lt w)).symm
  have disj := cnt_disj (S := qzS N (mem 48) rm 0) (T := qzS N (mem 48) rm 1) (fun p hp => bfalse fun q => by
    have h1 := (psS_t.mp hp).2.2
    have h2 := (psS_t.mp q).2.2
    rw [h1] at h2
    exact i12 h2) 8
  have qA : qL (fun p => rv (envF (mem 7) (mem 8) (mem 48) p) (dA (D0 mem))) (qzS N (mem 48) rm 0) = qL (gW (gD mem) (mem 48) 0) (qzS N (mem 48) rm 0) := funext fun k => qL_congr (fun _ _ => rfl) (fun p hp hs => rfl) k
  have qG : qL (fun p => rv (envF (mem 7) (mem 8) (mem 48) p) (dG (D0 mem))) (qzS N (mem 48) rm 1) = qL (gW (gD mem) (mem 48) 1) (qzS N (mem 48) rm 1) := funext fun k => qL_congr (fun _ _ => rfl) (fun p hp hs => rfl) k
  generalize hA0 : cnt (qzS N (mem 48) rm 0) 8 = n0 at disj
  generalize hA1 : cnt (qzS N (mem 48) rm 1) 8 = n1 at disj
  have m0' := mk 0 (by decide)
  have m1' := mk 1 (by decide)
  refine b114_13 hP (c31 fun m1 a1 w1 => Bk.v (b114_20 hP (c63 (Or.inl rfl) (Bk.i ?_))))
  have e48 : m1 48 = mem 48 := a1 48 (by decide)
  rw [show m1 (47 + 1) = mem 48 from e48, m0']
  refine b114_37 hP (c115 (q := 20) (xs := dA (D0 mem)) (S := qzS N (mem 48) rm 0) (rs := []) (Or.inl rfl) ?_ w1 (by rw [hA0]; show 0 + n0 ≤ 8; omega) fun m2 a2 w2 => Bk.v (b114_40 hP (c63 (Or.inl rfl) (Bk.i ?_))))
  · have := g8.2.2.2.2.2.2.1
    unfold RuL at this ⊢
    rw [a1 20 (by decide), a1 (20 + 1) (by decide)]
    exact this
  rw [a1 7 (by decide), a1 8 (by decide), e48, qA, hA0, List.nil_append] at w2
  have a12 : Ag [3, 4, 22, 54] mem m2 := (a1.mono (by decide)).trans (a2.mono (by decide))
  have e48' : m2 48 = mem 48 := a12 48 (by decide)
  rw [show m2 (47 + 1) = mem 48 from e48', m1']
  have hl0 : (qL (gW (gD mem) (mem 48) 0) (qzS N (mem 48) rm 0) n0).length = n0 := qL_len (by omega)
  refine b114_57 hP (c115 (q := 23) (xs := dG (D0 mem)) (S := qzS N (mem 48) rm 1) (Or.inr (Or.inl rfl)) ?_ w2 (by rw [hA1, hl0]; omega) fun m3 a3 w3 => Bk.v (b114_60 hP ?_))
  · have := g8.2.2.2.2.2.2.2
    unfold RuL at this ⊢
    rw [a12 23 (by decide), a12 (23 + 1) (by decide)]
    exact this
  rw [a12 7 (by decide), a12 8 (by decide), e48', qG, hA1] at w3
  have a123 : Ag [3, 4, 22, 25, 54] mem m3 := (a12.mono (by decide)).trans (a3.mono (by decide))
  have hl1 : (qL (gW (gD mem) (mem 48) 1) (qzS N (mem 48) rm 1) n1).length = n1 := qL_len (by omega)
  rw [w3.2.1, List.length_append, hl0, hl1]
  refine K _ _ ?_
  intro Q2 k2
  have aM := Ag.M a123 (by decide)
  have b1 : MwD (xu2 m3 108 20 (nI 0)) (D0 mem) := MwD_ag (MwD_ag g9 aM (by decide) (by decide)) th20 (by simp) (by decide)
  have b2 : MV (xu2 m3 108 20 (nI 0)) N (mem 48) := (hM.ag aM (by decide) (by simp)).ag th20 (by simp) (by decide)
  have bR : xu2 m3 108 20 (nI 0) 108 0 = nI R := by rw [b1.1]; exact congrArg nI g2
  refine c_in rfl rfl rfl fun P hP => b199_0 hP (c164 (R := R) bR (by omega) (fun q => absurd rfl (q rm hrm)) (fun _ _ _ => Bk.i (b199_10 hP (fun _ => b199_15 hP ?_) (fun z => absurd z (by decide)))))
  have th19 : AgM [] [19] (xu2 m3 108 20 (nI 0)) (xu2 (xu2 m3 108 20 (nI 0)) 108 19 (nI 0)) := AgM.rfl'.us (by simp)
  have c1 := MwD_ag b1 th19 (by simp) (by decide)
  have c2 := b2.ag th19 (by simp) (by decide)
  have r0 : RwM (xu2 (xu2 m3 108 20 (nI 0)) 108 19 (nI 0)) [] := RwM_nil (by rw [xu2_eq, upd_at])
  have cC := MwD_Cf c1 g7
  have hPV : PV (fN (cfD (D0 mem))) (mem 48) := by show PV (dN (D0 mem)) _; rw [gN]; exact hS.1
  have hMV : MV (xu2 (xu2 m3 108 20 (nI 0)) 108 19 (nI 0)) (fN (cfD (D0 mem))) (mem 48) := by show MV _ (dN (D0 mem)) _; rw [gN]; exact c2
  have fNe : fN (cfD (D0 mem)) = N := gN
  have hl2 : ([] : List Int32).length + cnt (qzS (fN (cfD (D0 mem))) (mem 48) rm 0) 8 ≤ 8 := by rw [fNe, hA0]; show 0 + n0 ≤ 8; omega
  have hl3 : (qL (gW (gD mem) (mem 48) 0) (qzS N (mem 48) rm 0) n0).length + cnt (qzS (fN (cfD (D0 mem))) (mem 48) rm 1) 8 ≤ 8 := by rw [fNe, hA1, hl0]; omega
  refine m199 (d := 228) (z := 0) hP (by omega) (by decide) cC hMV hPV r0 hl2 fun r4 m4 v4 v5 v6 a4 w4 => ?_
  rw [fNe, hA0, List.nil_append] at w4
  rw [fNe, hA0]
  have e0 : ([] : List Int32).length + n0 = (qL (gW (gD mem) (mem 48) 0) (qzS N (mem 48) rm 0) n0).length := by rw [hl0]; exact Nat.zero_add _
  rw [e0]
  refine m199 (d := 228) (z := 1) hP (by omega) (by decide) (cC.ag a4 (by decide) (by decide)) (hMV.ag a4 (by decide) (by decide)) hPV w4 hl3 fun r5 m5 v4 v5 v6 a5 w5 => ?_
  rw [fNe, hA1] at w5
  rw [fNe, hA1, hl0]
  refine b199_24 hP (fun _ => b199_157 hP (k2 _ _ (kEnd (N := N) (R := R) ?_ hB))) (fun z => absurd (Int32.le_refl _) z)
  have a6 : AgM [123] (20 :: 19 :: qV) m3 m5 := t20 (((th19.mono (by simp) (by simp)).trans a4).trans a5)
  have hZ := h.2.2.2.2.2.2.2
  exact RR_ro h (a123.mono (by decide)) (hZ.mv fun c hc => Or.inl (a123 c (by
    have : ∀ c ∈ zC, c ∉ [3, 4, 22, 25, 54] := by decide
    exact this c hc))) w3 (a6.mono (by decide) (by decide)) (hMV.ag (a4.trans a5) (by decide) (by decide) |> fun q => by rw [fNe] at q; exact q) w5
end K
