/-! town, in the reference -/
def TSM (m1 m' : Nat → Nat → Int32) (q p : Nat) (H A S : Nat → Int32) : Prop := AgM [109, 110, 111] [17, 20, 22, 23, 24, 25] m1 m' ∧ m' 108 17 = nI 0 ∧ (∀ i, i < q → m' 109 i = H i) ∧ ∀ i, i < p → m' 110 i = A i ∧ m' 111 i = S i
/-- the people from N up to k are new -/
def ZM (m' m2 : Nat → Nat → Int32) (N k : Nat) : Prop := AgM [113, 114, 115, 116, 117, 118, 119, 120, 121] [] m' m2 ∧
  (∀ i, N ≤ i → i < k → m2 113 i = nI 0 ∧ m2 114 i = -1 ∧ m2 115 i = nI 0 ∧ m2 116 i = nI 0 ∧ m2 117 i = nI 0 ∧ m2 118 i = nI 0 ∧ m2 119 i = nI 0 ∧ m2 120 i = nI 0) ∧
  (∀ i, i < N → m2 113 i = m' 113 i ∧ m2 114 i = m' 114 i ∧ m2 115 i = m' 115 i ∧ m2 116 i = m' 116 i ∧ m2 117 i = m' 117 i ∧ m2 118 i = m' 118 i ∧ m2 119 i = m' 119 i ∧ m2 120 i = m' 120 i) ∧
  ∀ x y, x < 8 → y < 8 → m2 121 (8 * x + y) = if (N ≤ x ∧ x < k) ∨ (N ≤ y ∧ y < k) then nI 0 else m' 121 (8 * x + y)
section K
variable {N R B r d : Nat} {mem m' m0 m1 m2 m3 m4 m5 : Nat → Nat → Int32} {Q : xQr}
theorem TSM.ag {q p : Nat} {H A S : Nat → Int32} (h : TSM m1 m' q p H A S) (a : AgM [] [22, 23, 24, 25] m' m2) : TSM m1 m2 q p H A S := by
  obtain ⟨h1, h2, h3, h4⟩ := h
  exact ⟨h1.trans (a.mono (by simp) (by simp)), by rw [a.2 17 (by simp), h2], fun i hi => by rw [a.1 109 (by simp) (by decide)]; exact h3 i hi, fun i hi => by rw [a.1 110 (by simp) (by decide), a.1 111 (by simp) (by decide)]; exact h4 i hi⟩
theorem ZM_0 : ZM m' m' N N := ⟨AgM.rfl', fun i h1 h2 => absurd h2 (by omega), fun i _ => ⟨rfl, rfl, rfl, rfl, rfl, rfl, rfl, rfl⟩, fun x y _ _ => by rw [if_neg (by omega)]⟩
theorem m173 {len N R ee q' p' n' : Nat} {tx : Nat → Nat} {ok : Bool} {H A S H' A' S' : Nat → Int32} {Q2 : xQr} (hT : TxM m1 len tx) (hR : m1 108 0 = nI R) (hN : m1 108 2 = nI N) (hI : TwI R N H S)
    (hH : ∀ i, i < R → m1 109 i = H i) (hA : ∀ i, i < N → m1 110 i = A i ∧ m1 111 i = S i)
    (hX : trd (gT tx len 76) 77 0 R N 0 H A S = (ok, ee, q', p', n', H', A', S'))
    (k0 : len = 0 → ∀ r2 m2, AgM [] [17, 20, 22, 23, 24, 25] m1 m2 → m2 108 17 = nI 0 → Q2 (some (.int (nI 0))) (LAY, RFu r2, m2))
    (kf : len ≠ 0 → ¬ (ok = true ∧ ee = len) → ∀ r2 m2, TSM m1 m2 q' p' H' A' S' → Q2 (some (.int (-1 - nI ee))) (LAY, RFu r2, m2))
    (kt : len ≠ 0 → ok = true → ee = len → ∀ r2 m0 m2 m3, TSM m1 m0 q' p' H' A' S' → ZM m0 m2 N p' → AgM [] [0, 2, 37, 47] m2 m3 → m3 108 0 = nI q' → m3 108 2 = nI p' → m3 108 37 = nI 0 → m3 108 47 = (if R < q' ∨ N < p' then m1 108 47 + nI 1 else m1 108 47) → Q2 (some (.int (nI n'))) (LAY, RFu r2, m3)) :
    xCall (d + 5) 173 [.ref 108] (LAY, RFu r, m1) Q2 := by
  obtain ⟨t1, t2, t3⟩ := id hT
  refine c_in rfl rfl rfl fun P hP => b173_0 hP ?_
  have e17 : xu2 m1 108 20 (nI 0) 108 17 = nI len := by rw [e20 (by decide), t1]
  rw [e17]
  have hL : LAY[122]? = some (14, 80) := rfl
  refine c167 hL fun m2 a2 e1 e2 e3 e4 => Bk.v ?_
  have a2' : AgM [] [17, 20, 22, 23, 24, 25] m1 (xu2 m2 108 17 (nI 0)) := ((th20.mono (by simp) (by simp)).trans (a2.mono (by simp) (by simp))).us (by simp)
  have hM0 : RM m2 123 122 len 76 0 (-1) (gT tx len 76) := gT_RM hL t2 (by decide) (by decide) (by omega) e1 e2 e3 e4 (fun i hi => ⟨(t3 i hi).1, by rw [a2.1 122 (by simp) (by decide), xu2_ne (by decide)]; exact (t3 i hi).2⟩)
  have hM : RM (xu2 m2 108 17 (nI 0)) 123 122 len 76 0 (-1) (gT tx len 76) := RM_mv (W := []) (V := [17]) hM0 (AgM.rfl'.us (by simp)) (by simp) (by simp) (by simp) (by rw [xu2_eq, upd_ne (by decide), e3]) (by decide) (by rw [xu2_eq, upd_ne (by decide), e4])
  have f17 : xu2 m2 108 17 (nI 0) 108 17 = nI 0 := by rw [xu2_eq, upd_at]
  have f22 : xu2 m2 108 17 (nI 0) 108 22 = nI len := by rw [xu2_eq, upd_ne (by decide), e1]
  refine b173_19 hP (fun z => ?_) (fun z => b173_31 hP (k0 (nI_inj (by rw [← f22]; exact z) (by omega) (by decide)) _ _ a2' f17))
  have hl0 : len ≠ 0 := fun q => z (by rw [f22, q]; rfl)
  generalize xu2 m2 108 17 (nI 0) = m2 at a2' hM f17
  have hlim : ∀ i, gT tx len 76 i < 256 → i < min len 76 := fun i hi => Decidable.by_contra fun q => by rw [gT_lim (by omega)] at hi; omega
  generalize gT tx len 76 = g at hX hM hlim
  have b1 : TSM m1 m2 R N H A S := ⟨a2'.mono (by simp) (by simp), f17, fun i hi => by rw [a2'.1 109 (by simp) (by decide)]; exact hH i hi, fun i hi => by rw [a2'.1 110 (by simp) (by decide), a2'.1 111 (by simp) (by decide)]; exact hA i hi⟩
  have hok := trd_ok hI hX
  -- a fault
  have f213 : ∀ m' x1 x2 x3 v4 v5 v6, TSM m1 m' q' p' H' A' S' → m' 108 25 = nI ee → ee < 1000 → ¬ (ok = true ∧ ee = len) → P 213 [.ref 108, .int x1, .int x2, .int x3, v4, v5, v6] [] (0, 0) (LAY, RFu 123, m') := fun m' x1 x2 x3 v4 v5 v6 t h25 he hno => by
    refine b173_213 hP (c169 (Bk.i (b173_217 hP (fun z => absurd (b01_f (fun q => nI_nm (a := ee) (by omega) (by rw [← h25]; exact q))) z) (fun _ => b173_220 hP ?_))))
    rw [h25]
    exact kf hl0 hno _ _ t
  have f180 : ∀ m' a x1 x2 x3 v4 v5 v6, TSM m1 m' q' p' H' A' S' → RM m' 123 122 len 76 a (nI ee) g → ee < 1000 → ok = false → P 180 [.ref 108, .int x1, .int x2, .int x3, v4, v5, v6] [] (0, 0) (LAY, RFu 123, m') := fun m' a x1 x2 x3 v4 v5 v6 t hM he hno => by
    have h25 : m' 108 25 = nI ee := hM.2.2.2.2.2.2.2.2.1
    have hno : ¬ (ok = true ∧ ee = len) := fun q => by rw [hno] at q; exact absurd q.1 (by decide)
    refine b173_180 hP (c171 (c := 59) hM (by decide) (fun _ => Bk.i (b173_189 hP (b173_48 hP (fun _ => b173_194 hP (fun _ => f213 m' _ _ _ _ _ _ t h25 he hno) (fun _ => b173_205 hP (c170 (Bk.v ?_)))) (fun z => absurd rfl z)))) (fun w _ => absurd w (nI_nm (by omega))))
    rw [if_neg (by rw [h25]; exact nI_nm (by omega))]
    exact f213 m' _ _ _ _ _ _ t h25 he hno
  -- all is read
  have good : ∀ m' v4 v5 v6, TSM m1 m' q' p' H' A' S' → m' 108 25 = -1 → ok = true → ee = len → P 213 [.ref 108, .int (nI q'), .int (nI p'), .int (nI n'), v4, v5, v6] [] (0, 0) (LAY, RFu 123, m') := fun m' v4 v5 v6 t h25 hk he => by
    have hp8 : p' ≤ 8 := hok.1.2.1
    have hq4 : q' ≤ 4 := hok.1.1
    have hNp : N ≤ p' := hok.2.2.1
    have hRq : R ≤ q' := hok.2.1
    refine b173_213 hP (c169 (Bk.i (b173_217 hP (fun _ => b173_227 hP ?_) (fun z => absurd z (by rw [b01_t h25]; decide)))))
    rw [t.1.2 2 (by decide), hN]
    have key := xloop (N := p' - N) (G := fun j => ∀ m2 v6, ZM m' m2 N (N + j) → P 233 [.ref 108, .int (nI q'), .int (nI p'), .int (nI n'), v4, .int (nI (N + j)), v6] [] (0, 0) (LAY, RFu 123, m2)) ?_ ?_
    · exact key m' _ ZM_0
    · intro m2 v6 hz
      rw [show N + (p' - N) = p' by omega] at hz ⊢
      have z0 : m2 108 0 = nI R := by rw [hz.1.2 0 (by simp), t.1.2 0 (by decide), hR]
      have z2 : m2 108 2 = nI N := by rw [hz.1.2 2 (by simp), t.1.2 2 (by decide), hN]
      have z47 : m2 108 47 = m1 108 47 := by rw [hz.1.2 47 (by simp), t.1.2 47 (by decide)]
      have fin : ∀ m3, (m3 = m2 ∧ ¬ (R < q' ∨ N < p')) ∨ (m3 = xu2 m2 108 47 (m2 108 47 + nI 1) ∧ (R < q' ∨ N < p')) → P 379 [.ref 108, .int (nI q'), .int (nI p'), .int (nI n'), v4, .int (nI p'), v6] [] (0, 0) (LAY, RFu 123, m3) := fun m3 h3 => by
        have a3 : AgM [] [47] m2 m3 := by
          rcases h3 with ⟨e, -⟩ | ⟨e, -⟩
          · rw [e]; exact AgM.rfl'
          · rw [e]; exact AgM.rfl'.us (by simp)
        have e47 : m3 108 47 = if R < q' ∨ N < p' then m1 108 47 + nI 1 else m1 108 47 := by
          rcases h3 with ⟨e, w⟩ | ⟨e, w⟩
          · rw [e, if_neg w, z47]
          · rw [e, if_pos w, xu2_eq, upd_at, z47]
        refine b173_379 hP (kt hl0 hk he _ m' m2 _ t hz ((((a3.mono (by simp) (by simp)).us (by simp)).us (by simp)).us (by simp)) ?_ ?_ ?_ ?_)
        · rw [xu2_eq, upd_ne (by decide), xu2_eq, upd_ne (by decide), xu2_eq, upd_at]
        · rw [xu2_eq, upd_ne (by decide), xu2_eq, upd_at]
        · rw [xu2_eq, upd_at]
        · rw [xu2_eq, upd_ne (by decide), xu2_eq, upd_ne (by decide), xu2_eq, upd_ne (by decide), e47]
      refine b173_233 hP (fun _ => b173_353 hP (fun w => b173_369 hP (fin _ (Or.inr ⟨rfl, Or.inl ?_⟩))) (fun w => b173_361 hP (fun w2 => fin _ (Or.inl ⟨rfl, ?_⟩)) (fun w2 => b173_369 hP (fin _ (Or.inr ⟨rfl, Or.inr ?_⟩))))) (fun w => absurd (Int32.le_refl _) w)
      · rw [z0] at w
        exact Decidable.by_contra fun q => nI_nlt (by omega) (by omega) w
      · rw [z0] at w
        rw [z2, nI_leI (by omega) (by omega)] at w2
        have : ¬ R < q' := fun q => w (nI_lt q (by omega))
        omega
      · rw [z2, nI_leI (by omega) (by omega)] at w2
        omega
    · intro j hj ih m2 v6 hz
      have v8 : vp_in (nI (N + j)) 8 := vpn (by omega) (by decide)
      refine b173_233 hP (fun w => absurd w (nI_ge (by omega) (by omega))) (fun _ => b173_239 hP v8 v8 v8 v8 v8 v8 v8 v8 ?_)
      rw [nIc (by omega)]
      generalize hm3 : xu2 (xu2 (xu2 (xu2 (xu2 (xu2 (xu2 (xu2 m2 113 (N + j) (nI 0)) 114 (N + j) (-1)) 115 (N + j) (nI 0)) 116 (N + j) (nI 0)) 117 (N + j) (nI 0)) 118 (N + j) (nI 0)) 119 (N + j) (nI 0)) 120 (N + j) (nI 0) = m3
      have a3 : AgM [113, 114, 115, 116, 117, 118, 119, 120] [] m2 m3 := by
        rw [← hm3]
        exact (((((((AgM.rfl'.u2 (by simp) (by decide)).u2 (by simp) (by decide)).u2 (by simp) (by decide)).u2 (by simp) (by decide)).u2 (by simp) (by decide)).u2 (by simp) (by decide)).u2 (by simp) (by decide)).u2 (by simp) (by decide)
      have x113 : m3 113 = upd (m2 113) (N + j) (nI 0) := by rw [← hm3]; simp only [xu2_ne, xu2_eq, ne_eq, Nat.reduceEqDiff, not_false_eq_true]
      have x114 : m3 114 = upd (m2 114) (N + j) (-1) := by rw [← hm3]; simp only [xu2_ne, xu2_eq, ne_eq, Nat.reduceEqDiff, not_false_eq_true]
      have x115 : m3 115 = upd (m2 115) (N + j) (nI 0) := by rw [← hm3]; simp only [xu2_ne, xu2_eq, ne_eq, Nat.reduceEqDiff, not_false_eq_true]
      have x116 : m3 116 = upd (m2 116) (N + j) (nI 0) := by rw [← hm3]; simp only [xu2_ne, xu2_eq, ne_eq, Nat.reduceEqDiff, not_false_eq_true]
      have x117 : m3 117 = upd (m2 117) (N + j) (nI 0) := by rw [← hm3]; simp only [xu2_ne, xu2_eq, ne_eq, Nat.reduceEqDiff, not_false_eq_true]
      have x118 : m3 118 = upd (m2 118) (N + j) (nI 0) := by rw [← hm3]; simp only [xu2_ne, xu2_eq, ne_eq, Nat.reduceEqDiff, not_false_eq_true]
      have x119 : m3 119 = upd (m2 119) (N + j) (nI 0) := by rw [← hm3]; simp only [xu2_ne, xu2_eq, ne_eq, Nat.reduceEqDiff, not_false_eq_true]
      have x120 : m3 120 = upd (m2 120) (N + j) (nI 0) := by rw [← hm3]; simp only [xu2_ne, xu2_eq, ne_eq, Nat.reduceEqDiff, not_false_eq_true]
      have x121 : m3 121 = m2 121 := a3.1 121 (by decide) (by decide)
      have key2 := xloop (N := 8) (G := fun o => ∀ m4, AgM [121] [] m3 m4 → (∀ x y, x < 8 → y < 8 → m4 121 (8 * x + y) = if (x = N + j ∧ y < o) ∨ (y = N + j ∧ x < o) then nI 0 else m3 121 (8 * x + y)) → P 306 [.ref 108, .int (nI q'), .int (nI p'), .int (nI n'), v4, .int (nI (N + j)), .int (nI o)] [] (0, 0) (LAY, RFu 123, m4)) ?_ ?_
      · exact key2 m3 AgM.rfl' (fun x y _ _ => by rw [if_neg (by omega)])
      · intro m4 a4 h4
        refine b173_306 hP (fun _ => b173_347 hP ?_) (fun w => absurd (Int32.le_refl _) w)
        rw [nIs]
        have c4 : ∀ c, c ≠ 121 → c ≠ 108 → m4 c = m3 c := fun c h1 h2 => a4.1 c (by simpa using h1) h2
        refine ih m4 _ ⟨(hz.1.trans (a3.mono (by simp) (by simp))).trans (a4.mono (by simp) (by simp)), fun i h1 h2 => ?_, fun i hi => ?_, fun x y hx hy => ?_⟩
        · rw [c4 113 (by decide) (by decide), c4 114 (by decide) (by decide), c4 115 (by decide) (by decide), c4 116 (by decide) (by decide), c4 117 (by decide) (by decide), c4 118 (by decide) (by decide), c4 119 (by decide) (by decide), c4 120 (by decide) (by decide), x113, x114, x115, x116, x117, x118, x119, x120]
          by_cases e : i = N + j
          · rw [e]
            exact ⟨upd_at, upd_at, upd_at, upd_at, upd_at, upd_at, upd_at, upd_at⟩
          · rw [upd_ne e, upd_ne e, upd_ne e, upd_ne e, upd_ne e, upd_ne e, upd_ne e, upd_ne e]
            exact hz.2.1 i h1 (by omega)
        · have e : i ≠ N + j := by omega
          rw [c4 113 (by decide) (by decide), c4 114 (by decide) (by decide), c4 115 (by decide) (by decide), c4 116 (by decide) (by decide), c4 117 (by decide) (by decide), c4 118 (by decide) (by decide), c4 119 (by decide) (by decide), c4 120 (by decide) (by decide), x113, x114, x115, x116, x117, x118, x119, x120, upd_ne e, upd_ne e, upd_ne e, upd_ne e, upd_ne e, upd_ne e, upd_ne e, upd_ne e]
          exact hz.2.2.1 i hi
        · rw [h4 x y hx hy, x121, hz.2.2.2 x y hx hy]
          by_cases e1 : (x = N + j ∧ y < 8) ∨ (y = N + j ∧ x < 8)
          · rw [if_pos e1, if_pos (by omega)]
          · rw [if_neg e1]
            by_cases e2 : (N ≤ x ∧ x < N + j) ∨ (N ≤ y ∧ y < N + j)
            · rw [if_pos e2, if_pos (by omega)]
            · rw [if_neg e2, if_neg (by omega)]
      · intro o ho ih2 m4 a4 h4
        have i1 : nI 8 * nI (N + j) + nI o = nI (8 * (N + j) + o) := by rw [nI_mul, nI_add]
        have i2 : nI 8 * nI o + nI (N + j) = nI (8 * o + (N + j)) := by rw [nI_mul, nI_add]
        refine b173_306 hP (fun w => absurd w (nI_ge ho (by decide))) (fun _ => b173_313 hP (by rw [i1]; exact vpn (by omega) (by decide)) (by rw [i2]; exact vpn (by omega) (by decide)) ?_)
        rw [i1, i2, nIc (by omega), nIc (by omega), nIs]
        refine ih2 _ ((a4.u2 (by simp) (by decide)).u2 (by simp) (by decide)) (fun x y hx hy => ?_)
        rw [xu2_eq, xu2_eq]
        by_cases e1 : x = N + j ∧ y = o
        · rw [if_pos (by omega)]
          by_cases e2 : 8 * x + y = 8 * o + (N + j)
          · rw [e2, upd_at]
          · rw [upd_ne e2, e1.1, e1.2, upd_at]
        · by_cases e2 : y = N + j ∧ x = o
          · rw [if_pos (by omega), e2.1, e2.2, upd_at]
          · rw [upd_ne (by omega), upd_ne (by omega), h4 x y hx hy]
            by_cases e3 : (x = N + j ∧ y < o) ∨ (y = N + j ∧ x < o)
            · rw [if_pos e3, if_pos (by omega)]
            · rw [if_neg e3, if_neg (by omega)]
  -- nothing more to read
  have stop : ∀ m' v4 v5 v6, TSM m1 m' q' p' H' A' S' → RM m' 123 122 len 76 ee (-1) g → ok = true → ee ≤ min len 76 → P 194 [.ref 108, .int (nI q'), .int (nI p'), .int (nI n'), v4, v5, v6] [] (0, 0) (LAY, RFu 123, m') := fun m' v4 v5 v6 t hM hk hle => by
    obtain ⟨-, -, -, -, r22, r23, r24, -, r25, -, -⟩ := id hM
    refine b173_194 hP (fun w => ?_) (fun w => b173_205 hP (c170 (Bk.v ?_))) <;> rw [r22, r24, nI_leI (by omega) (by omega)] at w
    · exact good m' _ _ _ t r25 hk (by omega)
    · rw [if_pos r25, r24]
      exact f213 _ _ _ _ _ _ _ (t.ag (AgM.rfl'.us (by simp))) (by rw [xu2_eq, upd_at]) (by omega) (by omega)
  -- a line was read
  have done : ∀ m' b v4 v5 v6 q p n f H A S, (∀ a q p n H A S m' v5 v6, 77 ≤ a + f → 2 * n ≤ a → a ≤ min len 76 → RM m' 123 122 len 76 a (-1) g → TSM m1 m' q p H A S → TwI q p H S → trd g f a q p n H A S = (ok, ee, q', p', n', H', A', S') → P 48 [.ref 108, .int (nI q), .int (nI p), .int (nI n), .int (nI 1), v5, v6] [] (0, 0) (LAY, RFu 123, m')) →
      77 ≤ b + 1 + f → 2 * n ≤ b + 1 → b ≤ min len 76 → RM m' 123 122 len 76 b (-1) g → TSM m1 m' q p H A S → TwI q p H S → (if g b = 59 then trd g f (b + 1) q p n H A S else (true, b, q, p, n, H, A, S)) = (ok, ee, q', p', n', H', A', S') → ∀ n0, nI n0 + nI 1 = nI n → P 180 [.ref 108, .int (nI q), .int (nI p), .int (nI n0), v4, v5, v6] [] (0, 0) (LAY, RFu 123, m') := fun m' b v4 v5 v6 q p n f H A S ih hf hn hb hM t hI h n0 hn0 => by
    refine b173_180 hP (c171 (c := 59) hM (by decide) (fun w => Bk.i (b173_189 hP (b173_48 hP (fun _ => ?_) (fun z => absurd rfl z)))) (fun _ w => Bk.i (b173_189 hP ?_)))
    · have w : ¬ g b = 59 := fun q => w ⟨rfl, q⟩
      rw [if_neg w] at h
      simp only [Prod.mk.injEq] at h
      obtain ⟨rfl, rfl, rfl, rfl, rfl, rfl, rfl, rfl⟩ := h
      rw [hn0]
      exact stop m' _ _ _ t hM rfl hb
    · rw [if_pos w] at h
      rw [hn0]
      have hlt := hlim b (by omega)
      exact ih (b + 1) q p n H A S _ _ _ (by omega) (by omega) (by omega) (RM_mv (W := []) (V := [24]) hM (AgM.rfl'.us (by simp)) (by simp) (by simp) (by simp) (by rw [xu2_eq, upd_at]) (by omega) (by rw [xu2_eq, upd_ne (by decide)]; exact hM.2.2.2.2.2.2.2.2.1)) (t.ag (AgM.rfl'.us (by simp))) hI h
  have main : ∀ f a q p n H A S m' v5 v6, 77 ≤ a + f → 2 * n ≤ a → a ≤ min len 76 → RM m' 123 122 len 76 a (-1) g → TSM m1 m' q p H A S → TwI q p H S → trd g f a q p n H A S = (ok, ee, q', p', n', H', A', S') → P 48 [.ref 108, .int (nI q), .int (nI p), .int (nI n), .int (nI 1), v5, v6] [] (0, 0) (LAY, RFu 123, m') := by
    intro f
    induction f with
    | zero =>
      intro a q p n H A S m' v5 v6 hf hn ha
      omega
    | succ f ih =>
      intro a q p n H A S m' v5 v6 hf hn ha hM t hI h
      obtain ⟨-, -, -, -, r22, r23, r24, -, r25, -, -⟩ := id hM
      have hga := RM_le hM a
      have hq4 := hI.1
      have hp8 := hI.2.1
      unfold trd at h
      refine b173_48 hP (fun z => absurd z (by decide)) (fun _ => b173_53 hP (c169 (Bk.i (b173_57 hP (fun z => absurd z (by rw [b01_t r25]; decide)) (fun _ => b173_60 hP (c168 hM (Bk.i (b173_64 hP (fun z => ?_) (fun z => ?_)))))))))
      · have c1 : g a ≠ 114 := fun w => z ((hr_eq (by decide)).mpr w)
        rw [if_neg c1] at h
        refine b173_137 hP (fun z2 => ?_) (fun z2 => b173_143 hP (c170 (Bk.v (b173_151 hP ?_))))
        · have c2 : p ≠ 8 := fun w => z2 (by rw [w])
          rw [if_neg c2] at h
          have v8 : vp_in (nI p) 8 := vpn (by omega) (by decide)
          refine b173_154 hP (c172 (dd := 2) hM (by omega) (by decide) fun m3 a3 h24 h25 => Bk.i (b173_164 hP v8 ?_))
          rw [nIc (by omega)]
          have nl := numF_le (g := g) (d := 2) (a := a) (v := 0)
          have hM3 : RM (xu2 m3 110 p (nI (numF g 2 a 0).2)) 123 122 len 76 (numF g 2 a 0).1 (if (numF g 2 a 0).1 = a then nI a else -1) g := RM_mv (W := [110]) (V := [24, 25]) hM ((a3.mono (by simp) (by simp)).u2 (by simp) (by decide)) (by decide) (by decide) (by decide) (by rw [xu2_ne (by decide), h24]) (by omega) (by rw [xu2_ne (by decide), h25])
          have t3 : ∀ (m4 : Nat → Nat → Int32) (y : Int32) (V : List Nat), AgM [] V (xu2 m3 110 p (nI (numF g 2 a 0).2)) m4 → V = [24] ∨ V = [] → TSM m1 (xu2 m4 111 p y) q p H A S ∧ (xu2 m4 111 p y) 110 p = nI (numF g 2 a 0).2 ∧ (xu2 m4 111 p y) 111 p = y := fun m4 y V a4 hV => by
            have a4 : AgM [] [24] (xu2 m3 110 p (nI (numF g 2 a 0).2)) m4 := a4.mono (by simp) (by rcases hV with w | w <;> rw [w] <;> simp)
            obtain ⟨t1, t2, t3, t4⟩ := t.ag (a3.mono (by simp) (by simp))
            have e110 : xu2 m4 111 p y 110 = upd (m3 110) p (nI (numF g 2 a 0).2) := by rw [xu2_ne (by decide), a4.1 110 (by simp) (by decide), xu2_eq]
            have e111 : xu2 m4 111 p y 111 = upd (m3 111) p y := by rw [xu2_eq, a4.1 111 (by simp) (by decide), xu2_ne (by decide)]
            refine ⟨⟨((t1.u2 (by simp) (by decide)).trans (a4.mono (by simp) (by simp))).u2 (by simp) (by decide), ?_, fun i hi => ?_, fun i hi => ?_⟩, by rw [e110, upd_at], by rw [e111, upd_at]⟩
            · rw [xu2_ne (by decide), a4.2 17 (by simp), xu2_ne (by decide), t2]
            · rw [xu2_ne (by decide), a4.1 109 (by simp) (by decide), xu2_ne (by decide)]; exact t3 i hi
            · rw [e110, e111, upd_ne (by omega), upd_ne (by omega)]; exact t4 i hi
          by_cases c3 : 48 ≤ g a ∧ g a ≤ 57
          · rw [if_pos c3] at h
            have hgt : (numF g 2 a 0).1 ≠ a := by
              have := (numF_le (g := g) (d := 1) (a := a + 1) (v := 10 * 0 + (g a - 48))).1
              rw [numF_s, if_pos c3]; omega
            have hnl : (numF g 2 a 0).1 ≤ min len 76 := by
              have h0 := hlim a (by omega)
              rw [numF_s, if_pos c3, numF_s]
              split
              · rename_i w
                have := hlim (a + 1) (by omega)
                show a + 1 + 1 ≤ _
                omega
              · exact h0
            rw [if_neg hgt] at hM3
            have hge := tbF_ge c3
            have hI2 := hI.p c2 (tsF_01 (g := g) (a := a))
            have fin : ∀ m4 y, AgM [] [24] (xu2 m3 110 p (nI (numF g 2 a 0).2)) m4 → RM m4 123 122 len 76 (tbF g a) (-1) g → tbF g a ≤ min len 76 → y = tsF g a → P 176 [.ref 108, .int (nI q), .int (nI p), .int (nI n), .int (nI 1), v5, v6] [.int y, .int (nI p), .ref 111] (0, 0) (LAY, RFu 123, m4) := fun m4 y a4 hM4 hle hy => by
              subst hy
              have ey : xNar 15 (tsF g a) = tsF g a := by rcases tsF_01 (g := g) (a := a) with w | w <;> rw [w] <;> decide
              refine b173_176 hP v8 ?_
              rw [nIc (by omega), ey, nIs]
              obtain ⟨y1, y2, y3⟩ := t3 m4 (tsF g a) [24] a4 (Or.inl rfl)
              have hM5 : RM (xu2 m4 111 p (tsF g a)) 123 122 len 76 (tbF g a) (-1) g := RM_mv (W := [111]) (V := []) hM4 (AgM.rfl'.u2 (by simp) (by decide)) (by decide) (by simp) (by simp) (by rw [xu2_ne (by decide)]; exact hM4.2.2.2.2.2.2.1) (by omega) (by rw [xu2_ne (by decide)]; exact hM4.2.2.2.2.2.2.2.2.1)
              refine done _ (tbF g a) _ _ _ q (p + 1) (n + 1) f H _ _ ih (by omega) (by omega) hle hM5 ⟨y1.1, y1.2.1, y1.2.2.1, fun i hi => ?_⟩ hI2 h n (nIs n)
              by_cases e : i = p
              · rw [e, y2, y3, upd_at, upd_at]; exact ⟨rfl, rfl⟩
              · rw [upd_ne e, upd_ne e]; exact y1.2.2.2 i (by omega)
            refine c171 (c := 33) hM3 (by decide) (fun w => Bk.i (fin _ _ AgM.rfl' ?_ ?_ ?_)) (fun _ w => Bk.i (fin _ _ (AgM.rfl'.us (by simp)) ?_ ?_ ?_))
            · have w : ¬ g (numF g 2 a 0).1 = 33 := fun q => w ⟨rfl, q⟩
              unfold tbF; rw [if_neg w]; exact hM3
            · have w : ¬ g (numF g 2 a 0).1 = 33 := fun q => w ⟨rfl, q⟩
              unfold tbF; rw [if_neg w]; exact hnl
            · have w : ¬ g (numF g 2 a 0).1 = 33 := fun q => w ⟨rfl, q⟩
              unfold tsF; rw [if_neg w]
            · unfold tbF; rw [if_pos w]
              exact RM_mv (W := []) (V := [24]) hM3 (AgM.rfl'.us (by simp)) (by simp) (by simp) (by simp) (by rw [xu2_eq, upd_at]) (by omega) (by rw [xu2_eq, upd_ne (by decide)]; exact hM3.2.2.2.2.2.2.2.2.1)
            · unfold tbF; rw [if_pos w]
              exact hlim _ (by omega)
            · unfold tsF; rw [if_pos w]
          · rw [if_neg c3] at h
            simp only [Prod.mk.injEq] at h
            obtain ⟨rfl, rfl, rfl, rfl, rfl, rfl, rfl, rfl⟩ := h
            have e2 : numF g 2 a 0 = (a, 0) := by rw [numF_s, if_neg c3]
            have e21 : (numF g 2 a 0).1 = a := by rw [e2]
            rw [if_pos e21, e21] at hM3
            refine c171 (c := 33) hM3 (by decide) (fun w => Bk.i (b173_176 hP v8 ?_)) (fun w _ => absurd w (nI_nm (by omega)))
            rw [nIc (by omega)]
            obtain ⟨y1, -, -⟩ := t3 _ (xNar 15 (nI 0)) [] AgM.rfl' (Or.inr rfl)
            exact f180 _ a _ _ _ _ _ _ y1 (RM_mv (W := [111]) (V := []) hM3 (AgM.rfl'.u2 (by simp) (by decide)) (by decide) (by simp) (by simp) (by rw [xu2_ne (by decide)]; exact hM3.2.2.2.2.2.2.1) (by omega) (by rw [xu2_ne (by decide)]; exact hM3.2.2.2.2.2.2.2.2.1)) (by omega) rfl
        · have c2 : p = 8 := nI_inj z2 (by omega) (by decide)
          rw [if_pos c2] at h
          simp only [Prod.mk.injEq] at h
          obtain ⟨rfl, rfl, rfl, rfl, rfl, rfl, rfl, rfl⟩ := h
          rw [if_pos r25, r24]
          exact f180 _ a _ _ _ _ _ _ (t.ag (AgM.rfl'.us (by simp))) (RM_mv (W := []) (V := [25]) hM (AgM.rfl'.us (by simp)) (by simp) (by simp) (by simp) (by rw [xu2_eq, upd_ne (by decide), r24]) (by omega) (by rw [xu2_eq, upd_at])) (by omega) rfl
      · have c1 : g a = 114 := (hr_eq (by decide)).mp z
        have hal := hlim a (by omega)
        rw [if_pos c1] at h
        refine b173_69 hP (fun z2 => ?_) (fun z2 => b173_74 hP (c170 (Bk.v (b173_82 hP (b173_131 hP ?_)))))
        · have c2 : q ≠ 4 := fun w => z2 (by rw [w])
          rw [if_neg c2] at h
          have v4 : vp_in (nI q) 4 := vpn (by omega) (by decide)
          have hM2 : RM (xu2 m' 108 24 (nI (a + 1))) 123 122 len 76 (a + 1) (-1) g := RM_mv (W := []) (V := [24]) hM (AgM.rfl'.us (by simp)) (by simp) (by simp) (by simp) (by rw [xu2_eq, upd_at]) (by omega) (by rw [xu2_eq, upd_ne (by decide), r25])
          have t2 : TSM m1 (xu2 m' 108 24 (nI (a + 1))) q p H A S := t.ag (AgM.rfl'.us (by simp))
          refine b173_85 hP ?_
          rw [r24, nIs]
          generalize xu2 m' 108 24 (nI (a + 1)) = m3 at hM2 t2
          have hga2 := RM_le hM2 (a + 1)
          have hd : ∀ x < 257, (nI 48 ≤ hr x ∧ hr x ≤ nI 56) ↔ (48 ≤ x ∧ x ≤ 56) := by decide +kernel
          have hd := hd (g (a + 1)) (by omega)
          have h24' : m3 108 24 = nI (a + 1) := hM2.2.2.2.2.2.2.1
          have h25' : m3 108 25 = -1 := hM2.2.2.2.2.2.2.2.2.1
          refine c168 hM2 (Bk.i (b173_99 hP (c158 (Bk.i (b173_106 hP (fun z3 => b173_123 hP (c170 (Bk.v (b173_131 hP ?_)))) (fun z3 => ?_))))))
          · have c3 : ¬ (48 ≤ g (a + 1) ∧ g (a + 1) ≤ 56) := fun w => b01_0.mp z3 (hd.mpr w)
            rw [if_neg c3] at h
            simp only [Prod.mk.injEq] at h
            obtain ⟨rfl, rfl, rfl, rfl, rfl, rfl, rfl, rfl⟩ := h
            rw [if_pos h25', h24']
            exact f180 _ (a + 1) _ _ _ _ _ _ (t2.ag (AgM.rfl'.us (by simp))) (RM_mv (W := []) (V := [25]) hM2 (AgM.rfl'.us (by simp)) (by simp) (by simp) (by simp) (by rw [xu2_eq, upd_ne (by decide), h24']) (by omega) (by rw [xu2_eq, upd_at])) (by omega) rfl
          · have c3 : 48 ≤ g (a + 1) ∧ g (a + 1) ≤ 56 := hd.mp (Decidable.by_contra fun w => z3 (b01_f w))
            rw [if_pos c3] at h
            have hal2 := hlim (a + 1) (by omega)
            have e2 : numF g 1 (a + 1) 0 = (a + 1 + 1, g (a + 1) - 48) := by
              rw [numF_s, if_pos ⟨c3.1, by omega⟩]
              show (a + 1 + 1, 10 * 0 + (g (a + 1) - 48)) = _
              rw [Nat.mul_zero, Nat.zero_add]
            refine b173_109 hP (c172 (dd := 1) hM2 (by omega) (by decide) fun m4 a4 h24 h25 => Bk.i (b173_119 hP v4 (b173_131 hP ?_)))
            rw [e2] at h24 h25 ⊢
            rw [if_neg (by show ¬ a + 1 + 1 = a + 1; omega)] at h25
            rw [nIc (by omega), nIs]
            obtain ⟨t1', t2', t3', t4'⟩ := t2.ag (a4.mono (by simp) (by simp))
            have hM5 : RM (xu2 m4 109 q (nI (g (a + 1) - 48))) 123 122 len 76 (a + 1 + 1) (-1) g := RM_mv (W := [109]) (V := [24, 25]) hM2 ((a4.mono (by simp) (by simp)).u2 (by simp) (by decide)) (by decide) (by decide) (by decide) (by rw [xu2_ne (by decide)]; exact h24) (by omega) (by rw [xu2_ne (by decide)]; exact h25)
            refine done _ (a + 1 + 1) _ _ _ (q + 1) p (n + 1) f _ _ _ ih (by omega) (by omega) (by omega) hM5 ⟨t1'.u2 (by simp) (by decide), by rw [xu2_ne (by decide), t2'], fun i hi => ?_, fun i hi => by rw [xu2_ne (by decide), xu2_ne (by decide)]; exact t4' i hi⟩ (hI.r c2 (by omega)) h n (nIs n)
            rw [xu2_eq]
            by_cases e : i = q
            · rw [e, upd_at, upd_at]
            · rw [upd_ne e, upd_ne e]; exact t3' i (by omega)
        · have c2 : q = 4 := nI_inj z2 (by omega) (by decide)
          rw [if_pos c2] at h
          simp only [Prod.mk.injEq] at h
          obtain ⟨rfl, rfl, rfl, rfl, rfl, rfl, rfl, rfl⟩ := h
          rw [if_pos r25, r24]
          exact f180 _ a _ _ _ _ _ _ (t.ag (AgM.rfl'.us (by simp))) (RM_mv (W := []) (V := [25]) hM (AgM.rfl'.us (by simp)) (by simp) (by simp) (by simp) (by rw [xu2_eq, upd_ne (by decide), r24]) (by omega) (by rw [xu2_eq, upd_at])) (by omega) rfl
  refine b173_33 hP ?_
  rw [b1.1.2 0 (by decide), b1.1.2 2 (by decide), hR, hN]
  exact main 77 0 R N 0 H A S m2 _ _ (by decide) (by decide) (by omega) hM b1 hI hX
end K
