/-! plan -/
def okP (R x : Nat) : Bool := decide (x = 45 ∨ (48 ≤ x ∧ x < 48 + R))
def scn (g : Nat → Nat) (R : Nat) : Nat → Nat → Nat
  | 0, a => a
  | f + 1, a => if okP R (g a) = true then scn g R f (a + 1) else a
theorem scn_ok {g : Nat → Nat} {R : Nat} : ∀ {f a : Nat}, a ≤ scn g R f a ∧ scn g R f a ≤ a + f ∧ (∀ i, a ≤ i → i < scn g R f a → okP R (g i) = true)
  | 0, a => ⟨Nat.le_refl _, Nat.le_refl _, fun i h1 h2 => by have : scn g R 0 a = a := rfl; omega⟩
  | f + 1, a => by
    unfold scn
    by_cases h : okP R (g a) = true
    · rw [if_pos h]
      obtain ⟨h1, h2, h3⟩ := scn_ok (g := g) (R := R) (f := f) (a := a + 1)
      refine ⟨by omega, by omega, fun i q1 q2 => ?_⟩
      by_cases e : i = a
      · rw [e]; exact h
      · exact h3 i (by omega) q2
    · rw [if_neg h]
      exact ⟨Nat.le_refl _, by omega, fun i h1 h2 => by omega⟩
theorem okP_lt {R x : Nat} (hR : R ≤ 4) (h : okP R x = true) : x < 53 := by
  have := of_decide_eq_true h
  omega
def pvC (x : Nat) : Int32 := if x = 45 then -1 else nI (x - 48)
theorem pv_r {R x : Nat} (h : okP R x = true) : pvC x = -1 ∨ ∃ rm, rm < R ∧ pvC x = nI rm := by
  have := of_decide_eq_true h
  unfold pvC
  by_cases e : x = 45
  · rw [if_pos e]; exact Or.inl rfl
  · rw [if_neg e]; exact Or.inr ⟨x - 48, by omega, rfl⟩
section K
variable {N R B r d n T : Nat} {mem m' m0 m1 m2 m3 m4 m5 : Nat → Nat → Int32} {Q : xQr} {g : xCf} {D : xD}
theorem c87 {p len R : Nat} {tx : Nat → Nat} (hT : TxC mem len tx) (hR : mem 5 0 = nI R) (hR4 : R ≤ 4) (hp : p < 8)
    (k0 : scn (gT tx len 24) R 24 0 ≠ len → ∀ m', Ag [1] mem m' → m' 1 2 = nI (scn (gT tx len 24) R 24 0) → Q (some (.int (nI 0))) (LAY, RFu r, m'))
    (k1 : scn (gT tx len 24) R 24 0 = len → ∀ m', Ag [1, 18, 10 + p] mem m' → m' 1 1 = nI len → m' 18 = upd (mem 18) p (nI len) → (∀ k, k < len → m' (10 + p) k = pvC (tx k)) → Q (some (.int (nI 1))) (LAY, RFu r, m')) : xCall (d + 4) 87 [.ref 5, .ref 1, .int (nI p)] (LAY, RFu r, mem) Q := by
  have hlen := hT.2.1
  refine c_in rfl rfl rfl fun P hP => b87_0 hP (Or.inl rfl) (c74 (lim := 24) (by decide) hT fun m0 a0 r0 => Bk.v (b87_8 hP (Or.inl rfl) ?_))
  generalize hg : gT tx len 24 = g at k0 k1 r0
  generalize hE : scn g R 24 0 = e at k0 k1
  -- read through
  have stop : ∀ b m' v4, RC m' len (min len 24) b g → Ag [1] mem m' → b = e → P 65 [.ref 5, .ref 1, .int (nI p), .int (nI 1), v4] [] (0, 0) (LAY, RFu r, m') := fun b m' v4 hr a hb => by
    refine b87_65 hP (Or.inl rfl) (fun z => absurd z (by decide)) (fun _ => b87_69 hP (Or.inl rfl) (c79 hr (Bk.i (b87_73 hP (Or.inl rfl) (fun z => ?_) (fun z => ?_)))))
    · have hbl : b = len := Decidable.by_contra fun q => z (b01_f q)
      have he : e = len := by rw [← hb]; exact hbl
      have e1 : m' 1 1 = nI len := hr.1
      have hle : len ≤ 24 := by have := hr.2.2.2.2.2.1; omega
      have vp : vp_in (nI p) 8 := vpn hp (by decide)
      have cp : (nI p).toNatClampNeg = p := nIc (by omega)
      refine b87_78 hP (Or.inl rfl) vp ?_
      have em : (if m' 1 1 < nI 24 then m' 1 1 else nI 24) = nI len := by
        rw [e1]
        by_cases q : len < 24
        · rw [if_pos (nI_lt q (by decide))]
        · rw [if_neg (nI_nlt (by omega) (by omega)), show len = 24 by omega]
      rw [em, cp]
      generalize hm2 : xu2 m' (5 + 13) p (nI len) = m2
      have a2 : Ag [1, 18] mem m2 := by rw [← hm2]; exact (a.mono (by simp)).u2 (by simp)
      have e18 : m2 18 = upd (mem 18) p (nI len) := by rw [← hm2]; show xu2 m' 18 p (nI len) 18 = _; rw [xu2_eq, a 18 (by decide)]
      have hw : LAY[10 + p]? = some (13, 24) := by
        have : ∀ p < 8, LAY[10 + p]? = some (13, 24) := by decide
        exact this p hp
      have n1 : ∀ c, c ≠ 18 → m2 c = m' c := fun c hc => by rw [← hm2, xu2_ne hc]
      have key := xloop (N := len) (G := fun j => ∀ m3, Ag [10 + p] m2 m3 → (∀ k, k < j → m3 (10 + p) k = pvC (tx k)) → P 96 [.ref 5, .ref 1, .int (nI p), .int (nI 1), .int (nI j)] [] (0, 0) (LAY, RFu r, m3)) ?_ ?_
      · exact key m2 Ag.rfl' (fun k hk => absurd hk (Nat.not_lt_zero k))
      · intro m3 a3 s3
        refine b87_96 hP (Or.inl rfl) vp (fun _ => b87_148 hP (t := 5) (Or.inl rfl) (Or.inr rfl) (k1 he m3 ?_ ?_ ?_ s3)) (fun z => absurd ?_ z)
        · exact (a2.mono (by simp)).trans (a3.mono (by simp))
        · rw [a3 1 (by simp; omega), n1 1 (by decide), e1]
        · rw [a3 18 (by simp; omega), e18]
        · rw [cp, a3 (5 + 13) (by simp; omega), show m2 (5 + 13) = m2 18 from rfl, e18, upd_at]; exact Int32.le_refl _
      · intro j hj ih m3 a3 s3
        have t2 : m3 2 j = nI (tx j) := by
          rw [a3 2 (by simp; omega), n1 2 (by decide)]
          have := hr.2.2.2.2.2.2.1 j (by omega)
          rw [this.2, ← hg, gT_at (by omega)]
        have hx : okP R (g j) = true := by
          have := (scn_ok (g := g) (R := R) (f := 24) (a := 0)).2.2 j (Nat.zero_le _) (by rw [hE, he]; exact hj)
          exact this
        have hgx : g j = tx j := by rw [← hg, gT_at (by omega)]
        rw [hgx] at hx
        have hx53 := okP_lt hR4 hx
        have vj : vp_in (nI j) 80 := vpn (by omega) (by decide)
        have cj : (nI j).toNatClampNeg = j := nIc (by omega)
        have fin : ∀ y, y = pvC (tx j) → P 141 [.ref 5, .ref 1, .int (nI p), .int (nI 1), .int (nI j)] [.int y, .int (nI j), .ref (10 + p)] (0, 0) (LAY, RFu r, m3) := fun y hy => by
          refine b87_141 hP (t := 5) (Or.inl rfl) hw (vpn (by omega) (by decide)) ?_
          rw [cj, nIs, hy]
          refine ih _ (a3.u2 (by simp)) fun k hk => ?_
          rw [xu2_eq]
          by_cases w : k = j
          · rw [w, upd_at]
          · rw [upd_ne w]; exact s3 k (by omega)
        have ew : 5 + 5 + (nI p).toNatClampNeg = 10 + p := by rw [cp]
        refine b87_96 hP (Or.inl rfl) vp (fun z => absurd z ?_) (fun _ => b87_107 hP (Or.inl rfl) vp vj (fun z => ?_) (fun z => ?_))
        · rw [cp, a3 (5 + 13) (by simp; omega), show m2 (5 + 13) = m2 18 from rfl, e18, upd_at]; exact nI_ge hj (by omega)
        · rw [cj, t2] at z
          rw [ew]
          refine b87_131 hP (t := 5) (Or.inl rfl) hw vj ?_
          rw [cj, t2]
          have hne : tx j ≠ 45 := fun q => z (by rw [q])
          have := (of_decide_eq_true hx).resolve_left hne
          rw [nI_sub this.1]
          exact fin _ (if_neg hne).symm
        · rw [cj, t2] at z
          rw [ew]
          exact b87_127 hP (t := 5) (Or.inl rfl) hw (fin _ (if_pos (nI_inj z (by omega) (by decide))).symm)
    · have hbl : b ≠ len := b01_0.mp z
      refine b87_76 hP (t := 5) (Or.inl rfl) (Or.inl rfl) (k0 (by rw [← hb]; exact hbl) m' a ?_)
      rw [hr.2.2.1, hb]
  have main : ∀ f b m', b + f = 24 → RC m' len (min len 24) b g → Ag [1] mem m' → scn g R f b = e → P 11 [.ref 5, .ref 1, .int (nI p), .int (nI 1), .int (nI b)] [] (0, 0) (LAY, RFu r, m') := by
    intro f
    induction f with
    | zero =>
      intro b m' hb hr a hs
      exact b87_11 hP (Or.inl rfl) (fun _ => stop b m' _ hr a hs) (fun z => absurd (nI_le (by omega) (by omega)) z)
    | succ f ih =>
      intro b m' hb hr a hs
      have hbl := hr.2.2.2.2.2.1
      have es : scn g R (f + 1) b = if okP R (g b) = true then scn g R f (b + 1) else b := rfl
      rw [hs] at es
      refine b87_11 hP (Or.inl rfl) (fun z => absurd z (nI_ge (by omega) (by decide))) (fun _ => b87_18 hP (Or.inl rfl) (fun z => absurd z (by decide)) (fun _ => b87_22 hP (Or.inl rfl) (c75 hr (Bk.i (b87_26 hP (Or.inl rfl) (fun z => ?_) (fun z => ?_))))))
      · -- nothing more to read
        have h256 : ¬ g b < 256 := fun q => by
          unfold hcx at z
          rw [if_pos q] at z
          exact nI_nm (by omega) z
        have hno : ¬ okP R (g b) = true := fun q => by have := okP_lt hR4 q; omega
        rw [if_neg hno] at es
        exact stop b m' _ hr a es.symm
      · have hlt : g b < 256 := Decidable.by_contra fun q => z (by unfold hcx; rw [if_neg q])
        have hbl2 := hr.lt hlt
        have yes : ∀ x3, okP R (g b) = true → P 53 [.ref 5, .ref 1, .int (nI p), x3, .int (nI b)] [] (0, 0) (LAY, RFu r, txM m' (b + 1)) := fun x3 ok => by
          rw [if_pos ok] at es
          refine b87_53 hP (Or.inl rfl) (b87_58 hP (Or.inl rfl) ?_)
          rw [nIs]
          exact ih (b + 1) _ (by omega) (hr.tx (by omega)) (a.trans txM_ag) es.symm
        refine b87_30 hP (Or.inl rfl) (c76 (c := 45) hr (by decide) (fun h45 => Bk.i (b87_36 hP (Or.inl rfl) (fun y => absurd rfl y) (fun _ => b87_39 hP (Or.inl rfl) ?_))) (fun h45 => Bk.i (b87_36 hP (Or.inl rfl) (fun _ => yes _ (decide_eq_true (Or.inl h45))) (fun y => absurd y (by decide)))))
        rw [a 5 (by decide), hR]
        have hd : ∀ x < 257, ∀ R < 5, (48 ≤ x ∧ x ≤ 57 ∧ nI (x - 48) ≤ nI R - nI 1) ↔ (48 ≤ x ∧ x < 48 + R) := by decide +kernel
        have hd := hd (g b) (by omega) R (by omega)
        refine c77 hr (fun hn => Bk.i (b87_49 hP (Or.inl rfl) (fun _ => b87_57 hP (Or.inl rfl) (b87_58 hP (Or.inl rfl) ?_)) (fun y => absurd rfl y))) (fun q1 q2 q3 => Bk.i (b87_49 hP (Or.inl rfl) (fun y => absurd y (nI_nm (by omega))) (fun _ => yes _ (decide_eq_true (Or.inr (hd.mp ⟨q1, q2, q3⟩))))))
        have hno : ¬ okP R (g b) = true := fun q => by
          rcases of_decide_eq_true q with w | w
          · exact h45 w
          · exact hn (hd.mpr w)
        rw [if_neg hno] at es
        have f65 : ∀ v4, P 65 [.ref 5, .ref 1, .int (nI p), .int (nI 0), v4] [] (0, 0) (LAY, RFu r, m') := fun v4 => b87_65 hP (Or.inl rfl) (fun _ => b87_76 hP (t := 5) (Or.inl rfl) (Or.inl rfl) (k0 (by omega) m' a (by rw [hr.2.2.1, es]))) (fun y => absurd rfl y)
        exact b87_11 hP (Or.inl rfl) (fun _ => f65 _) (fun _ => b87_18 hP (Or.inl rfl) (fun _ => f65 _) (fun y => absurd rfl y))
  exact main 24 0 m0 (by decide) r0 a0 hE
/-- the reference reads the same -/
theorem m174 {p len R N : Nat} {tx : Nat → Nat} (hT : TxM m1 len tx) (hR : m1 108 0 = nI R) (hR4 : R ≤ 4) (hN : m1 108 2 = nI N) (hN8 : N ≤ 8) (hp : p < N) {Q2 : xQr}
    (k0 : scn (gT tx len 24) R 24 0 ≠ len → ∀ r2 m2, AgM [] [17, 20, 22, 23, 24, 25] m1 m2 → m2 108 17 = nI 0 → Q2 (some (.int (-1 - nI (scn (gT tx len 24) R 24 0)))) (LAY, RFu r2, m2))
    (k1 : scn (gT tx len 24) R 24 0 = len → ∀ r2 m2, AgM [112, 113] [17, 20, 22, 23, 24, 25] m1 m2 → m2 108 17 = nI 0 → m2 113 = upd (m1 113) p (nI len) → (∀ k, k < len → m2 112 (24 * p + k) = pvC (tx k)) → (∀ i, (i < 24 * p ∨ 24 * p + 24 ≤ i) → m2 112 i = m1 112 i) → Q2 (some (.int (nI len))) (LAY, RFu r2, m2)) :
    xCall (d + 4) 174 [.ref 108, .int (nI p)] (LAY, RFu r, m1) Q2 := by
  obtain ⟨t1, t2, t3⟩ := id hT
  refine c_in rfl rfl rfl fun P hP => b174_0 hP ?_
  have e17 : xu2 m1 108 20 (nI 0) 108 17 = nI len := by rw [e20 (by decide), t1]
  rw [e17]
  have hL : LAY[122]? = some (14, 80) := rfl
  refine c167 hL fun m2 a2 e1 e2 e3 e4 => Bk.v (b174_19 hP ?_)
  have a2' : AgM [] [17, 20, 22, 23, 24, 25] m1 (xu2 m2 108 17 (nI 0)) := ((th20.mono (by simp) (by simp)).trans (a2.mono (by simp) (by simp))).us (by simp)
  have hM0 : RM m2 123 122 len 24 0 (-1) (gT tx len 24) := gT_RM hL t2 (by decide) (by decide) (by omega) e1 e2 e3 e4 (fun i hi => ⟨(t3 i hi).1, by rw [a2.1 122 (by simp) (by decide), xu2_ne (by decide)]; exact (t3 i hi).2⟩)
  have hM : RM (xu2 m2 108 17 (nI 0)) 123 122 len 24 0 (-1) (gT tx len 24) := RM_mv (W := []) (V := [17]) hM0 (AgM.rfl'.us (by simp)) (by simp) (by simp) (by simp) (by rw [xu2_eq, upd_ne (by decide), e3]) (by decide) (by rw [xu2_eq, upd_ne (by decide), e4])
  have f17 : xu2 m2 108 17 (nI 0) 108 17 = nI 0 := by rw [xu2_eq, upd_at]
  refine c162 (N := N) (by rw [a2'.2 2 (by decide)]; exact hN) (by omega) (fun q => absurd rfl (q p hp)) (fun _ _ _ => Bk.i (b174_29 hP (fun _ => ?_) (fun z => absurd z (by decide))))
  generalize xu2 m2 108 17 (nI 0) = m3 at a2' hM f17
  have hgl : ∀ i, min len 24 ≤ i → gT tx len 24 i = 256 := fun i hi => gT_lim hi
  have hga : ∀ i, i < min len 24 → gT tx len 24 i = tx i := fun i hi => gT_at hi
  generalize hg : gT tx len 24 = g at hM k0 k1 hgl hga
  generalize hE : scn g R 24 0 = e at k0 k1
  have fault : ∀ m4 v2, AgM [] [17, 20, 22, 23, 24, 25] m1 m4 → m4 108 17 = nI 0 → m4 108 25 = nI e → e ≠ len → e < 1000 → P 137 [.ref 108, .int (nI p), v2] [] (0, 0) (LAY, RFu 123, m4) := fun m4 v2 a4 h17 h25 hne he => by
    refine b174_137 hP (c169 (Bk.i (b174_141 hP (fun z => absurd (b01_f (fun q => nI_nm (a := e) (by omega) (by rw [← h25]; exact q))) z) (fun _ => b174_144 hP ?_))))
    rw [h25]
    exact k0 hne _ _ a4 h17
  have stop : ∀ b m4 v2, RM m4 123 122 len 24 b (-1) g → AgM [] [17, 20, 22, 23, 24, 25] m1 m4 → m4 108 17 = nI 0 → b = e → b ≤ min len 24 → P 118 [.ref 108, .int (nI p), v2] [] (0, 0) (LAY, RFu 123, m4) := fun b m4 v2 rmh a4 h17 hb hbl => by
    obtain ⟨-, -, -, -, r22, r23, r24, -, r25, -, -⟩ := id rmh
    refine b174_118 hP (fun z => ?_) (fun z => ?_) <;> rw [r22, r24, nI_leI (by omega) (by omega)] at z
    · have he : e = len := by omega
      refine b174_137 hP (c169 (Bk.i (b174_141 hP (fun _ => b174_151 hP ?_) (fun q => absurd q (by rw [b01_t r25]; decide)))))
      have hp8 : p < 8 := by omega
      have key := xloop (N := len) (G := fun j => ∀ m5, AgM [112] [] m4 m5 → (∀ k, k < j → m5 112 (24 * p + k) = pvC (tx k)) → (∀ i, (i < 24 * p ∨ 24 * p + 24 ≤ i) → m5 112 i = m4 112 i) → P 153 [.ref 108, .int (nI p), .int (nI j)] [] (0, 0) (LAY, RFu 123, m5)) ?_ ?_
      · exact key m4 AgM.rfl' (fun k hk => absurd hk (Nat.not_lt_zero k)) (fun _ _ => rfl)
      · intro m5 a5 s5 o5
        have r22' : m5 108 22 = nI len := by rw [a5.2 22 (by simp), r22]
        refine b174_153 hP (fun _ => b174_202 hP (vpn hp8 (by decide)) ?_) (fun z => absurd (by rw [r22']; exact Int32.le_refl _) z)
        rw [nIc (by omega), xu2_ne (by decide), r22']
        refine k1 he _ _ (((a4.mono (by simp) (by simp)).trans (a5.mono (by simp) (by simp))).u2 (by simp) (by decide)) ?_ ?_ (fun k hk => ?_) (fun i hi => ?_)
        · rw [xu2_ne (by decide), a5.2 17 (by simp), h17]
        · rw [xu2_eq, a5.1 113 (by simp) (by decide), a4.1 113 (by simp) (by decide)]
        · rw [xu2_ne (by decide)]; exact s5 k hk
        · rw [xu2_ne (by decide), o5 i hi, a4.1 112 (by simp) (by decide)]
      · intro j hj ih m5 a5 s5 o5
        have r22' : m5 108 22 = nI len := by rw [a5.2 22 (by simp), r22]
        have hx : okP R (g j) = true := (scn_ok (g := g) (R := R) (f := 24) (a := 0)).2.2 j (Nat.zero_le _) (by rw [hE, he]; exact hj)
        rw [hga j (by omega)] at hx
        have hx53 := okP_lt hR4 hx
        have t122 : m5 122 j = sb (tx j) := by rw [a5.1 122 (by simp) (by decide), a4.1 122 (by simp) (by decide)]; exact (t3 j hj).2
        have esb : sb (tx j) = nI (tx j) := if_pos (by omega)
        have vj : vp_in (nI j) 80 := vpn (by omega) (by decide)
        have cj : (nI j).toNatClampNeg = j := nIc (by omega)
        have ei : nI 24 * nI p + nI j = nI (24 * p + j) := by rw [nI_mul, nI_add]
        have fin : ∀ y, y = pvC (tx j) → P 195 [.ref 108, .int (nI p), .int (nI j)] [.int y, .int (nI 24 * nI p + nI j), .ref 112] (0, 0) (LAY, RFu 123, m5) := fun y hy => by
          refine b174_195 hP (by rw [ei]; exact vpn (by omega) (by decide)) ?_
          rw [ei, nIc (by omega), nIs, hy]
          refine ih _ (a5.u2 (by simp) (by decide)) (fun k hk => ?_) (fun i hi => ?_)
          · rw [xu2_eq]
            by_cases w : k = j
            · rw [w, upd_at]
            · rw [upd_ne (by omega)]; exact s5 k (by omega)
          · rw [xu2_eq, upd_ne (by omega)]; exact o5 i hi
        refine b174_153 hP (fun z => absurd z (by rw [r22']; exact nI_ge hj (by omega))) (fun _ => b174_161 hP vj (fun z => b174_186 hP vj ?_) (fun z => b174_182 hP (fin _ ?_)))
        · rw [cj, t122, esb] at z
          rw [cj, t122, esb]
          have hne : tx j ≠ 45 := fun q => z (by rw [q])
          have := (of_decide_eq_true hx).resolve_left hne
          rw [nI_sub this.1]
          exact fin _ (if_neg hne).symm
        · rw [cj, t122, esb] at z
          exact (if_pos (nI_inj z (by omega) (by decide))).symm
    · refine b174_129 hP (c170 (Bk.v ?_))
      rw [if_pos r25, r24]
      exact fault _ _ (a4.us (by simp)) (by rw [xu2_eq, upd_ne (by decide), h17]) (by rw [xu2_eq, upd_at, hb]) (by omega) (by omega)
  have main : ∀ f b m4 v2, b + f = 24 → b ≤ min len 24 → RM m4 123 122 len 24 b (-1) g → AgM [] [17, 20, 22, 23, 24, 25] m1 m4 → m4 108 17 = nI 0 → scn g R f b = e → P 35 [.ref 108, .int (nI p), v2] [] (0, 0) (LAY, RFu 123, m4) := by
    intro f
    induction f with
    | zero =>
      intro b m4 v2 hb hbl rmh a4 h17 hs
      obtain ⟨-, -, -, -, r22, r23, r24, -, r25, -, -⟩ := id rmh
      refine b174_35 hP (c169 (Bk.i (b174_39 hP (fun z => absurd z (by rw [b01_t r25]; decide)) (fun _ => b174_42 hP (fun _ => stop b m4 _ rmh a4 h17 hs hbl) (fun _ => b174_53 hP (fun _ => stop b m4 _ rmh a4 h17 hs hbl) (fun z => absurd ?_ z))))))
      rw [r23, r24]; exact nI_le (by omega) (by omega)
    | succ f ih =>
      intro b m4 v2 hb hbl rmh a4 h17 hs
      obtain ⟨-, -, -, -, r22, r23, r24, -, r25, -, -⟩ := id rmh
      have es : scn g R (f + 1) b = if okP R (g b) = true then scn g R f (b + 1) else b := rfl
      rw [hs] at es
      have hgb := RM_le rmh b
      refine b174_35 hP (c169 (Bk.i (b174_39 hP (fun z => absurd z (by rw [b01_t r25]; decide)) (fun _ => b174_42 hP (fun z => ?_) (fun z => b174_53 hP (fun z2 => absurd z2 ?_) (fun _ => b174_64 hP (c168 rmh (Bk.i ?_))))))))
      · rw [r22, r24, nI_leI (by omega) (by omega)] at z
        have hno : ¬ okP R (g b) = true := fun q => by have := okP_lt hR4 q; rw [hgl b (by omega)] at this; omega
        rw [if_neg hno] at es
        exact stop b m4 _ rmh a4 h17 es.symm hbl
      · rw [r23, r24]; exact nI_ge (by omega) (by decide)
      · rw [r22, r24, nI_leI (by omega) (by omega)] at z
        have yes : okP R (g b) = true → P 105 [.ref 108, .int (nI p), v2] [] (0, 0) (LAY, RFu 123, m4) := fun ok => by
          rw [if_pos ok] at es
          refine b174_105 hP ?_
          rw [r24, nIs]
          exact ih (b + 1) _ _ (by omega) (by omega) (RM_mv (W := []) (V := [24]) rmh (AgM.rfl'.us (by simp)) (by simp) (by simp) (by simp) (by rw [xu2_eq, upd_at]) (by omega) (by rw [xu2_eq, upd_ne (by decide), r25])) (a4.us (by simp)) (by rw [xu2_eq, upd_ne (by decide), h17]) es.symm
        refine b174_68 hP (fun y => yes (decide_eq_true (Or.inl ((hr_eq (by decide)).mp y)))) (fun y => b174_73 hP (c168 rmh (Bk.i (b174_77 hP (c158 (Bk.i (b174_91 hP (fun y2 => yes ?_) (fun y2 => b174_94 hP (c170 (Bk.v (b174_102 hP ?_)))))))))))
        all_goals rw [a4.2 0 (by decide), hR] at y2
        all_goals have hd : ∀ x < 257, ∀ R < 5, (nI 48 ≤ hr x ∧ hr x ≤ nI 48 + nI R - nI 1) ↔ (48 ≤ x ∧ x < 48 + R) := by decide +kernel
        all_goals have hd := hd (g b) (by omega) R (by omega)
        · exact decide_eq_true (Or.inr (hd.mp (Decidable.by_contra fun q => y2 (b01_f q))))
        · have hno : ¬ okP R (g b) = true := fun q => by
            rcases of_decide_eq_true q with w | w
            · exact y ((hr_eq (by decide)).mpr w)
            · exact b01_0.mp y2 (hd.mpr w)
          rw [if_neg hno] at es
          rw [if_pos r25, r24]
          have a5 : AgM [] [17, 20, 22, 23, 24, 25] m1 (xu2 m4 108 25 (nI b)) := a4.us (by simp)
          have h25 : xu2 m4 108 25 (nI b) 108 25 = nI b := by rw [xu2_eq, upd_at]
          have h17' : xu2 m4 108 25 (nI b) 108 17 = nI 0 := by rw [xu2_eq, upd_ne (by decide), h17]
          have h22 : xu2 m4 108 25 (nI b) 108 22 = nI len := by rw [xu2_eq, upd_ne (by decide), r22]
          have h24 : xu2 m4 108 25 (nI b) 108 24 = nI b := by rw [xu2_eq, upd_ne (by decide), r24]
          generalize xu2 m4 108 25 (nI b) = m5 at a5 h25 h17' h22 h24
          refine b174_35 hP (c169 (Bk.i (b174_39 hP (fun _ => b174_118 hP (fun y3 => absurd y3 ?_) (fun _ => b174_129 hP (c170 (Bk.v ?_)))) (fun y3 => absurd (b01_f (fun q => nI_nm (a := b) (by omega) (by rw [← h25]; exact q))) y3))))
          · rw [h22, h24]; exact nI_ge (by omega) (by omega)
          · rw [if_neg (fun q => nI_nm (a := b) (by omega) (by rw [← h25]; exact q))]
            exact fault m5 _ a5 h17' (by rw [h25, es]) (by omega) (by omega)
  exact main 24 0 m3 _ (by decide) (Nat.zero_le _) hM a2' f17 hE
theorem tk_plan (x : Int32) : Tk 101 174 [.int x] := by
  intro N R B r mem Q h hB K
  obtain ⟨p0, pch, ppe, ppl, psh, pr0, pr1⟩ := RTo_parts h.2.2.1
  obtain ⟨hR, hR4, hN, hN8, hR2, hN2⟩ := id p0
  obtain ⟨len, tx, hT, hT2⟩ := id h.1
  -- what holds behind it
  have rest : ∀ (m1 m2 : Nat → Nat → Int32) (W : List Nat), Ag W mem m1 → W = 1 :: [18, 10, 11, 12, 13, 14, 15, 16, 17] → AgM [112, 113] [17, 20, 22, 23, 24, 25] m1 m2 → m1 1 1 = nI 0 → m2 108 17 = nI 0 → RTpl m2 N R → RRc m2 N R B := fun m1 m2 W g1 hW g2 e1 e2 pl => by
    subst hW
    exact ⟨⟨0, tx, ⟨by rw [g2.1 1 (by decide) (by decide), e1], by omega, fun i hi => absurd hi (Nat.not_lt_zero i)⟩, ⟨e2, by omega, fun i hi => absurd hi (Nat.not_lt_zero i)⟩⟩, kRw h g1 g2 (by decide), RTo_of (p0.mv (dj_eqs g1 g2 (by decide))) (pch.mv (dj_eqs g1 g2 (by decide))) (ppe.mv (dj_eqs g1 g2 (by decide))) pl (psh.mv (dj_eqs g1 g2 (by decide))) (pr0.mv (by decide) (dj_eqs g1 g2 (by decide))) (pr1.mv (by decide) (dj_eqs g1 g2 (by decide))), kSt h g1 g2 (by decide), kUn h g1 g2 (by decide), kOl h g1 g2 (by decide), kKe h g1 g2 (by decide), kZe h g1 g2 (by decide)⟩
  refine c_in rfl rfl rfl fun P hP => b101_0 hP (c83 (Or.inl rfl) hN (by omega) (fun hno => Bk.i (b101_11 hP (fun _ => b101_47 hP (c73 (Bk.v (b101_54 hP (K _ _ ?_))))) (fun z => absurd rfl z))) (fun p hp ep => Bk.i (b101_11 hP (fun z => absurd z (by decide)) (fun _ => b101_14 hP ?_))))
  · intro Q2 k2
    have hT3 : TxM (xu2 mem 1 1 (nI 0)) len tx := by
      unfold TxM at hT2 ⊢
      rw [xu2_ne (by decide), xu2_ne (by decide)]
      exact hT2
    refine c_in rfl rfl rfl fun P hP => b174_0 hP ?_
    refine c167 (rc := 122) (ln := 80) rfl fun m2 a2 _ _ _ _ => Bk.v (b174_19 hP ?_)
    have g2 : AgM [] [17, 20, 22, 23, 24, 25] (xu2 mem 1 1 (nI 0)) (xu2 m2 108 17 (nI 0)) := ((th20.mono (by simp) (by simp)).trans (a2.mono (by simp) (by simp))).us (by simp)
    refine c162 (N := N) (by rw [g2.2 2 (by decide), xu2_ne (by decide), hN2]) (by omega) (fun _ => Bk.i (b174_29 hP (fun z => absurd rfl z) (fun _ => b174_32 hP (k2 _ _ (kEnd (N := N) (R := R) ?_ hB))))) (fun p hp ep => absurd ep (hno p hp))
    have g1 : Ag (1 :: [18, 10, 11, 12, 13, 14, 15, 16, 17]) mem (xu2 mem 1 1 (nI 0)) := Ag.rfl'.u2 (by simp)
    refine rest _ _ _ g1 rfl (g2.mono (by simp) (by simp)) (by rw [xu2_eq, upd_at]) (by rw [xu2_eq, upd_at]) ?_
    exact ppl.mv (dj_eqs (Ag.rfl'.u2 (by simp) : Ag [1] mem (xu2 mem 1 1 (nI 0))) g2 (by decide))
  · subst ep
    refine c87 (d := 295) hT hR hR4 (by omega) (fun hne m1 a1 e12 => Bk.i (b101_26 hP (fun _ => b101_39 hP (c80 (Bk.i (b101_46 hP (b101_47 hP (c73 (Bk.v (b101_54 hP ?_)))))))) (fun z => absurd rfl z))) (fun he m1 a1 e11 e18 e10 => Bk.i (b101_26 hP (fun z => absurd z (by decide)) (fun _ => b101_29 hP (b101_46 hP (b101_47 hP (c73 (Bk.v (b101_54 hP ?_))))))))
    · rw [e12]
      refine K _ _ ?_
      intro Q2 k2
      have b1 : Ag [1] mem (xu2 m1 1 1 (nI 0)) := a1.u2 (by simp)
      have hT3 : TxM (xu2 m1 1 1 (nI 0)) len tx := by
        unfold TxM at hT2 ⊢
        rw [b1 108 (by decide), b1 122 (by decide)]
        exact hT2
      refine m174 (d := 296) (R := R) (N := N) (len := len) (tx := tx) hT3 (by rw [b1 108 (by decide)]; exact hR2) hR4 (by rw [b1 108 (by decide)]; exact hN2) hN8 hp (fun _ r2 m2 g2 h17 => k2 _ _ (kEnd (N := N) (R := R) (rest _ _ _ (b1.mono (by simp)) rfl (g2.mono (by simp) (by simp)) (by rw [xu2_eq, upd_at]) h17 ?_) hB)) (fun he => absurd he hne)
      exact ppl.mv (dj_eqs b1 g2 (by decide))
    · rw [e11]
      refine K _ _ ?_
      intro Q2 k2
      have b1 : Ag [1, 18, 10 + p] mem (xu2 m1 1 1 (nI 0)) := a1.u2 (by simp)
      have hT3 : TxM (xu2 m1 1 1 (nI 0)) len tx := by
        unfold TxM at hT2 ⊢
        rw [b1 108 (by simp; omega), b1 122 (by simp; omega)]
        exact hT2
      have hl24 : len ≤ 24 := by
        have := (scn_ok (g := gT tx len 24) (R := R) (f := 24) (a := 0)).2.1
        omega
      refine m174 (d := 296) (R := R) (N := N) (len := len) (tx := tx) hT3 (by rw [b1 108 (by simp; omega)]; exact hR2) hR4 (by rw [b1 108 (by simp; omega)]; exact hN2) hN8 hp (fun hne => absurd he hne) (fun _ r2 m2 g2 h17 h113 h112 o112 => k2 _ _ (kEnd (N := N) (R := R) (rest _ _ _ (b1.mono ?_) rfl g2 (by rw [xu2_eq, upd_at]) h17 (fun q hq => ?_)) hB))
      · have : ∀ p < 8, ∀ c ∈ [1, 18, 10 + p], c ∈ 1 :: [18, 10, 11, 12, 13, 14, 15, 16, 17] := by decide
        exact this p (by omega)
      · have n112 : ∀ q < 8, 10 + q ∉ [112, 113] ∧ 10 + q ≠ 108 := by decide
        have eq10 : m2 (10 + q) = m1 (10 + q) := by rw [g2.1 _ (n112 q hq).1 (n112 q hq).2, xu2_ne (by omega)]
        have eq18 : m2 18 = upd (mem 18) p (nI len) := by rw [g2.1 18 (by decide) (by decide), xu2_ne (by decide), e18]
        have eq113 : m2 113 = upd (mem 113) p (nI len) := by rw [h113, b1 113 (by simp; omega)]
        by_cases w : q = p
        · subst w
          refine ⟨len, hl24, by rw [eq18, upd_at], fun z => absurd hp (by omega), fun _ => ⟨by rw [eq113, upd_at], fun k hk => ?_⟩⟩
          rw [eq10, e10 k hk, h112 k hk]
          refine ⟨rfl, pv_r ?_⟩
          have := (scn_ok (g := gT tx len 24) (R := R) (f := 24) (a := 0)).2.2 k (Nat.zero_le _) (by rw [he]; exact hk)
          rw [gT_at (by omega)] at this
          exact this
        · obtain ⟨L, l1, l2, l3, l4⟩ := ppl q hq
          refine ⟨L, l1, by rw [eq18, upd_ne w, l2], l3, fun z => ?_⟩
          obtain ⟨y1, y2⟩ := l4 z
          refine ⟨by rw [eq113, upd_ne w, y1], fun k hk => ?_⟩
          have e1 : m1 (10 + q) = mem (10 + q) := a1 _ (by simp; omega)
          rw [eq10, e1, o112 _ (by omega), b1 112 (by simp; omega)]
          exact y2 k hk
end K
