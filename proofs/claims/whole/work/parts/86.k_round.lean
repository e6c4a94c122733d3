/-! round -/
def TkB (Mc Mm : Nat) (As : List Value) : Prop := ∀ (N R B r : Nat) (mem : Nat → Nat → Int32) (Q : xQr), RRc mem N R B → B + 20000 < 60000000 → (∀ x m1, M2 Mm As (B + 20000) x r m1 → Q (some (.int x)) (LAY, RFu r, m1)) → xCall 300 Mc (.ref 0 :: As) (LAY, RFu r, mem) Q
/-- all plans as long as divide n -/
def dvA (N : Nat) (L : Nat → Nat) (n : Nat) : Prop := ∀ p, p < N → L p = 0 ∨ n % L p = 0
theorem mod_add' {L x y : Nat} (h1 : x % L = 0) (h2 : y % L = 0) : (x + y) % L = 0 := by rw [Nat.add_mod, h1, h2]; exact Nat.zero_mod L
theorem mod_sub' {L x y : Nat} (h1 : (x + y) % L = 0) (h2 : y % L = 0) : x % L = 0 := by
  obtain ⟨a, ha⟩ := Nat.dvd_of_mod_eq_zero h2
  obtain ⟨b, hb⟩ := Nat.dvd_of_mod_eq_zero h1
  have : L ∣ (x + y) - y := Nat.dvd_sub ⟨b, hb⟩ ⟨a, ha⟩
  rw [Nat.add_sub_cancel] at this
  exact Nat.mod_eq_zero_of_dvd this
theorem mod_mul' {L c : Nat} (h : c % L = 0) (k : Nat) : (k * c) % L = 0 := by rw [Nat.mul_mod, h, Nat.mul_zero]; exact Nat.zero_mod L
theorem mod_same {L y n : Nat} : y % L = (y + n) % L ↔ n % L = 0 := by
  constructor
  · intro h
    have := Nat.sub_mod_eq_zero_of_mod_eq h.symm
    rwa [Nat.add_sub_cancel_left] at this
  · intro h
    rw [Nat.add_mod, h, Nat.add_zero, Nat.mod_mod]
theorem dvA_sub {N : Nat} {L : Nat → Nat} {x y : Nat} (h1 : dvA N L (x + y)) (h2 : dvA N L y) : dvA N L x := fun p hp => by
  rcases h1 p hp with q | q
  · exact Or.inl q
  · rcases h2 p hp with w | w
    · exact Or.inl w
    · exact Or.inr (mod_sub' q w)
theorem dvA_mul {N : Nat} {L : Nat → Nat} {c : Nat} (h : dvA N L c) (k : Nat) : dvA N L (k * c) := fun p hp => (h p hp).elim Or.inl fun q => Or.inr (mod_mul' q k)
/-- the least of them divides them all -/
theorem dvA_least {N : Nat} {L : Nat → Nat} {c n : Nat} (hc : 0 < c) (h : dvA N L c) (hl : ∀ m, 0 < m → m < c → ¬ dvA N L m) (hn : dvA N L n) : ∃ k, n = k * c := by
  have e : n = n % c + n / c * c := by rw [Nat.mul_comm]; exact (Nat.mod_add_div n c).symm
  have hr : dvA N L (n % c) := dvA_sub (y := n / c * c) (by rw [← e]; exact hn) (dvA_mul h _)
  have : n % c = 0 := Nat.eq_zero_of_not_pos fun q => hl _ q (Nat.mod_lt _ hc) hr
  exact ⟨n / c, by rw [this, Nat.zero_add] at e; exact e⟩
/-- how one is, in what matters -/
def hcode (c : Nat → Int32) (p : Nat) : Int32 := (c (16 + p) + c (24 + p)) * nI 32 + ((c (0 + p) + nI 1) * nI 4 + c (8 + p))
def plC (u : Nat) : Int32 := if u = 0 then -1 else nI (u - 1)
theorem plC_inj {u v : Nat} (hu : u ≤ 4) (hv : v ≤ 4) (h : plC u = plC v) : u = v := by
  unfold plC at h
  by_cases a : u = 0
  · by_cases b : v = 0
    · omega
    · rw [if_pos a, if_neg b] at h
      exact absurd h.symm (nI_nm (by omega))
  · by_cases b : v = 0
    · rw [if_neg a, if_pos b] at h
      exact absurd h (nI_nm (by omega))
    · rw [if_neg a, if_neg b] at h
      have := nI_inj h (by omega) (by omega)
      omega
/-- one as numbers -/
theorem one_of {N R B : Nat} {c : Nat → Int32} (h : SV N R B c) (hR : R ≤ 4) {p : Nat} (hp : p < N) : ∃ u v s t, u ≤ 4 ∧ v ≤ 2 ∧ (u = 0 ↔ v = 0) ∧ s ≤ B ∧ t ≤ B ∧ (v ≠ 2 → s = 0) ∧ (v ≠ 1 → t = 0) ∧ c p = plC u ∧ c (8 + p) = nI v ∧ c (16 + p) = nI s ∧ c (24 + p) = nI t := by
  obtain ⟨h1, h2, h3, h4, h5, h6, h7, h8, h9⟩ := h
  obtain ⟨s, t, hs, ht, e1, e2, z1, z2⟩ := h8 p hp
  have fin : ∀ u v, u ≤ 4 → v ≤ 2 → (u = 0 ↔ v = 0) → c p = plC u → c (8 + p) = nI v → ∃ u v s t, u ≤ 4 ∧ v ≤ 2 ∧ (u = 0 ↔ v = 0) ∧ s ≤ B ∧ t ≤ B ∧ (v ≠ 2 → s = 0) ∧ (v ≠ 1 → t = 0) ∧ c p = plC u ∧ c (8 + p) = nI v ∧ c (16 + p) = nI s ∧ c (24 + p) = nI t := fun u v hu hv huv e3 e4 => by
    refine ⟨u, v, s, t, hu, hv, huv, hs, ht, fun q => z1 fun w => q ?_, fun q => z2 fun w => q ?_, e3, e4, e1, e2⟩
    · rw [e4] at w; exact nI_inj (b := 2) w (by omega) (by decide)
    · rw [e4] at w; exact nI_inj (b := 1) w (by omega) (by decide)
  rcases h1 p hp with ⟨q1, q2⟩ | ⟨q1, q2⟩
  · exact fin 0 0 (by decide) (by decide) Iff.rfl q1 q2
  · obtain ⟨rm, r1, r2⟩ := h3 p hp q1
    have e3 : c p = plC (rm + 1) := by rw [r2]; exact (if_neg (by omega)).symm
    rcases q2 with q2 | q2
    · exact fin (rm + 1) 1 (by omega) (by decide) (by omega) e3 q2
    · exact fin (rm + 1) 2 (by omega) (by decide) (by omega) e3 q2
theorem hcode_eq {c : Nat → Int32} {p u v s t : Nat} (e1 : c p = plC u) (e2 : c (8 + p) = nI v) (e3 : c (16 + p) = nI s) (e4 : c (24 + p) = nI t) : hcode c p = nI ((s + t) * 32 + (u * 4 + v)) := by
  have e0 : c (0 + p) + nI 1 = nI u := by
    rw [Nat.zero_add, e1]
    unfold plC
    by_cases q : u = 0
    · rw [if_pos q, q]; decide
    · rw [if_neg q, nIs, Nat.sub_add_cancel (by omega)]
  unfold hcode
  rw [e0, e2, e3, e4, nI_add, nI_mul, nI_mul, nI_add, nI_add]
theorem hcode_iff {N R B R' B' : Nat} {c c' : Nat → Int32} (h : SV N R B c) (h' : SV N R' B' c') (hR : R ≤ 4) (hR' : R' ≤ 4) (hB : B < 67000000) (hB' : B' < 67000000) {p : Nat} (hp : p < N) : hcode c p = hcode c' p ↔ ∀ t, t < 4 → vw c t p = vw c' t p := by
  obtain ⟨u, v, s, t, a1, a2, a3, a4, a5, a6, a7, e1, e2, e3, e4⟩ := one_of h hR hp
  obtain ⟨u', v', s', t', b1, b2, b3, b4, b5, b6, b7, f1, f2, f3, f4⟩ := one_of h' hR' hp
  have st : s + t ≤ B := by
    by_cases q : v = 2
    · rw [a7 (by omega)]; omega
    · rw [a6 q]; omega
  have st' : s' + t' ≤ B' := by
    by_cases q : v' = 2
    · rw [b7 (by omega)]; omega
    · rw [b6 q]; omega
  rw [hcode_eq e1 e2 e3 e4, hcode_eq f1 f2 f3 f4]
  have w : ∀ c : Nat → Int32, ∀ u v s t : Nat, c p = plC u → c (8 + p) = nI v → c (16 + p) = nI s → c (24 + p) = nI t → vw c 0 p = plC u ∧ vw c 1 p = b01 (nI v = 2) ∧ vw c 2 p = nI s ∧ vw c 3 p = nI t := fun c u v s t g1 g2 g3 g4 => ⟨g1, by show b01 (c (8 + p) = 2) = _; rw [g2], g3, g4⟩
  obtain ⟨w0, w1, w2, w3⟩ := w c u v s t e1 e2 e3 e4
  obtain ⟨x0, x1, x2, x3⟩ := w c' u' v' s' t' f1 f2 f3 f4
  constructor
  · intro q
    have q := nI_inj q (by omega) (by omega)
    have hv : v = v' := by omega
    have hu : u = u' := by omega
    have hst : s + t = s' + t' := by omega
    have hs : s = s' := by
      by_cases q2 : v = 2
      · have := a7 (by omega); have := b7 (by omega); omega
      · have := a6 q2; have := b6 (by omega); omega
    have ht : t = t' := by omega
    intro i hi
    match i, hi with
    | 0, _ => rw [w0, x0, hu]
    | 1, _ => rw [w1, x1, hv]
    | 2, _ => rw [w2, x2, hs]
    | 3, _ => rw [w3, x3, ht]
    | i + 4, hi => omega
  · intro q
    have q0 := q 0 (by decide)
    have q1 := q 1 (by decide)
    have q2 := q 2 (by decide)
    have q3 := q 3 (by decide)
    rw [w0, x0] at q0
    rw [w1, x1] at q1
    rw [w2, x2] at q2
    rw [w3, x3] at q3
    have hu := plC_inj a1 b1 q0
    have hs := nI_inj q2 (by omega) (by omega)
    have ht := nI_inj q3 (by omega) (by omega)
    have hv : v = v' := by
      have k : ∀ v ≤ 2, ∀ v' ≤ 2, (v = 0 ↔ v' = 0) → b01 (nI v = 2) = b01 (nI v' = 2) → v = v' := by decide
      exact k v a2 v' b2 (by omega) q1
    rw [hu, hv, hs, ht]
/-- a and q alike -/
def alk (N : Nat) (F : Nat → Nat → Int32) (a q : Nat) : Prop := ∀ p, p < N → hcode (F a) p = hcode (F q) p
def isR (N : Nat) (L : Nat → Nat) (F : Nat → Nat → Int32) (a q : Nat) : Prop := alk N F a q ∧ dvA N L (q - a)
def hitR (N : Nat) (L : Nat → Nat) (F : Nat → Nat → Int32) (q : Nat) : Prop := ∃ a, a < q ∧ isR N L F a q
theorem isR_one {N : Nat} {L : Nat → Nat} {F : Nat → Nat → Int32} {q : Nat} (hq : ∀ q', q' < q → ¬ hitR N L F q') {a b : Nat} (ha : a < q) (hb : b < q) (h1 : isR N L F a q) (h2 : isR N L F b q) : a = b := by
  have k : ∀ a b, a < b → b < q → isR N L F a q → isR N L F b q → False := fun a b hab hb h1 h2 => hq b hb ⟨a, hab, fun p hp => (h1.1 p hp).trans (h2.1 p hp).symm, dvA_sub (y := q - b) (by rw [show b - a + (q - b) = q - a by omega]; exact h1.2) h2.2⟩
  by_cases e : a = b
  · exact e
  · by_cases q : a < b
    · exact (k a b q hb h1 h2).elim
    · exact (k b a (by omega) ha h2 h1).elim
section K
variable {N R B r d n T : Nat} {mem m' m0 m1 m2 m3 m4 m5 : Nat → Nat → Int32} {Q : xQr} {g : xCf} {D : xD}
theorem c96 {L : Nat → Nat} {n : Nat} (hN : mem 5 1 = nI N) (hN8 : N ≤ 8) (hL : ∀ p, p < N → mem 18 p = nI (L p) ∧ L p ≤ 24) (hn : n < 2147483648)
    (k0 : ¬ dvA N L n → Q (some (.int (nI 0))) (LAY, RFu r, mem)) (k1 : dvA N L n → Q (some (.int (nI 1))) (LAY, RFu r, mem)) : xCall (d + 1) 96 [.ref 5, .int (nI n)] (LAY, RFu r, mem) Q := by
  refine c_in rfl rfl rfl fun P hP => b96_0 hP (Or.inl rfl) ?_
  have key := xloop (N := N) (G := fun j => (∀ p, p < j → L p = 0 ∨ n % L p = 0) → P 2 [.ref 5, .int (nI n), .int (nI j)] [] (0, 0) (LAY, RFu r, mem)) ?_ ?_
  · exact key (fun p hp => absurd hp (Nat.not_lt_zero p))
  · intro h
    exact b96_2 hP (Or.inl rfl) (fun _ => b96_38 hP (Or.inl rfl) (Or.inr rfl) (k1 h)) (fun z => absurd (by rw [hN]; exact Int32.le_refl _) z)
  · intro j hj ih h
    obtain ⟨e, hl⟩ := hL j hj
    have vj : vp_in (nI j) 8 := vpn (by omega) (by decide)
    have cj : (nI j).toNatClampNeg = j := nIc (by omega)
    have nx : (L j = 0 ∨ n % L j = 0) → P 32 [.ref 5, .int (nI n), .int (nI j)] [] (0, 0) (LAY, RFu r, mem) := fun q => by
      refine b96_32 hP (Or.inl rfl) ?_
      rw [nIs]
      refine ih fun p hp => ?_
      by_cases w : p = j
      · rw [w]; exact q
      · exact h p (by omega)
    refine b96_2 hP (Or.inl rfl) (fun z => absurd z (by rw [hN]; exact nI_ge hj (by omega))) (fun _ => b96_10 hP (Or.inl rfl) vj (fun z => nx (Or.inl ?_)) (fun z => ?_))
    · rw [cj, show mem (5 + 13) j = nI (L j) from e] at z
      exact Decidable.by_contra fun q => nI_nle (by omega) (by omega) z
    · rw [cj, show mem (5 + 13) j = nI (L j) from e] at z
      have hl0 : 0 < L j := Nat.pos_of_ne_zero fun q => z (by rw [q]; decide)
      have ee : nI n - nI n / nI (L j) * nI (L j) = nI (n % L j) := nI_rem hn (by omega) hl0
      have hml : n % L j < L j := Nat.mod_lt _ hl0
      refine b96_19 hP (Or.inl rfl) vj ?_ (fun w => nx (Or.inr ?_)) (fun w => b96_30 hP (Or.inl rfl) (Or.inl rfl) (k0 fun q => w ?_))
      · rw [cj, show mem (5 + 13) j = nI (L j) from e]; exact nI_ne0 (by omega) (by omega)
      · rw [cj, show mem (5 + 13) j = nI (L j) from e, ee] at w
        exact nI_inj (b := 0) w (by omega) (by decide)
      · rw [cj, show mem (5 + 13) j = nI (L j) from e, ee]
        rcases q j hj with q | q
        · omega
        · rw [q]; rfl
theorem c95 {L : Nat → Nat} (hN : mem 5 1 = nI N) (hN8 : N ≤ 8) (hL : ∀ p, p < N → mem 18 p = nI (L p) ∧ L p ≤ 24)
    (k0 : (∀ n, 0 < n → n ≤ 500 → ¬ dvA N L n) → Q (some (.int (-1))) (LAY, RFu r, mem)) (k1 : ∀ c, 0 < c → c ≤ 500 → dvA N L c → (∀ n, 0 < n → n < c → ¬ dvA N L n) → Q (some (.int (nI c))) (LAY, RFu r, mem)) : xCall (d + 2) 95 [.ref 5] (LAY, RFu r, mem) Q := by
  refine c_in rfl rfl rfl fun P hP => b95_0 hP (Or.inl rfl) ?_
  have key := xloop (N := 500) (G := fun j => (∀ n, 0 < n → n ≤ j → ¬ dvA N L n) → P 2 [.ref 5, .int (nI (j + 1))] [] (0, 0) (LAY, RFu r, mem)) ?_ ?_
  · exact key (fun n h1 h2 => by omega)
  · intro h
    exact b95_2 hP (Or.inl rfl) (fun _ => b95_25 hP (Or.inl rfl) (k0 h)) (fun z => absurd (by decide) z)
  · intro j hj ih h
    refine b95_2 hP (Or.inl rfl) (fun z => absurd z (nI_nlt (by omega) (by omega))) (fun _ => b95_9 hP (Or.inl rfl) (c96 hN hN8 hL (by omega) (fun q => Bk.i (b95_14 hP (Or.inl rfl) (fun _ => b95_19 hP (Or.inl rfl) ?_) (fun z => absurd rfl z))) (fun q => Bk.i (b95_14 hP (Or.inl rfl) (fun z => absurd z (by decide)) (fun _ => b95_17 hP (Or.inl rfl) (k1 (j + 1) (by omega) (by omega) q fun n h1 h2 => h n h1 (by omega)))))))
    rw [nIs]
    refine ih fun n h1 h2 => ?_
    by_cases w : n = j + 1
    · rw [w]; exact q
    · exact h n h1 (by omega)
/-- j quarters ahead, with what was on the way -/
def FH (mem : Nat → Nat → Int32) (j : Nat) (m' : Nat → Nat → Int32) : Prop := Ag (107 :: fuW) mem m' ∧ m' 50 = qtrs (gD mem) (mem 48) j
def HI (mem : Nat → Nat → Int32) (N q : Nat) (m' : Nat → Nat → Int32) : Prop := ∀ j, j < q → ∀ p, p < N → m' 107 (8 * j + p) = hcode (qtrs (gD mem) (mem 48) j) p
theorem c8h {j : Nat} (h : RRc mem N R B) (hB : B < 500000000) (hj : j < 1000) (f : FH mem j m') (k : ∀ m2 y, FH mem (j + 1) m2 → m2 107 = m' 107 → Q (some (.int y)) (LAY, RFu r, m2)) : xCall (d + 5) 8 [.ref 51, .ref 5, .ref 49] (LAY, RFu r, m') Q := by
  obtain ⟨e1, e2, q1, q2, -⟩ := RRc_g h
  obtain ⟨f1, f2⟩ := f
  obtain ⟨now, n1, n2⟩ := h.2.2.2.1.2.now
  have hN : fN (gD mem) ≤ 8 := by rw [e1]; exact h.2.2.2.1.2.2.1
  have hO : OKc (fN (gD mem)) (mem 48) := by rw [e1]; exact h.2.2.2.1.2.ok
  have ht : ∀ k, k ∈ tCells → m' (5 + k) = mem (5 + k) := fun k hk => f1 _ (by
    have : ∀ k ∈ tCells, 5 + k ∉ 107 :: fuW := by decide
    exact this k hk)
  refine c8g (s := 49) (g := gD mem) (now := now + j) (Or.inl rfl) (Or.inr (Or.inl rfl)) (TC_eq ht q1) (by rw [cf_eq ht]; exact q2) (by rw [f2]; exact OKc_qtrs hN hO j) (by rw [f2]; exact qtrs_120 hN n2 j) (by omega) fun m2 a e _ => k m2 _ ⟨f1.trans (a.mono (by decide)), ?_⟩ (a 107 (by decide))
  rw [show (50 : Nat) = 49 + 1 from rfl, e, f2]
  rfl
theorem c145 {q : Nat} (hN : mem 5 1 = nI N) (hN8 : N ≤ 8) (hq : q ≤ 500) (f : FH mem q m') (hi : HI mem N q m') (k : ∀ m2, FH mem q m2 → HI mem N (q + 1) m2 → Q none (LAY, RFu r, m2)) : xCall (d + 2) 145 [.ref 0, .int (nI q)] (LAY, RFu r, m') Q := by
  refine c_in rfl rfl rfl fun P hP => b145_0 hP ?_
  have key := xloop (N := N) (G := fun j => ∀ m2 v3 v4, FH mem q m2 → HI mem N q m2 → (∀ p, p < j → m2 107 (8 * q + p) = hcode (qtrs (gD mem) (mem 48) q) p) → P 2 [.ref 0, .int (nI q), .int (nI j), v3, v4] [] (0, 0) (LAY, RFu r, m2)) ?_ ?_
  · exact key m' _ _ f hi (fun p hp => absurd hp (Nat.not_lt_zero p))
  · intro m2 v3 v4 f2 h2 s2
    refine b145_2 hP (fun _ => b145_89 hP (k m2 f2 fun j hj p hp => ?_)) (fun z => absurd (by rw [f2.1 5 (by decide), hN]; exact Int32.le_refl _) z)
    by_cases w : j = q
    · rw [w]; exact s2 p hp
    · exact h2 j (by omega) p hp
  · intro j hj ih m2 v3 v4 f2 h2 s2
    refine b145_2 hP (fun z => absurd z (by rw [f2.1 5 (by decide), hN]; exact nI_ge hj (by omega))) (fun _ => b145_13 hP (vpx (by omega) (by decide)) (vpx (by omega) (by decide)) (vpx (by omega) (by decide)) (c61 (Or.inr (Or.inl rfl)) (by omega) (Bk.i (b145_62 hP ?_ ?_))))
    · rw [nI_mul, nI_add]; exact vpn (by omega) (by decide)
    · have ix : nI q * nI 8 + nI j = nI (8 * q + j) := by rw [nI_mul, nI_add]; congr 1; omega
      rw [ix, nIc (by omega), nIx (by omega), nIx (by omega), nIx (by omega), nIs]
      have e : (m2 50 (16 + j) + m2 50 (24 + j)) * nI 32 + ((m2 50 (0 + j) + nI 1) * nI 4 + m2 (49 + 1) (8 + j)) = hcode (qtrs (gD mem) (mem 48) q) j := by
        rw [show m2 (49 + 1) = m2 50 from rfl, f2.2]; rfl
      rw [e]
      refine ih _ _ _ ⟨f2.1.u2 (by simp), by rw [xu2_ne (by decide)]; exact f2.2⟩ (fun i hi' p hp => ?_) (fun p hp => ?_)
      · rw [xu2_eq, upd_ne (by omega)]; exact h2 i hi' p hp
      · rw [xu2_eq]
        by_cases w : p = j
        · rw [w, upd_at]
        · rw [upd_ne (by omega)]; exact s2 p (by omega)
theorem c146 {a q : Nat} (hN : mem 5 1 = nI N) (hN8 : N ≤ 8) (ha : a ≤ 500) (hq : q ≤ 500) (f : FH mem T m') (hi : HI mem N n m') (h1 : a < n) (h2 : q < n)
    (k0 : ¬ alk N (qtrs (gD mem) (mem 48)) a q → Q (some (.int (nI 0))) (LAY, RFu r, m')) (k1 : alk N (qtrs (gD mem) (mem 48)) a q → Q (some (.int (nI 1))) (LAY, RFu r, m')) : xCall (d + 1) 146 [.ref 0, .int (nI q), .int (nI a)] (LAY, RFu r, m') Q := by
  refine c_in rfl rfl rfl fun P hP => b146_0 hP ?_
  have key := xloop (N := N) (G := fun j => (∀ p, p < j → hcode (qtrs (gD mem) (mem 48) a) p = hcode (qtrs (gD mem) (mem 48) q) p) → P 2 [.ref 0, .int (nI q), .int (nI a), .int (nI j)] [] (0, 0) (LAY, RFu r, m')) ?_ ?_
  · exact key (fun p hp => absurd hp (Nat.not_lt_zero p))
  · intro s
    exact b146_2 hP (fun _ => b146_46 hP (Or.inr rfl) (k1 s)) (fun z => absurd (by rw [f.1 5 (by decide), hN]; exact Int32.le_refl _) z)
  · intro j hj ih s
    have e1 := hi a h1 j hj
    have e2 := hi q h2 j hj
    have i1 : nI a * nI 8 + nI j = nI (8 * a + j) := by rw [nI_mul, nI_add]; congr 1; omega
    have i2 : nI q * nI 8 + nI j = nI (8 * q + j) := by rw [nI_mul, nI_add]; congr 1; omega
    refine b146_2 hP (fun z => absurd z (by rw [f.1 5 (by decide), hN]; exact nI_ge hj (by omega))) (fun _ => b146_13 hP (by rw [i2]; exact vpn (by omega) (by decide)) (by rw [i1]; exact vpn (by omega) (by decide)) (fun z => b146_40 hP ?_) (fun z => b146_38 hP (Or.inl rfl) (k0 fun w => z ?_)))
    · rw [i1, i2, nIc (by omega), nIc (by omega), e1, e2] at z
      rw [nIs]
      refine ih fun p hp => ?_
      by_cases w : p = j
      · rw [w]; exact z.symm
      · exact s p (by omega)
    · rw [i1, i2, nIc (by omega), nIc (by omega), e1, e2]
      exact (w j hj).symm
/-- the reference: quarters on the way laid aside -/
def MH (m1 : Nat → Nat → Int32) (g : xCf) (c : Nat → Int32) (j : Nat) (m' : Nat → Nat → Int32) : Prop := AgM (140 :: 133 :: mqW) mqV m1 m' ∧ LV (m' 133) 0 (fN g) c ∧ MV m' (fN g) (qtrs g c j) ∧ ∀ i, i ≤ j → LV (m' 140) (121 * i) (fN g) (qtrs g c i)
theorem m231 {c : Nat → Int32} {L : Nat → Nat} {a q now : Nat} (b : MB m1 g c) (i : MH m1 g c q m') (haq : a < q) (hq : q ≤ 500) (hL : ∀ p, p < fN g → m1 113 p = nI (L p) ∧ L p ≤ 24) (hR : fR g ≤ 4) (hS : ∀ j, j ≤ q → ∃ B', B' < 67000000 ∧ SV (fN g) (fR g) B' (qtrs g c j)) (hnow : c 120 = nI now) (hnB : now < 500000000)
    (k0 : ¬ isR (fN g) L (qtrs g c) a q → Q (some (.int (nI 0))) (LAY, RFu r, m')) (k1 : isR (fN g) L (qtrs g c) a q → Q (some (.int (nI 1))) (LAY, RFu r, m')) : xCall (d + 1) 231 [.ref 108, .int (nI a), .int (nI q)] (LAY, RFu r, m') Q := by
  have hN8 := b.1.2.2.2.1
  have hN2 : m' 108 2 = nI (fN g) := by rw [i.1.2 2 (by decide)]; exact b.1.2.2.1
  obtain ⟨i1, i2, i3, i4⟩ := i
  have la := i4 a (by omega)
  have lq := i4 q (Nat.le_refl _)
  obtain ⟨Ba, hBa, hSa⟩ := hS a (by omega)
  obtain ⟨Bq, hBq, hSq⟩ := hS q (Nat.le_refl _)
  have hcd := fun p (hp : p < fN g) => hcode_iff hSa hSq hR hR hBa hBq hp
  refine c_in rfl rfl rfl fun P hP => b231_0 hP ?_
  have key := xloop (N := fN g) (G := fun j => ∀ v4, (∀ p, p < j → ∀ t, t < 4 → vw (qtrs g c a) t p = vw (qtrs g c q) t p) → P 2 [.ref 108, .int (nI a), .int (nI q), .int (nI j), v4] [] (0, 0) (LAY, RFu r, m')) ?_ ?_
  · exact key _ (fun p hp => absurd hp (Nat.not_lt_zero p))
  · intro v4 s
    have hal : alk (fN g) (qtrs g c) a q := fun p hp => (hcd p hp).mpr (s p hp)
    refine b231_2 hP (fun _ => b231_70 hP ?_) (fun z => absurd (by rw [hN2]; exact Int32.le_refl _) z)
    have key2 := xloop (N := fN g) (G := fun j => (∀ p, p < j → L p = 0 ∨ (q - a) % L p = 0) → P 72 [.ref 108, .int (nI a), .int (nI q), .int (nI j), v4] [] (0, 0) (LAY, RFu r, m')) ?_ ?_
    · exact key2 (fun p hp => absurd hp (Nat.not_lt_zero p))
    · intro w
      exact b231_72 hP (fun _ => b231_138 hP (Or.inr rfl) (k1 ⟨hal, w⟩)) (fun z => absurd (by rw [hN2]; exact Int32.le_refl _) z)
    · intro j hj ih w
      have vj : vp_in (nI j) 8 := vpn (by omega) (by decide)
      have cj : (nI j).toNatClampNeg = j := nIc (by omega)
      have e113 : m' 113 j = nI (L j) := by rw [i1.1 113 (by decide) (by decide)]; exact (hL j hj).1
      have hl24 := (hL j hj).2
      have nx : (L j = 0 ∨ (q - a) % L j = 0) → P 132 [.ref 108, .int (nI a), .int (nI q), .int (nI j), v4] [] (0, 0) (LAY, RFu r, m') := fun y => by
        refine b231_132 hP ?_
        rw [nIs]
        refine ih fun p hp => ?_
        by_cases e : p = j
        · rw [e]; exact y
        · exact w p (by omega)
      refine b231_72 hP (fun z => absurd z (by rw [hN2]; exact nI_ge hj (by omega))) (fun _ => b231_80 hP vj (fun z => nx (Or.inl ?_)) (fun z => ?_))
      · rw [cj, e113] at z
        exact Decidable.by_contra fun y => nI_nle (by omega) (by omega) z
      · rw [cj, e113] at z
        have hl0 : 0 < L j := Nat.pos_of_ne_zero fun y => z (by rw [y]; decide)
        have ia : nI 121 * nI a + nI 56 = nI (121 * a + 56) := by rw [nI_mul, nI_add]
        have iq : nI 121 * nI q + nI 56 = nI (121 * q + 56) := by rw [nI_mul, nI_add]
        have ta : m' 140 (121 * a + 56) = nI (now + a) := by rw [la.2.1]; exact qtrs_120 hN8 hnow a
        have tq : m' 140 (121 * q + 56) = nI (now + q) := by rw [lq.2.1]; exact qtrs_120 hN8 hnow q
        have ma : (now + a) % L j < L j := Nat.mod_lt _ hl0
        have mq : (now + q) % L j < L j := Nat.mod_lt _ hl0
        have eq : (now + a) % L j = (now + q) % L j ↔ (q - a) % L j = 0 := by
          have := mod_same (L := L j) (y := now + a) (n := q - a)
          rw [show now + a + (q - a) = now + q by omega] at this
          exact this
        have hz : ¬ m' 113 (nI j).toNatClampNeg = 0 := by rw [cj, e113]; exact nI_ne0 (by omega) (by omega)
        refine b231_89 hP (by rw [ia]; exact vpn (by omega) (by decide)) vj hz (by rw [iq]; exact vpn (by omega) (by decide)) vj hz (fun y => nx (Or.inr ?_)) (fun y => b231_130 hP (Or.inl rfl) (k0 fun ⟨_, w2⟩ => y ?_))
        · rw [ia, iq, cj, nIc (by omega), nIc (by omega), e113, ta, tq, nI_rem (by omega) (by omega) hl0, nI_rem (by omega) (by omega) hl0] at y
          exact eq.mp (nI_inj y (by omega) (by omega))
        · rw [ia, iq, cj, nIc (by omega), nIc (by omega), e113, ta, tq, nI_rem (by omega) (by omega) hl0, nI_rem (by omega) (by omega) hl0]
          rcases w2 j hj with x | x
          · omega
          · rw [eq.mpr x]
  · intro j hj ih v4 s
    refine b231_2 hP (fun z => absurd z (by rw [hN2]; exact nI_ge hj (by omega))) (fun _ => b231_10 hP ?_)
    have key2 := xloop (N := 4) (G := fun t => (∀ i, i < t → vw (qtrs g c a) i j = vw (qtrs g c q) i j) → P 13 [.ref 108, .int (nI a), .int (nI q), .int (nI j), .int (nI t)] [] (0, 0) (LAY, RFu r, m')) ?_ ?_
    · exact key2 (fun p hp => absurd hp (Nat.not_lt_zero p))
    · intro w
      refine b231_13 hP (fun _ => b231_64 hP ?_) (fun z => absurd (Int32.le_refl _) z)
      rw [nIs]
      refine ih _ fun p hp => ?_
      by_cases e : p = j
      · rw [e]; exact w
      · exact s p (by omega)
    · intro t ht ih2 w
      have ia : nI 121 * nI a + nI 7 * nI j + nI t = nI (121 * a + 7 * j + t) := by rw [nI_mul, nI_mul, nI_add, nI_add]
      have iq : nI 121 * nI q + nI 7 * nI j + nI t = nI (121 * q + 7 * j + t) := by rw [nI_mul, nI_mul, nI_add, nI_add]
      have ta := la.1 t (by omega) j hj
      have tq := lq.1 t (by omega) j hj
      refine b231_13 hP (fun z => absurd z (nI_ge ht (by decide))) (fun _ => b231_19 hP (by rw [ia]; exact vpn (by omega) (by decide)) (by rw [iq]; exact vpn (by omega) (by decide)) (fun z => b231_58 hP ?_) (fun z => b231_56 hP (Or.inl rfl) (k0 fun ⟨w1, _⟩ => z ?_)))
      · rw [ia, iq, nIc (by omega), nIc (by omega), ta, tq] at z
        rw [nIs]
        refine ih2 fun x hx => ?_
        by_cases e : x = t
        · rw [e]; exact z
        · exact w x (by omega)
      · rw [ia, iq, nIc (by omega), nIc (by omega), ta, tq]
        exact (hcd j hj).mp (w1 j hj) t ht
theorem m190h {c : Nat → Int32} {j : Nat} (b : MB m1 g c) (i : MH m1 g c j m') (hj : j < 1000) (k : ∀ r2 m2 y, AgM (140 :: 133 :: mqW) mqV m1 m2 → LV (m2 133) 0 (fN g) c → MV m2 (fN g) (qtrs g c (j + 1)) → m2 140 = m' 140 → Q (some (.int y)) (LAY, RFu r2, m2)) : xCall (d + 73) 190 [.ref 108] (LAY, RFu r, m') Q := by
  obtain ⟨hC, hPV, hM, now, n1, n2⟩ := b
  obtain ⟨a, l, v, -⟩ := i
  have hN := hC.2.2.2.1
  refine c190 (now := now + j) (hC.ag a (by decide) (by decide)) (qtrs_PV hN hC.2.1 hPV j) v (qtrs_120 hN n2 j) (by omega) fun r2 m2 a2 v2 _ _ => k r2 m2 _ (a.trans (a2.mono (by decide) (by decide))) ?_ v2 (a2.1 140 (by decide) (by decide))
  rw [a2.1 133 (by decide) (by decide)]
  exact l
theorem m232 {c : Nat → Int32} {L : Nat → Nat} {now : Nat} {Q2 : xQr} (b : MB m1 g c) (hL : ∀ p, p < fN g → m1 113 p = nI (L p) ∧ L p ≤ 24) (hR : fR g ≤ 4) (hS : ∀ j, j ≤ 500 → ∃ B', B' < 67000000 ∧ SV (fN g) (fR g) B' (qtrs g c j)) (hnow : c 120 = nI now) (hnB : now < 500000000)
    (k0 : (∀ q, q ≤ 500 → ¬ hitR (fN g) L (qtrs g c) q) → ∀ r2 m2, AgM (140 :: 133 :: mqW) (20 :: mqV) m1 m2 → MV m2 (fN g) c → Q2 (some (.int (-2))) (LAY, RFu r2, m2))
    (k1 : ∀ q a, q ≤ 500 → a < q → isR (fN g) L (qtrs g c) a q → (∀ q', q' < q → ¬ hitR (fN g) L (qtrs g c) q') → ∀ r2 m2, AgM (123 :: 140 :: 133 :: mqW) (20 :: 19 :: mqV) m1 m2 → MV m2 (fN g) c → RwM m2 [nI a] → Q2 (some (.int (nI q))) (LAY, RFu r2, m2)) :
    xCall (d + 75) 232 [.ref 108] (LAY, RFu r, m1) Q2 := by
  have b' := MB20 (x := nI 0) b
  have hN8 := b.1.2.2.2.1
  have hN2 : xu2 m1 108 20 (nI 0) 108 2 = nI (fN g) := b'.1.2.2.1
  have hL' : ∀ p, p < fN g → xu2 m1 108 20 (nI 0) 113 p = nI (L p) ∧ L p ≤ 24 := fun p hp => by rw [xu2_ne (by decide)]; exact hL p hp
  refine c_in rfl rfl rfl fun P hP => b232_0 hP ?_
  have t20' : ∀ W V m2, AgM W V (xu2 m1 108 20 (nI 0)) m2 → AgM W (20 :: V) m1 m2 := fun W V m2 a => t20 a
  generalize hmb : xu2 m1 108 20 (nI 0) = mb at b' hN2 hL' t20'
  refine c191 (k := 0) (np := 121) (Or.inr (Or.inl rfl)) rfl (by decide) (by decide) hN8 b'.2.2.1 fun m2 a2 l2 _ => Bk.v (b232_14 hP ?_)
  refine c191 (k := 0) (np := 60621) (Or.inr (Or.inr (Or.inl rfl))) rfl (by decide) (by decide) hN8 (b'.2.2.1.ag a2 (by decide) (by simp)) fun m3 a3 l3 _ => Bk.v (b232_28 hP ?_)
  have i0 : MH mb g c 0 m3 := ⟨(a2.mono (by decide) (by simp)).trans (a3.mono (by decide) (by simp)), by rw [a3.1 133 (by decide) (by decide)]; exact l2, (b'.2.2.1.ag a2 (by decide) (by simp)).ag a3 (by decide) (by simp), fun i hi => by rw [show i = 0 by omega]; exact l3⟩
  have no101 : ∀ r' m' x2 v3 v4 j, MH mb g c j m' → (∀ q, q ≤ 500 → ¬ hitR (fN g) L (qtrs g c) q) → P 101 [.ref 108, .int (-2), .int x2, v3, v4] [] (0, 0) (LAY, RFu r', m') := fun r' m' x2 v3 v4 j i hno => by
    refine b232_101 hP (c192 (k := 0) (np := 121) (Or.inr (Or.inl rfl)) rfl (by decide) (by decide) hN8 (by rw [i.1.2 2 (by decide)]; exact hN2) i.2.1 fun m4 a4 v4' => Bk.v (b232_110 hP (fun z => absurd z (by decide)) (fun _ => b232_114 hP (k0 hno _ _ (t20' _ _ _ (i.1.trans (a4.mono (by decide) (by decide)))) v4'))))
  have key := xloop (N := 500) (G := fun j => ∀ r' m' x2 v4, MH mb g c j m' → (∀ q', q' ≤ j → ¬ hitR (fN g) L (qtrs g c) q') → P 30 [.ref 108, .int (-2), .int x2, .int (nI (j + 1)), v4] [] (0, 0) (LAY, RFu r', m')) ?_ ?_
  · exact key r m3 (nI 0) _ i0 (fun q' hq' ⟨a, ha, _⟩ => by omega)
  · intro r' m' x2 v4 i hno
    exact b232_30 hP (fun _ => no101 r' m' x2 _ _ 500 i hno) (fun z => absurd (by decide) z)
  · intro j hj ih r' m' x2 v4 i hno
    refine b232_30 hP (fun z => absurd z (nI_nlt (by omega) (by omega))) (fun _ => b232_37 hP (fun z => absurd z (by decide)) (fun _ => b232_41 hP (m190h (d := d + 1) b' i (by omega) fun r2 m4 y a4 l4 v4' e4 => Bk.i (b232_45 hP ?_))))
    rw [nI_mul]
    refine c191 (k := 121 * (j + 1)) (np := 60621) (Or.inr (Or.inr (Or.inl rfl))) rfl (by omega) (by decide) hN8 v4' fun m5 a5 l5 o5 => Bk.v (b232_58 hP ?_)
    have i5 : MH mb g c (j + 1) m5 := ⟨a4.trans (a5.mono (by decide) (by simp)), by rw [a5.1 133 (by decide) (by decide)]; exact l4, v4'.ag a5 (by decide) (by simp), fun x hx => by
      by_cases e : x = j + 1
      · rw [e]; exact l5
      · exact (i.2.2.2 x (by omega)).congr hN8 (fun t h1 h2 => by rw [o5 t (Or.inl (by omega)), e4])⟩
    have key2 := xloop (N := j + 1) (G := fun a => (∀ a', a' < a → ¬ isR (fN g) L (qtrs g c) a' (j + 1)) → P 61 [.ref 108, .int (-2), .int x2, .int (nI (j + 1)), .int (nI a)] [] (0, 0) (LAY, RFu r2, m5)) ?_ ?_
    · exact key2 (fun a' ha' => absurd ha' (Nat.not_lt_zero a'))
    · intro hn2
      refine b232_61 hP (fun _ => b232_95 hP ?_) (fun z => absurd (Int32.le_refl _) z)
      rw [nIs]
      refine ih r2 m5 x2 _ i5 fun q' hq' => ?_
      by_cases e : q' = j + 1
      · rw [e]; exact fun ⟨a, ha, w⟩ => hn2 a ha w
      · exact hno q' (by omega)
    · intro a ha ih2 hn2
      refine b232_61 hP (fun z => absurd z (nI_ge ha (by omega))) (fun _ => b232_67 hP (fun z => absurd z (by decide)) (fun _ => b232_71 hP (m231 (d := d + 73) b' i5 ha (by omega) hL' hR (fun x hx => hS x (by omega)) hnow hnB (fun w => Bk.i (b232_78 hP (fun z => absurd rfl z) (fun _ => b232_81 hP (b232_89 hP ?_)))) (fun w => Bk.i (b232_78 hP (fun _ => b232_84 hP (b232_89 hP ?_)) (fun z => absurd z (by decide)))))))
      · rw [nIs]
        refine ih2 fun a' ha' => ?_
        by_cases e : a' = a
        · rw [e]; exact w
        · exact hn2 a' (by omega)
      · have fin : ∀ v3 v4, P 101 [.ref 108, .int (nI (j + 1)), .int (nI a), v3, v4] [] (0, 0) (LAY, RFu r2, m5) := fun v3 v4 => by
          refine b232_101 hP (c192 (k := 0) (np := 121) (Or.inr (Or.inl rfl)) rfl (by decide) (by decide) hN8 (by rw [i5.1.2 2 (by decide)]; exact hN2) i5.2.1 fun m6 a6 v6 => Bk.v (b232_110 hP (fun _ => b232_117 hP ?_) (fun z => absurd (nI_le (a := 0) (Nat.zero_le (j + 1)) (by omega)) z)))
          have a19 : AgM [] [19] m6 (xu2 m6 108 19 (nI 0)) := AgM.rfl'.us (by simp)
          refine c161 (xs := []) (RwM_nil (by rw [xu2_eq, upd_at])) (by decide) fun m7 a7 w7 => Bk.v (b232_127 hP (k1 (j + 1) a (by omega) ha w (fun q' hq' => hno q' (by omega)) _ _ ?_ ?_ w7))
          · exact t20' _ _ _ (((i5.1.mono (W' := 123 :: 140 :: 133 :: mqW) (V' := 19 :: mqV) (fun _ h => List.mem_cons_of_mem _ h) (fun _ h => List.mem_cons_of_mem _ h)).trans (a6.mono (by decide) (by decide))).trans ((a19.mono (by simp) (by simp)).trans (a7.mono (by simp) (by simp))))
          · exact (v6.ag a19 (by simp) (by decide)).ag a7 (by decide) (by decide)
        have f95 : ∀ v4, P 95 [.ref 108, .int (nI (j + 1)), .int (nI a), .int (nI (j + 1)), v4] [] (0, 0) (LAY, RFu r2, m5) := fun v4 => b232_95 hP (b232_30 hP (fun _ => fin _ _) (fun _ => b232_37 hP (fun _ => fin _ _) (fun z => absurd (nI_le (a := 0) (Nat.zero_le (j + 1)) (by omega)) z)))
        exact b232_61 hP (fun _ => f95 _) (fun _ => b232_67 hP (fun _ => f95 _) (fun z => absurd (nI_le (a := 0) (Nat.zero_le (j + 1)) (by omega)) z))
theorem FH_Z {j : Nat} (h : RRc mem N R B) (f : FH mem j m') : RZe m' := by
  obtain ⟨hN, -⟩ := RRc_g h
  refine h.2.2.2.2.2.2.2.mv fun c hc => ?_
  by_cases q : c = 50
  · refine Or.inr fun i hi => ?_
    rw [q, f.2, qtrs_121 (by rw [hN]; exact h.2.2.2.1.2.2.1) hi]
    exact h.2.2.2.1.2.2.2.2.2.2.1 i hi
  · refine Or.inl (f.1 c ?_)
    have : ∀ c ∈ zC, c ∉ 107 :: fuW ∨ c = 50 := by decide
    exact (this c hc).resolve_right q
theorem tk_round : TkB 144 232 [] := by
  intro N R B r mem Q h hB K
  obtain ⟨p0, pch, ppe, ppl, psh, pr0, pr1⟩ := RTo_parts h.2.2.1
  obtain ⟨hR, hR4, hN, hN8, hR2, hN2⟩ := id p0
  obtain ⟨hM, hS⟩ := h.2.2.2.1
  obtain ⟨g1, g2, g3, g4, g5, g6, g7, g8, g9⟩ := RRc_g h
  obtain ⟨now, n1, n2⟩ := hS.now
  have hL : ∀ p, p < N → mem 18 p = nI (dL (D0 mem) p) ∧ dL (D0 mem) p ≤ 24 := fun p hp => ⟨(g8.2.2.2.2.1 p (by omega)).1, (g7.2.2.2.2.1 p).1⟩
  have hL2 : ∀ p, p < N → mem 113 p = nI (dL (D0 mem) p) := fun p hp => by
    obtain ⟨L, l1, l2, l3, l4⟩ := ppl p (by omega)
    rw [(l4 hp).1, ← l2]
    exact (hL p hp).1
  generalize dL (D0 mem) = L at hL hL2
  generalize hF : qtrs (gD mem) (mem 48) = F
  have hSV : ∀ j, j ≤ 500 → ∃ B', B' < 67000000 ∧ SV N R B' (F j) := fun j hj => by
    have := SV_qs (f := gD mem) (R := R) (B := B) (c := mem 48) (by rw [g1]; exact hS) (by rw [g2]; exact hR4) g6 j (by omega)
    rw [g1, hF] at this
    exact ⟨_, by omega, this⟩
  -- the reference behind it
  have ref : ∀ (v : Int32) (a : Option Nat) m1 W, Ag W mem m1 → (cfCells ++ mvC).all (fun c => decide (c ∉ W)) = true → 108 ∉ W → (∀ c ∈ W, c ∈ scW) → 113 ∉ W → 123 ∉ W → RZe m1 → (match a with
      | none => v = -2 ∧ (∀ q, q ≤ 500 → ¬ hitR N L F q) ∧ m1 3 = mem 3 ∧ m1 4 = mem 4
      | some a => ∃ q, q ≤ 500 ∧ a < q ∧ v = nI q ∧ isR N L F a q ∧ (∀ q', q' < q → ¬ hitR N L F q') ∧ RwC m1 [nI a]) → M2 232 [] (B + 20000) v r m1 := fun v a m1 W aW d1 d2 d3 d4 d5 hZ hv => by
    intro Q2 k2
    have hMB := RRc_MB h (by omega) aW d1 d2
    have fNe : fN (gD mem) = N := g1
    have fRe : fR (gD mem) = R := g2
    refine m232 (d := 225) (L := L) (now := now) hMB (fun p hp => ?_) (by omega) (fun j hj => ?_) n2 (by omega) (fun hno r2 m2 a2 v2 => ?_) (fun q a' hq haq his hno r2 m2 a2 v2 w2 => ?_)
    · rw [aW 113 d4]
      exact ⟨hL2 p (by omega), (hL p (by omega)).2⟩
    · rw [fNe, fRe, hF]
      exact hSV j hj
    · rw [fNe, hF] at hno
      rw [fNe] at v2
      cases a with
      | some a =>
        obtain ⟨q, y1, y2, y3, y4, y5, y6⟩ := hv
        exact absurd ⟨a, y2, y4⟩ (hno q y1)
      | none =>
        obtain ⟨y1, y2, y3, y4⟩ := hv
        obtain ⟨xs, x1, x2⟩ := h.2.1
        rw [y1] at k2
        refine k2 _ _ (kEnd (N := N) (R := R) (RR_ro (xs := xs) h (aW.mono d3) hZ ?_ (a2.mono (by decide) (by decide)) v2 ?_) (by omega))
        · unfold RwC at x1 ⊢
          rw [y3, y4]
          exact x1
        · refine RwM_mv ?_ a2 (by decide) (by decide)
          unfold RwM at x2 ⊢
          rw [aW 108 d2, aW 123 d5]
          exact x2
    · rw [fNe, hF] at his hno
      rw [fNe] at v2
      cases a with
      | none =>
        obtain ⟨y1, y2, y3, y4⟩ := hv
        exact absurd ⟨a', haq, his⟩ (y2 q hq)
      | some a =>
        obtain ⟨q2, y1, y2, y3, y4, y5, y6⟩ := hv
        have eq : q = q2 := by
          by_cases e : q = q2
          · exact e
          · by_cases w : q < q2
            · exact absurd ⟨a', haq, his⟩ (y5 q w)
            · exact absurd ⟨a, y2, y4⟩ (hno q2 (by omega))
        subst eq
        have ea := isR_one hno haq y2 his y4
        subst ea
        rw [y3] at k2
        exact k2 _ _ (kEnd (N := N) (R := R) (RR_ro (xs := [nI a']) h (aW.mono d3) hZ y6 (a2.mono (by decide) (by decide)) v2 w2) (by omega))
  refine c_in rfl rfl rfl fun P hP => b144_0 hP (c95 (d := 297) hN hN8 hL (fun hno => Bk.i (b144_7 hP (fun z => absurd z (by decide)) (fun _ => b144_12 hP (K _ _ (ref _ none mem [] Ag.rfl' (by decide) (by simp) (by simp) (by simp) (by simp) h.2.2.2.2.2.2.2 ⟨rfl, fun q hq ⟨a, ha, _, hd⟩ => hno (q - a) (by omega) (by omega) hd, rfl, rfl⟩))))) (fun c hc0 hc1 hc2 hc3 => Bk.i (b144_7 hP (fun _ => b144_15 hP ?_) (fun z => absurd (nI_lt (a := 0) hc0 (by omega)) z))))
  refine c60i h fun m0 f0 => Bk.v (b144_26 hP ?_)
  have fh0 : FH mem 0 m0 := ⟨f0.1.mono (by decide), f0.2⟩
  refine c145 (d := 297) (q := 0) hN hN8 (by decide) fh0 (fun j hj => absurd hj (Nat.not_lt_zero j)) fun m1 f1 h1 => Bk.v (b144_31 hP ?_)
  have key := xloop (N := 500) (G := fun j => ∀ m' v3, FH mem j m' → HI mem N (j + 1) m' → (∀ q', q' ≤ j → ¬ hitR N L F q') → P 33 [.ref 0, .int (nI c), .int (nI (j + 1)), v3] [] (0, 0) (LAY, RFu r, m')) ?_ ?_
  · exact key m1 _ f1 h1 (fun q' hq' ⟨a, ha, _⟩ => by omega)
  · intro m' v3 f' _ hno
    exact b144_33 hP (fun _ => b144_108 hP (K _ _ (ref _ none m' (107 :: fuW) f'.1 (by decide) (by decide) (by decide) (by decide) (by decide) (FH_Z h f') ⟨rfl, hno, f'.1 3 (by decide), f'.1 4 (by decide)⟩))) (fun z => absurd (by decide) z)
  · intro j hj ih m' v3 f' h' hno
    refine b144_33 hP (fun z => absurd z (nI_nlt (by omega) (by omega))) (fun _ => b144_40 hP (c8h (d := 294) h (by omega) (by omega) f' fun m2 y f2 e2 => Bk.i (b144_55 hP (c145 (d := 297) (q := j + 1) hN hN8 (by omega) f2 (fun x hx p hp => by rw [e2]; exact h' x hx p hp) fun m3 f3 h3 => Bk.v (b144_61 hP ?_)))))
    have hdiv := Nat.div_add_mod (j + 1) c
    have hmod : (j + 1) % c < c := Nat.mod_lt _ hc0
    have hs : ∀ k, k ≤ (j + 1) / c → ((k < (j + 1) / c → nI (j + 1 - k * c) - nI c = nI (j + 1 - (k + 1) * c)) ∧ (k = (j + 1) / c → nI (j + 1 - k * c) - nI c < 0)) := fun k hk => by
      have e1 : (k + 1) * c = k * c + c := Nat.succ_mul k c
      refine ⟨fun q => ?_, fun q => ?_⟩
      · have hk1 : (k + 1) * c ≤ j + 1 := (Nat.le_div_iff_mul_le hc0).mp q
        rw [nI_sub (by omega), show j + 1 - k * c - c = j + 1 - (k + 1) * c by omega]
      · have e2 : k * c = c * ((j + 1) / c) := by rw [q, Nat.mul_comm]
        exact Int32.not_le.mp (nI_neg (by omega) (by omega))
    have key2 := xloop (N := (j + 1) / c) (G := fun k => ∀ y : Int32, (k < (j + 1) / c → y = nI (j + 1 - (k + 1) * c)) → (k = (j + 1) / c → y < 0) → (∀ k', k' < k → ¬ alk N F (j + 1 - (k' + 1) * c) (j + 1)) → P 65 [.ref 0, .int (nI c), .int (nI (j + 1)), .int y] [] (0, 0) (LAY, RFu r, m3)) ?_ ?_
    · have h0 := hs 0 (Nat.zero_le _)
      rw [Nat.zero_mul, Nat.sub_zero] at h0
      exact key2 _ (fun q => h0.1 q) (fun q => h0.2 q) (fun a' ha' => absurd ha' (Nat.not_lt_zero a'))
    · intro y _ y2 hn2
      refine b144_65 hP (fun _ => b144_102 hP ?_) (fun z => absurd (y2 rfl) z)
      · rw [nIs]
        refine ih m3 _ f3 h3 fun q' hq' => ?_
        by_cases e : q' = j + 1
        · rw [e]
          rintro ⟨a, ha, w1, w2⟩
          obtain ⟨k, ek⟩ := dvA_least hc0 hc2 hc3 w2
          have hk0 : 0 < k := Nat.pos_of_ne_zero fun z => by rw [z, Nat.zero_mul] at ek; omega
          have hk1 : k ≤ (j + 1) / c := by
            rw [Nat.le_div_iff_mul_le hc0]
            omega
          refine hn2 (k - 1) (by omega) ?_
          rw [Nat.sub_add_cancel hk0, ← ek, show j + 1 - (j + 1 - a) = a by omega]
          exact w1
        · exact hno q' (by omega)
    · intro k hk ih2 y y1 _ hn2
      have hk1 : (k + 1) * c ≤ j + 1 := (Nat.le_div_iff_mul_le hc0).mp hk
      have hk0 : 0 < (k + 1) * c := Nat.mul_pos (by omega) hc0
      rw [y1 hk]
      refine b144_65 hP (fun z => absurd z (pw (by omega))) (fun _ => b144_69 hP ?_)
      refine c146 (d := 298) hN hN8 (by omega) (by omega) f3 h3 (by omega) (by omega) (fun w => Bk.i (b144_75 hP (fun _ => b144_95 hP ?_) (fun z => absurd rfl z))) (fun w => Bk.i (b144_75 hP (fun z => absurd z (by decide)) (fun _ => b144_78 hP (c31 fun m4 a4 w4 => Bk.v (b144_85 hP ?_)))))
      · have h0 := hs (k + 1) (by omega)
        refine ih2 _ (fun q => h0.1 q) (fun q => h0.2 q) fun k' hk' => ?_
        by_cases e : k' = k
        · rw [e, ← hF]; exact w
        · exact hn2 k' (by omega)
      · refine c32 w4 (by decide) fun m5 a5 w5 => Bk.v (b144_93 hP (K _ _ ?_))
        have aa : Ag [3, 4] m3 m5 := (a4.mono (by decide)).trans a5
        refine ref _ (some (j + 1 - (k + 1) * c)) m5 (3 :: 4 :: 107 :: fuW) ((f3.1.mono (fun _ h => List.mem_cons_of_mem _ (List.mem_cons_of_mem _ h))).trans (aa.mono (by decide))) (by decide) (by decide) (by decide) (by decide) (by decide) (RZe_ag (FH_Z h f3) aa (by decide)) ⟨j + 1, by omega, by omega, rfl, ⟨by rw [← hF]; exact w, ?_⟩, fun q' hq' => hno q' (by omega), w5⟩
        rw [show j + 1 - (j + 1 - (k + 1) * c) = (k + 1) * c by omega]
        exact dvA_mul hc2 _
end K
