/-! the reference's quarter; what it lays aside and brings back -/
theorem MV.at' {mem : Nat → Nat → Int32} {N b : Nat} {c : Nat → Int32} {x : Int32} (h : MV mem N c) (hN : N ≤ 8) (hb : b < 8) : MV (xu2 mem 114 b x) N (upd c b x) := by
  obtain ⟨h1, h2, h3⟩ := h
  refine ⟨fun p hp => ?_, fun g hg => ?_, ?_⟩
  · obtain ⟨e1, e2, e3, e4, e5, e6, e7⟩ := h1 p hp
    rw [xu2_eq, xu2_ne (by decide), xu2_ne (by decide), xu2_ne (by decide), xu2_ne (by decide), xu2_ne (by decide), xu2_ne (by decide), upd_ne (i := b) (j := 8 + p) (by omega), upd_ne (i := b) (j := 16 + p) (by omega), upd_ne (i := b) (j := 24 + p) (by omega), upd_ne (i := b) (j := 32 + p) (by omega), upd_ne (i := b) (j := 40 + p) (by omega), upd_ne (i := b) (j := 48 + p) (by omega)]
    refine ⟨?_, e2, e3, e4, e5, e6, e7⟩
    by_cases e : p = b
    · rw [e, upd_at, upd_at]
    · rw [upd_ne e, upd_ne e]
      exact e1
  · rw [xu2_ne (by decide), upd_ne (by omega)]; exact h2 g hg
  · rw [xu2_ne (by decide), upd_ne (by omega)]; exact h3
theorem cntQn_st {c : Nat → Int32} {n k p : Nat} (hk : k = 16 ∨ k = 24 ∨ k = 32 ∨ k = 40) (hp : p ≠ n) (h8 : p < 8) (hn : n < 8) : cntQn c (n + 1) (k + p) = cntQn c n (k + p) := by
  by_cases h : p < n
  · rcases hk with rfl | rfl | rfl | rfl
    · rw [cntQn_16 (by omega) (by omega), cntQn_16 h (by omega)]
    · rw [cntQn_24 (by omega) (by omega), cntQn_24 h (by omega)]
    · rw [cntQn_32 (by omega) (by omega), cntQn_32 h (by omega)]
    · rw [cntQn_40 (by omega), cntQn_40 h]
  · rw [cntQn_hi hk (by omega) h8, cntQn_hi hk (by omega) h8]
theorem MV.cnt {mem m' : Nat → Nat → Int32} {N n : Nat} {c : Nat → Int32} {s t a b : Int32} (h : MV mem N (cntQn c n)) (hN : N ≤ 8) (hn : n < N)
    (g1 : m' 114 = mem 114 ∧ m' 115 = mem 115 ∧ m' 120 = mem 120 ∧ m' 121 = mem 121 ∧ m' 108 15 = mem 108 15)
    (g2 : m' 116 = upd (mem 116) n s) (g3 : m' 117 = upd (mem 117) n t) (g4 : m' 118 = upd (mem 118) n a) (g5 : m' 119 = upd (mem 119) n b)
    (e1 : s = if c (8 + n) = 2 then c (16 + n) + 1 else 0) (e2 : t = if c (8 + n) = 1 then c (24 + n) + 1 else 0) (e3 : a = c (32 + n) + b01 (c (8 + n) = 2)) (e4 : b = c (40 + n) + b01 (c (8 + n) = 1)) : MV m' N (cntQn c (n + 1)) := by
  obtain ⟨h1, h2, h3⟩ := h
  obtain ⟨f1, f2, f3, f4, f5⟩ := g1
  refine ⟨fun p hp => ?_, fun g hg => ?_, ?_⟩
  · obtain ⟨q1, q2, q3, q4, q5, q6, q7⟩ := h1 p hp
    rw [cntQn_lo (by omega) (by omega)] at q1 q7
    rw [cntQn_lo (i := 8 + p) (by omega) (by omega)] at q2
    rw [f1, f2, f3, g2, g3, g4, g5, cntQn_lo (by omega) (by omega), cntQn_lo (i := 8 + p) (by omega) (by omega), cntQn_lo (i := 48 + p) (by omega) (by omega)]
    by_cases e : p = n
    · rw [e, upd_at, upd_at, upd_at, upd_at, cntQn_16 (by omega) (by omega), cntQn_24 (by omega) (by omega), cntQn_32 (by omega) (by omega), cntQn_40 (by omega)]
      rw [e] at q1 q2 q7
      exact ⟨q1, q2, e1, e2, e3, e4, q7⟩
    · rw [upd_ne e, upd_ne e, upd_ne e, upd_ne e, cntQn_st (Or.inl rfl) e (by omega) (by omega), cntQn_st (Or.inr (Or.inl rfl)) e (by omega) (by omega), cntQn_st (Or.inr (Or.inr (Or.inl rfl))) e (by omega) (by omega), cntQn_st (Or.inr (Or.inr (Or.inr rfl))) e (by omega) (by omega)]
      exact ⟨q1, q2, q3, q4, q5, q6, q7⟩
  · rw [f4, cntQn_lo (by omega) (by omega)]
    have := h2 g hg
    rw [cntQn_lo (by omega) (by omega)] at this
    exact this
  · rw [f5, cntQn_lo (by omega) (by omega)]
    rw [cntQn_lo (by omega) (by omega)] at h3
    exact h3
theorem upd7 {f v : Nat → Int32} {b j : Nat} : upd (upd (upd (upd (upd (upd (upd f b (v 0)) (b + 1) (v 1)) (b + 2) (v 2)) (b + 3) (v 3)) (b + 4) (v 4)) (b + 5) (v 5)) (b + 6) (v 6) j = if b ≤ j ∧ j < b + 7 then v (j - b) else f j := by
  by_cases h : b ≤ j ∧ j < b + 7
  · rw [if_pos h]
    obtain ⟨t, ht, rfl⟩ : ∃ t, t < 7 ∧ j = b + t := ⟨j - b, by omega, by omega⟩
    rw [show b + t - b = t by omega]
    match t, ht with
    | 0, _ => rw [upd_ne (by omega), upd_ne (by omega), upd_ne (by omega), upd_ne (by omega), upd_ne (by omega), upd_ne (by omega), Nat.add_zero, upd_at]
    | 1, _ => rw [upd_ne (by omega), upd_ne (by omega), upd_ne (by omega), upd_ne (by omega), upd_ne (by omega), upd_at]
    | 2, _ => rw [upd_ne (by omega), upd_ne (by omega), upd_ne (by omega), upd_ne (by omega), upd_at]
    | 3, _ => rw [upd_ne (by omega), upd_ne (by omega), upd_ne (by omega), upd_at]
    | 4, _ => rw [upd_ne (by omega), upd_ne (by omega), upd_at]
    | 5, _ => rw [upd_ne (by omega), upd_at]
    | 6, _ => rw [upd_at]
    | t + 7, h => omega
  · rw [if_neg h, upd_ne (by omega), upd_ne (by omega), upd_ne (by omega), upd_ne (by omega), upd_ne (by omega), upd_ne (by omega), upd_ne (by omega)]
/-- what the reference keeps of p, in its order -/
def vw (c : Nat → Int32) (t p : Nat) : Int32 := if t = 0 then c p else if t = 1 then b01 (c (8 + p) = 2) else c (8 * t + p)
theorem MV.tp {mem : Nat → Nat → Int32} {N : Nat} {c : Nat → Int32} (h : MV mem N c) {t p : Nat} (ht : t < 7) (hp : p < N) : mem (114 + t) p = vw c t p := by
  obtain ⟨e1, e2, e3, e4, e5, e6, e7⟩ := h.1 p hp
  match t, ht with
  | 0, _ => exact e1
  | 1, _ => exact e2
  | 2, _ => exact e3
  | 3, _ => exact e4
  | 4, _ => exact e5
  | 5, _ => exact e6
  | 6, _ => exact e7
  | t + 7, h => omega
theorem MV.mk2 {mem : Nat → Nat → Int32} {N : Nat} {c : Nat → Int32} (h : ∀ t, t < 7 → ∀ p, p < N → mem (114 + t) p = vw c t p) (h2 : ∀ g, g < 64 → mem 121 g = c (56 + g)) (h3 : mem 108 15 = c 120) : MV mem N c :=
  ⟨fun p hp => ⟨h 0 (by decide) p hp, h 1 (by decide) p hp, h 2 (by decide) p hp, h 3 (by decide) p hp, h 4 (by decide) p hp, h 5 (by decide) p hp, h 6 (by decide) p hp⟩, h2, h3⟩
/-- a state laid aside from k on -/
def LV (m : Nat → Int32) (k N : Nat) (c : Nat → Int32) : Prop := (∀ t, t < 7 → ∀ p, p < N → m (k + 7 * p + t) = vw c t p) ∧ m (k + 56) = c 120 ∧ ∀ g, g < 64 → m (k + 57 + g) = c (56 + g)
theorem LV.congr {m m' : Nat → Int32} {k N : Nat} {c : Nat → Int32} (h : LV m k N c) (hN : N ≤ 8) (e : ∀ i, k ≤ i → i < k + 121 → m' i = m i) : LV m' k N c :=
  ⟨fun t ht p hp => by rw [e _ (by omega) (by omega)]; exact h.1 t ht p hp, by rw [e _ (by omega) (by omega)]; exact h.2.1, fun g hg => by rw [e _ (by omega) (by omega)]; exact h.2.2 g hg⟩
section C
variable {d r : Nat} {mem : Nat → Nat → Int32} {Q : xQr} {f : xCf} {c : Nat → Int32}
theorem c191 {q k np N : Nat} (hq : q = 132 ∨ q = 133 ∨ q = 140 ∨ q = 141) (hL : LAY[q]? = some (13, np)) (hk : k + 121 ≤ np) (hnp : np < 100000) (hN : N ≤ 8) (hM : MV mem N c)
    (kk : ∀ mem', AgM [q] [] mem mem' → LV (mem' q) k N c → (∀ i, i < k ∨ k + 121 ≤ i → mem' q i = mem q i) → Q none (LAY, RFu r, mem')) : xCall (d + 1) 191 [.ref 108, .ref q, .int (nI k)] (LAY, RFu r, mem) Q := by
  have h8 : q ≠ 108 := by omega
  have x7 : ∀ t, t < 8 → ∀ (m : Nat → Nat → Int32) (i : Nat) (x : Int32), xu2 m q i x (114 + t) = m (114 + t) := fun t ht m i x => xu2_ne (by omega)
  have x114 := x7 0 (by decide)
  have x115 := x7 1 (by decide)
  have x116 := x7 2 (by decide)
  have x117 := x7 3 (by decide)
  have x118 := x7 4 (by decide)
  have x119 := x7 5 (by decide)
  have x120 := x7 6 (by decide)
  have x121 := x7 7 (by decide)
  simp only [Nat.reduceAdd] at x114 x115 x116 x117 x118 x119 x120 x121
  have xq : ∀ (m : Nat → Nat → Int32) (i : Nat) (x : Int32), xu2 m q i x 108 = m 108 := fun m i x => xu2_ne (by omega)
  refine c_in rfl rfl rfl fun P hP => b191_0 hP hL ?_
  have key := xloop (N := 8) (G := fun n => ∀ m', AgM [q] [] mem m' → (∀ t, t < 7 → ∀ p, p < n → m' q (k + 7 * p + t) = mem (114 + t) p) → (∀ i, i < k ∨ k + 7 * n ≤ i → m' q i = mem q i) → P 2 [.ref 108, .ref q, .int (nI k), .int (nI n)] [] (0, 0) (LAY, RFu r, m')) ?_ ?_
  · exact key mem AgM.rfl' (fun t _ p hp => absurd hp (Nat.not_lt_zero p)) (fun i _ => rfl)
  · intro m' hA h1 h2
    refine b191_2 hP hL (fun _ => b191_125 hP hL (by rw [nI_add]; exact vpn (by omega) (by omega)) ?_) (fun h => absurd (nI_le (Nat.le_refl 8) (by decide)) h)
    rw [nI_add, nIc (by omega)]
    have h15 : m' 108 15 = c 120 := by rw [hA.2 15 (by simp), hM.2.2]
    rw [h15]
    have key2 := xloop (N := 64) (G := fun n => ∀ m2, AgM [q] [] mem m2 → (∀ t, t < 7 → ∀ p, p < N → m2 q (k + 7 * p + t) = vw c t p) → m2 q (k + 56) = c 120 → (∀ g, g < n → m2 q (k + 57 + g) = c (56 + g)) → (∀ i, i < k ∨ k + 121 ≤ i → m2 q i = mem q i) → P 137 [.ref 108, .ref q, .int (nI k), .int (nI n)] [] (0, 0) (LAY, RFu r, m2)) ?_ ?_
    · refine key2 _ (hA.u2 (by simp) h8) (fun t ht p hp => ?_) (by rw [xu2_eq, upd_at]) (fun g hg => absurd hg (Nat.not_lt_zero g)) (fun i hi => ?_)
      · rw [xu2_eq, upd_ne (by omega), h1 t ht p (by omega)]
        exact hM.tp ht hp
      · rw [xu2_eq, upd_ne (by omega), h2 i (by omega)]
    · intro m2 hA2 q1 q2 q3 q4
      exact b191_137 hP hL (fun _ => b191_165 hP hL (kk m2 hA2 ⟨q1, q2, q3⟩ q4)) (fun h => absurd (nI_le (Nat.le_refl 64) (by decide)) h)
    · intro n hn ih m2 hA2 q1 q2 q3 q4
      refine b191_137 hP hL (fun h => absurd h (nI_ge hn (by decide))) (fun _ => b191_143 hP hL (vpn hn (by decide)) (by rw [nI_add, nI_add, nI_add]; exact vpn (by omega) (by omega)) ?_)
      rw [nIs, nI_add, nI_add, nI_add, nIc (by omega), nIc (by omega)]
      have hg : m2 121 n = c (56 + n) := by rw [hA2.1 121 (by simp; omega) (by decide)]; exact hM.2.1 n hn
      rw [hg]
      refine ih _ (hA2.u2 (by simp) h8) (fun t ht p hp => ?_) ?_ (fun g hg => ?_) (fun i hi => ?_)
      · rw [xu2_eq, upd_ne (by omega)]; exact q1 t ht p hp
      · rw [xu2_eq, upd_ne (by omega)]; exact q2
      · rw [xu2_eq]
        by_cases e : g = n
        · rw [e, show k + 57 + n = k + 56 + 1 + n by omega, upd_at]
        · rw [upd_ne (by omega)]; exact q3 g (by omega)
      · rw [xu2_eq, upd_ne (by omega)]; exact q4 i hi
  · intro n hn ih m' hA h1 h2
    have vn : vp_in (nI n) 8 := vpn hn (by decide)
    have e0 : nI k + nI 7 * nI n = nI (k + 7 * n) := by rw [nI_mul, nI_add]
    have e_ : ∀ t, t < 7 → (nI (k + 7 * n) + nI t).toNatClampNeg = k + 7 * n + t := fun t ht => nIx (by omega)
    have v_ : ∀ t, t < 7 → vp_in (nI k + nI 7 * nI n + nI t) np := fun t ht => by rw [e0]; exact vpx (by omega) (by omega)
    refine b191_2 hP hL (fun h => absurd h (nI_ge hn (by decide))) (fun _ => b191_8 hP hL vn (by rw [e0]; exact vpn (by omega) (by omega)) vn (v_ 1 (by decide)) vn (v_ 2 (by decide)) vn (v_ 3 (by decide)) vn (v_ 4 (by decide)) vn (v_ 5 (by decide)) vn (v_ 6 (by decide)) ?_)
    rw [nIs, e0, nIc (by omega), nIc (by omega), e_ 1 (by decide), e_ 2 (by decide), e_ 3 (by decide), e_ 4 (by decide), e_ 5 (by decide), e_ 6 (by decide)]
    simp only [x114, x115, x116, x117, x118, x119, x120]
    refine ih _ (((((((hA.u2 (by simp) h8).u2 (by simp) h8).u2 (by simp) h8).u2 (by simp) h8).u2 (by simp) h8).u2 (by simp) h8).u2 (by simp) h8) (fun t ht p hp => ?_) (fun i hi => ?_)
    · simp only [xu2_eq]
      refine (upd7 (v := fun t => m' (114 + t) n)).trans ?_
      by_cases e : p = n
      · rw [if_pos (by omega), show k + 7 * p + t - (k + 7 * n) = t by omega, e]
        show m' (114 + t) n = _
        rw [hA.1 (114 + t) (by simp; omega) (by omega)]
      · rw [if_neg (by omega)]; exact h1 t ht p (by omega)
    · simp only [xu2_eq]
      refine (upd7 (v := fun t => m' (114 + t) n)).trans ?_
      rw [if_neg (by omega)]
      exact h2 i (by omega)
theorem c192 {q k np N : Nat} (hq : q = 132 ∨ q = 133 ∨ q = 140 ∨ q = 141) (hL : LAY[q]? = some (13, np)) (hk : k + 121 ≤ np) (hnp : np < 100000) (hN : N ≤ 8) (hN0 : mem 108 2 = nI N) (hM : LV (mem q) k N c)
    (kk : ∀ mem', AgM mvC [15] mem mem' → MV mem' N c → Q none (LAY, RFu r, mem')) : xCall (d + 1) 192 [.ref 108, .ref q, .int (nI k)] (LAY, RFu r, mem) Q := by
  have h8 : q ≠ 108 := by omega
  have xq : ∀ t, t < 8 → ∀ (m : Nat → Nat → Int32) (i : Nat) (x : Int32), xu2 m (114 + t) i x q = m q := fun t ht m i x => xu2_ne (by omega)
  have x114 := xq 0 (by decide)
  have x115 := xq 1 (by decide)
  have x116 := xq 2 (by decide)
  have x117 := xq 3 (by decide)
  have x118 := xq 4 (by decide)
  have x119 := xq 5 (by decide)
  have x120 := xq 6 (by decide)
  simp only [Nat.reduceAdd] at x114 x115 x116 x117 x118 x119 x120
  refine c_in rfl rfl rfl fun P hP => b192_0 hP hL ?_
  have key := xloop (N := N) (G := fun n => ∀ m', AgM mvC [15] mem m' → (∀ t, t < 7 → ∀ p, p < n → m' (114 + t) p = vw c t p) → P 2 [.ref 108, .ref q, .int (nI k), .int (nI n)] [] (0, 0) (LAY, RFu r, m')) ?_ ?_
  · exact key mem AgM.rfl' (fun t _ p hp => absurd hp (Nat.not_lt_zero p))
  · intro m' hA h1
    have hN1 : m' 108 2 = nI N := by rw [hA.2 2 (by simp), hN0]
    have eq : m' q = mem q := hA.1 q (by unfold mvC; simp; omega) h8
    refine b192_2 hP hL (fun _ => b192_127 hP hL (by rw [nI_add]; exact vpn (by omega) (by omega)) ?_) (fun h => absurd (by rw [hN1]; exact Int32.le_refl _) h)
    rw [nI_add, nIc (by omega), eq, hM.2.1]
    have key2 := xloop (N := 64) (G := fun n => ∀ m2, AgM mvC [15] mem m2 → (∀ t, t < 7 → ∀ p, p < N → m2 (114 + t) p = vw c t p) → m2 108 15 = c 120 → (∀ g, g < n → m2 121 g = c (56 + g)) → P 139 [.ref 108, .ref q, .int (nI k), .int (nI n)] [] (0, 0) (LAY, RFu r, m2)) ?_ ?_
    · exact key2 _ (hA.us (by simp)) (fun t ht p hp => by rw [xu2_ne (by omega)]; exact h1 t ht p hp) (by rw [xu2_eq, upd_at]) (fun g hg => absurd hg (Nat.not_lt_zero g))
    · intro m2 hA2 q1 q2 q3
      exact b192_139 hP hL (fun _ => b192_167 hP hL (kk m2 hA2 (MV.mk2 q1 q3 q2))) (fun h => absurd (nI_le (Nat.le_refl 64) (by decide)) h)
    · intro n hn ih m2 hA2 q1 q2 q3
      have eq2 : m2 q = mem q := hA2.1 q (by unfold mvC; simp; omega) h8
      refine b192_139 hP hL (fun h => absurd h (nI_ge hn (by decide))) (fun _ => b192_145 hP hL (by rw [nI_add, nI_add, nI_add]; exact vpn (by omega) (by omega)) (vpn hn (by decide)) ?_)
      rw [nIs, nI_add, nI_add, nI_add, nIc (by omega), nIc (by omega), eq2, show k + 56 + 1 + n = k + 57 + n by omega, hM.2.2 n hn]
      refine ih _ (hA2.u2 (by decide) (by decide)) (fun t ht p hp => by rw [xu2_ne (by omega)]; exact q1 t ht p hp) (by rw [xu2_ne (by decide)]; exact q2) (fun g hg => ?_)
      rw [xu2_eq]
      by_cases e : g = n
      · rw [e, upd_at]
      · rw [upd_ne e]; exact q3 g (by omega)
  · intro n hn ih m' hA h1
    have hN1 : m' 108 2 = nI N := by rw [hA.2 2 (by simp), hN0]
    have eq : m' q = mem q := hA.1 q (by unfold mvC; simp; omega) h8
    have vn : vp_in (nI n) 8 := vpn (by omega) (by decide)
    have e0 : nI k + nI 7 * nI n = nI (k + 7 * n) := by rw [nI_mul, nI_add]
    have e_ : ∀ t, t < 7 → (nI (k + 7 * n) + nI t).toNatClampNeg = k + 7 * n + t := fun t ht => nIx (by omega)
    have v_ : ∀ t, t < 7 → vp_in (nI k + nI 7 * nI n + nI t) np := fun t ht => by rw [e0]; exact vpx (by omega) (by omega)
    refine b192_2 hP hL (fun h => absurd h (by rw [hN1]; exact nI_ge hn (by omega))) (fun _ => b192_10 hP hL (by rw [e0]; exact vpn (by omega) (by omega)) vn (v_ 1 (by decide)) vn (v_ 2 (by decide)) vn (v_ 3 (by decide)) vn (v_ 4 (by decide)) vn (v_ 5 (by decide)) vn (v_ 6 (by decide)) vn ?_)
    rw [nIs, e0, nIc (by omega), nIc (by omega), e_ 1 (by decide), e_ 2 (by decide), e_ 3 (by decide), e_ 4 (by decide), e_ 5 (by decide), e_ 6 (by decide)]
    simp only [x114, x115, x116, x117, x118, x119, x120]
    refine ih _ (((((((hA.u2 (by decide) (by decide)).u2 (by decide) (by decide)).u2 (by decide) (by decide)).u2 (by decide) (by decide)).u2 (by decide) (by decide)).u2 (by decide) (by decide)).u2 (by decide) (by decide)) (fun t ht p hp => ?_)
    have go : upd (m' (114 + t)) n (m' q (k + 7 * n + t)) p = vw c t p := by
      by_cases e : p = n
      · rw [e, upd_at, eq]; exact hM.1 t ht n hn
      · rw [upd_ne e]; exact h1 t ht p (by omega)
    match t, ht with
    | 0, _ => simp only [xu2_ne, xu2_eq, ne_eq, Nat.reduceEqDiff, Nat.reduceAdd, not_false_eq_true, Nat.add_zero]; exact go
    | 1, _ => simp only [xu2_ne, xu2_eq, ne_eq, Nat.reduceEqDiff, Nat.reduceAdd, not_false_eq_true]; exact go
    | 2, _ => simp only [xu2_ne, xu2_eq, ne_eq, Nat.reduceEqDiff, Nat.reduceAdd, not_false_eq_true]; exact go
    | 3, _ => simp only [xu2_ne, xu2_eq, ne_eq, Nat.reduceEqDiff, Nat.reduceAdd, not_false_eq_true]; exact go
    | 4, _ => simp only [xu2_ne, xu2_eq, ne_eq, Nat.reduceEqDiff, Nat.reduceAdd, not_false_eq_true]; exact go
    | 5, _ => simp only [xu2_ne, xu2_eq, ne_eq, Nat.reduceEqDiff, Nat.reduceAdd, not_false_eq_true]; exact go
    | 6, _ => simp only [xu2_ne, xu2_eq, ne_eq, Nat.reduceEqDiff, Nat.reduceAdd, not_false_eq_true]; exact go
    | t + 7, h => omega
theorem c193 {i N : Nat} (hM : MV mem N c) (hPV : PV N c) (hi : i < N) (hN : N ≤ 8) (k : Q (some (.int (b01 (c (8 + i) = 1)))) (LAY, RFu r, mem)) : xCall (d + 1) 193 [.ref 108, .int (nI i)] (LAY, RFu r, mem) Q := by
  obtain ⟨e1, e2, -⟩ := hM.1 i hi
  have vi : vp_in (nI i) 8 := vpn (by omega) (by decide)
  refine c_in rfl rfl rfl fun P hP => b193_0 hP vi (fun h => b193_23 hP (b193_24 hP (Or.inl rfl) ?_)) (fun h => b193_10 hP vi (fun h2 => b193_23 hP (b193_24 hP (Or.inl rfl) ?_)) (fun h2 => b193_19 hP (b193_24 hP (Or.inr rfl) ?_)))
  · rw [nIc (by omega), e1] at h
    rw [b01_f (by rw [hPV.p0 hi h]; exact i01)] at k
    exact k
  · rw [nIc (by omega), e2] at h2
    have h2 : c (8 + i) = 2 := Decidable.by_contra fun q => h2 (b01_f q)
    rw [b01_f (by rw [h2]; exact i21)] at k
    exact k
  · rw [nIc (by omega), e1] at h
    rw [nIc (by omega), e2] at h2
    rw [b01_t ((hPV.p12 hi h).resolve_right (b01_0.mp h2))] at k
    exact k
theorem c194 {N : Nat} (hM : MV mem N c) (hN0 : mem 108 2 = nI N) (hN : N ≤ 8) (k : Q (some (.int (sumI (fun p => c (40 + p)) N))) (LAY, RFu r, mem)) : xCall (d + 1) 194 [.ref 108] (LAY, RFu r, mem) Q := by
  refine c_in rfl rfl rfl fun P hP => b194_0 hP ?_
  refine xloop (N := N) (G := fun n => P 4 [.ref 108, .int (sumI (fun p => c (40 + p)) n), .int (nI n)] [] (0, 0) (LAY, RFu r, mem)) ?_ ?_
  · exact b194_4 hP (fun _ => b194_27 hP k) (fun h => absurd (by rw [hN0]; exact Int32.le_refl _) h)
  · intro n hn ih
    refine b194_4 hP (fun h => absurd h (by rw [hN0]; exact nI_ge hn (by omega))) (fun _ => b194_12 hP (vpn (by omega) (by decide)) ?_)
    rw [nIs, nIc (by omega), (hM.1 n hn).2.2.2.2.2.1]
    exact ih
theorem c190 {now : Nat} (hC : CfM mem f) (hPV : PV (fN f) c) (hM : MV mem (fN f) c) (hw : c 120 = nI now) (hw2 : now < 1073741800)
    (k : ∀ r' mem', AgM [114, 115, 116, 117, 118, 119, 120, 121, 130, 131] [15, 22, 23, 24, 25, 28] mem mem' → MV mem' (fN f) (qtr f c) → (∀ n, n < fR f → mem' 130 n = oA (rmA f (goP f c) n)) → (∀ n, n < fR f → ∀ ab, rmA f (goP f c) n = some ab → mem' 131 n = nI ab.2) → Q (some (.int (nI (qAsk f c)))) (LAY, RFu r', mem')) :
    xCall (d + 73) 190 [.ref 108] (LAY, RFu r, mem) Q := by
  have hN := hC.2.2.2.1
  have hN0 := hC.2.2.1
  have hR := hC.2.1
  have hR0 := hC.1
  have hPV1 := PV_goP (f := f) hN hPV
  refine c_in rfl rfl rfl fun P hP => b190_0 hP ?_
  -- the rooms and what is counted then
  have part2 : ∀ m1 v1 v2, AgM [114, 115] [] mem m1 → MV m1 (fN f) (goP f c) → P 46 [.ref 108, v1, v2, .null] [] (0, 0) (LAY, RFu r, m1) := fun m1 v1 v2 hA1 hM1 => by
    refine b190_46 hP ?_
    generalize hc1 : goP f c = c1 at *
    have key := xloop (N := fR f) (G := fun n => ∀ r' m' v3, AgM [114, 115, 116, 117, 118, 119, 120, 121, 130, 131] [15, 22, 23, 24, 25, 28] mem m' → MV m' (fN f) (rms f c1 n) → (∀ j, j < n → m' 130 j = oA (rmA f c1 j)) → (∀ j, j < n → ∀ ab, rmA f c1 j = some ab → m' 131 j = nI ab.2) → P 50 [.ref 108, .int (nI (nAsk f c1 n)), .int (nI n), v3] [] (0, 0) (LAY, RFu r', m')) ?_ ?_
    · exact key r m1 .null (hA1.mono (by simp) (by simp)) hM1 (fun j hj => absurd hj (Nat.not_lt_zero j)) (fun j hj => absurd hj (Nat.not_lt_zero j))
    · intro r' m' v3 hA hMv a1 a2
      have hR1 : m' 108 0 = nI (fR f) := by rw [hA.2 0 (by decide), hR0]
      refine b190_50 hP (fun _ => b190_135 hP ?_) (fun h => absurd (by rw [hR1]; exact Int32.le_refl _) h)
      have hPV2 := PV_rms hN hPV1 (fR f) hR
      generalize hc2 : rms f c1 (fR f) = c2 at *
      have key2 := xloop (N := fN f) (G := fun n => ∀ m2, AgM [116, 117, 118, 119] [] m' m2 → MV m2 (fN f) (cntQn c2 n) → P 137 [.ref 108, .int (nI (nAsk f c1 (fR f))), .int (nI n), v3] [] (0, 0) (LAY, RFu r', m2)) ?_ ?_
      · refine key2 m' AgM.rfl' ?_
        have : cntQn c2 0 = c2 := by unfold cntQn; rw [wr_0, wr_0, wr_0, wr_0]
        rw [this]
        exact hMv
      · intro m2 hA2 hM2
        have hA3 := hA.trans (hA2.mono (W' := [114, 115, 116, 117, 118, 119, 120, 121, 130, 131]) (V' := [15, 22, 23, 24, 25, 28]) (by simp) (by simp))
        have hN1 : m2 108 2 = nI (fN f) := by rw [hA3.2 2 (by decide), hN0]
        refine b190_137 hP (fun _ => b190_245 hP ?_) (fun h => absurd (by rw [hN1]; exact Int32.le_refl _) h)
        have hq : qtr f c = upd (cntQn c2 (fN f)) 120 (c2 120 + 1) := by unfold qtr cntQ; rw [hc1, hc2]
        have h15 : m2 108 15 = c2 120 := by rw [hM2.2.2, cntQn_lo hN (by omega)]
        rw [h15]
        have := k r' (xu2 m2 108 15 (c2 120 + nI 1)) (hA3.us (by decide)) ?_ ?_ ?_
        · unfold qAsk at this
          rw [hc1] at this
          exact this
        · rw [hq]
          obtain ⟨g1, g2, g3⟩ := hM2
          refine ⟨fun p hp => ?_, fun g hg => ?_, ?_⟩
          · rw [xu2_ne (by decide), xu2_ne (by decide), xu2_ne (by decide), xu2_ne (by decide), xu2_ne (by decide), xu2_ne (by decide), xu2_ne (by decide), upd_ne (by omega), upd_ne (by omega), upd_ne (by omega), upd_ne (by omega), upd_ne (by omega), upd_ne (by omega), upd_ne (by omega)]
            exact g1 p hp
          · rw [xu2_ne (by decide), upd_ne (by omega)]; exact g2 g hg
          · rw [xu2_eq, upd_at, upd_at, n1]
        · intro n hn
          rw [xu2_ne (by decide), hA2.1 130 (by simp) (by decide)]
          exact a1 n hn
        · intro n hn
          rw [xu2_ne (by decide), hA2.1 131 (by simp) (by decide)]
          exact a2 n hn
      · intro n hn ih m2 hA2 hM2
        have hN1 : m2 108 2 = nI (fN f) := by rw [hA2.2 2 (by simp), hA.2 2 (by decide), hN0]
        have hn8 : n < 8 := by omega
        have vn : vp_in (nI n) 8 := vpn hn8 (by decide)
        obtain ⟨e1, e2, e3, e4, e5, e6, -⟩ := hM2.1 n hn
        rw [cntQn_lo (by omega) (by omega)] at e1
        rw [cntQn_lo (i := 8 + n) (by omega) (by omega)] at e2
        rw [cntQn_hi (Or.inl rfl) (Nat.le_refl n) hn8] at e3
        rw [cntQn_hi (Or.inr (Or.inl rfl)) (Nat.le_refl n) hn8] at e4
        rw [cntQn_hi (Or.inr (Or.inr (Or.inl rfl))) (Nat.le_refl n) hn8] at e5
        rw [cntQn_hi (Or.inr (Or.inr (Or.inr rfl))) (Nat.le_refl n) hn8] at e6
        have self : ∀ q, upd (m2 q) n (m2 q n) = m2 q := fun q => upd_self rfl
        have z0 : ∀ x : Int32, x + 0 = x := fun x => Int32.add_zero x
        refine b190_137 hP (fun h => absurd h (by rw [hN1]; exact nI_ge hn (by omega))) (fun _ => b190_145 hP vn (fun z => b190_172 hP vn (fun y => b190_212 hP vn vn vn vn vn (b190_239 hP ?_)) (fun y => b190_182 hP vn vn vn vn vn (b190_239 hP ?_))) (fun z => b190_155 hP vn vn (b190_239 hP ?_)))
        · rw [nIc (by omega), e1] at z
          rw [nIc (by omega), e2] at y
          have hp : c2 (8 + n) = 1 := (hPV2.p12 hn z).resolve_right fun q => y (b01_t q)
          rw [nIs, nIc (by omega)]
          refine ih _ (((hA2.u2 (by simp) (by decide)).u2 (by simp) (by decide)).u2 (by simp) (by decide)) ?_
          refine hM2.cnt (s := nI 0) (t := m2 117 n + nI 1) (a := m2 118 n) (b := m2 119 n + nI 1) hN hn ⟨?_, ?_, ?_, ?_, ?_⟩ ?_ ?_ ?_ ?_ ?_ ?_ ?_ ?_
          all_goals try (simp only [xu2_ne, xu2_eq, self, ne_eq, Nat.reduceEqDiff, not_false_eq_true]; done)
          · rw [hp, if_neg i12]; rfl
          · rw [hp, if_pos rfl, e4, n1]
          · rw [hp, b01_f i12, z0, e5]
          · rw [hp, b01_t rfl, e6, n1]
        · rw [nIc (by omega), e1] at z
          rw [nIc (by omega), e2] at y
          have hp : c2 (8 + n) = 2 := b01_1.mp y
          rw [nIs, nIc (by omega)]
          refine ih _ (((hA2.u2 (by simp) (by decide)).u2 (by simp) (by decide)).u2 (by simp) (by decide)) ?_
          refine hM2.cnt (s := m2 116 n + nI 1) (t := nI 0) (a := m2 118 n + nI 1) (b := m2 119 n) hN hn ⟨?_, ?_, ?_, ?_, ?_⟩ ?_ ?_ ?_ ?_ ?_ ?_ ?_ ?_
          all_goals try (simp only [xu2_ne, xu2_eq, self, ne_eq, Nat.reduceEqDiff, not_false_eq_true]; done)
          · rw [hp, if_pos rfl, e3, n1]
          · rw [hp, if_neg i21]; rfl
          · rw [hp, b01_t rfl, e5, n1]
          · rw [hp, b01_f i21, z0, e6]
        · rw [nIc (by omega), e1] at z
          have hp : c2 (8 + n) = 0 := hPV2.p0 hn z
          rw [nIs, nIc (by omega)]
          refine ih _ ((hA2.u2 (by simp) (by decide)).u2 (by simp) (by decide)) ?_
          refine hM2.cnt (s := nI 0) (t := nI 0) (a := m2 118 n) (b := m2 119 n) hN hn ⟨?_, ?_, ?_, ?_, ?_⟩ ?_ ?_ ?_ ?_ ?_ ?_ ?_ ?_
          all_goals try (simp only [xu2_ne, xu2_eq, self, ne_eq, Nat.reduceEqDiff, not_false_eq_true]; done)
          · rw [hp, if_neg i02]; rfl
          · rw [hp, if_neg i01]; rfl
          · rw [hp, b01_f i02, z0, e5]
          · rw [hp, b01_f i01, z0, e6]
    · intro n hn ih r' m' v3 hA hMv a1 a2
      have hR1 : m' 108 0 = nI (fR f) := by rw [hA.2 0 (by decide), hR0]
      have hC' : CfM m' f := hC.ag hA (by decide) (by decide)
      have hch := (hC'.2.2.2.2.1 n hn).1
      have hn4 : n < 4 := by omega
      have vn : vp_in (nI n) 4 := vpn hn4 (by decide)
      have fin : ∀ y v3, y = chE m' n → P 111 [.ref 108, .int (nI (nAsk f c1 n)), .int (nI n), v3] [.int y] (0, 0) (LAY, RFu r', m') := fun y v3 hy => by
        refine b190_111 hP ?_
        rw [hy, hch]
        refine c189 hn hC' (PV_rms hN hPV1 n (by omega)) hMv fun r2 m2 hA2 hM2 g1 g2 g3 => Bk.i ?_
        have er : rmA f c1 n = askR f (rm1 f (rms f c1 n) n) n := rfl
        rw [← er] at g1 g3 ⊢
        have ih' := ih r2 m2 (.int (nI (fH f n))) (hA.trans (hA2.mono (by simp) (by unfold qV; simp))) hM2 (fun j hj => ?_) (fun j hj ab hab => ?_)
        · have en : nAsk f c1 (n + 1) = nAsk f c1 n + (if (rmA f c1 n).isSome = true then 1 else 0) := rfl
          rw [en] at ih'
          refine b190_119 hP (fun z => b190_126 hP (b190_127 hP ?_)) (fun z => b190_122 hP (b190_127 hP ?_))
          · rw [nIs, nI_add]
            rw [if_neg (b01_0.mp z)] at ih'
            exact ih'
          · rw [nIs, nI_add]
            rw [if_pos (Decidable.by_contra fun q => z (b01_f q))] at ih'
            exact ih'
        · rw [g1]
          by_cases e : j = n
          · rw [e, upd_at]
          · rw [upd_ne e]; exact a1 j (by omega)
        · by_cases e : j = n
          · subst e; exact g3 ab hab
          · rw [g2 j e]; exact a2 j (by omega) ab hab
      refine b190_50 hP (fun h => absurd h (by rw [hR1]; exact nI_ge hn (by omega))) (fun _ => b190_58 hP (fun z => b190_70 hP (fun y => b190_105 hP vn (fin _ _ ?_)) (fun y => b190_78 hP (fun x => b190_105 hP vn (fin _ _ ?_)) (fun x => ?_))) (fun z => b190_66 hP (fin _ _ ?_)))
      · unfold chE
        rw [if_neg z, if_neg (fun q => q.1 y), nIc (by omega)]
      · unfold chE
        rw [if_neg z, if_neg (fun q => x q.2), nIc (by omega)]
      · rcases hC'.2.2.2.2.2.1 with q | ⟨s, hs, q⟩
        · exact absurd q y
        · refine b190_86 hP vn (by rw [q]; exact vpn hs (by decide)) (fin _ _ ?_)
          unfold chE
          rw [if_neg z, if_pos ⟨y, x⟩, nIc (by omega)]
      · unfold chE
        rw [if_pos z]
  have key := xloop (N := fN f) (G := fun n => ∀ m' v2, AgM [114, 115] [] mem m' → MV m' (fN f) (goPn f c n) → P 2 [.ref 108, .int (nI n), v2, .null] [] (0, 0) (LAY, RFu r, m')) ?_ ?_
  · refine key mem .null AgM.rfl' ?_
    have : goPn f c 0 = c := by unfold goPn; rw [wr_0, wr_0]
    rw [this]
    exact hM
  · intro m' v2 hA hMv
    have hN1 : m' 108 2 = nI (fN f) := by rw [hA.2 2 (by simp), hN0]
    exact b190_2 hP (fun _ => part2 m' _ _ hA hMv) (fun h => absurd (by rw [hN1]; exact Int32.le_refl _) h)
  · intro n hn ih m' v2 hA hMv
    have hN1 : m' 108 2 = nI (fN f) := by rw [hA.2 2 (by simp), hN0]
    have hC' : CfM m' f := hC.ag hA (by decide) (by decide)
    have hn8 : n < 8 := by omega
    have vn : vp_in (nI n) 8 := vpn hn8 (by decide)
    have h15 : m' 108 15 = nI now := by rw [hMv.2.2, goPn_ne (by omega) (by omega), hw]
    obtain ⟨e1, e2, -⟩ := hMv.1 n hn
    rw [goPn_ne (by omega) (by omega)] at e1
    rw [goPn_ne (i := 8 + n) (by omega) (by omega)] at e2
    have hg := goPn_s (f := f) (c := c) hn8
    rw [hw] at hg
    refine b190_2 hP (fun h => absurd h (by rw [hN1]; exact nI_ge hn (by omega))) (fun _ => b190_10 hP (c186 hC' h15 hw2 hn (Bk.i ?_)))
    generalize fP f (nI now) n = to at hg
    generalize hx : (if to = -1 then (0 : Int32) else if to ≠ c n then 1 else c (8 + n)) = x at hg
    have fin : ∀ m2, AgM [114, 115] [] mem m2 → MV m2 (fN f) (upd (goPn f c n) (8 + n) x) → P 33 [.ref 108, .int (nI n), .int to, .null] [] (0, 0) (LAY, RFu r, m2) := fun m2 b1 b2 => by
      refine b190_33 hP vn ?_
      rw [nIs, nIc (by omega)]
      refine ih _ _ (b1.u2 (by simp) (by decide)) ?_
      rw [hg]
      exact b2.at' hN hn8
    refine b190_15 hP vn (fun z => fin m' hA ?_) (fun z => b190_26 hP vn (fin _ (hA.u2 (by simp) (by decide)) ?_))
    · rw [nIc (by omega), e1] at z
      have := hMv.pose hN hn8 (x := x) (y := m' 115 n) ?_
      · rw [xu2_self rfl] at this
        exact this
      · rw [e2, ← hx, z]
        by_cases q : c n = -1
        · rw [if_pos q, hPV.p0 hn q]
        · rw [if_neg q, if_neg (fun w => w rfl)]
    · rw [nIc (by omega), e1] at z
      rw [nIc (by omega)]
      refine hMv.pose hN hn8 ?_
      rw [← hx]
      by_cases q : to = -1
      · rw [if_pos q, b01_f i02]; rfl
      · rw [if_neg q, if_pos z, b01_f i12]; rfl
end C
