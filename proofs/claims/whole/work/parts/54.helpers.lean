/-! what many calls need, of the class and of the reference -/
theorem rng {x : Int32} {a b : Nat} (ha : a < 2147483648) (hb : b < 2147483648) : (nI a ≤ x ∧ x ≤ nI b) ↔ ∃ n, a ≤ n ∧ n ≤ b ∧ x = nI n := by
  constructor
  · intro h
    rw [Int32.le_iff_toInt_le, Int32.le_iff_toInt_le, nI_toInt ha, nI_toInt hb] at h
    exact ⟨x.toInt.toNat, by omega, by omega, i_to (by omega) (by omega)⟩
  · rintro ⟨n, h1, h2, rfl⟩
    exact ⟨nI_le h1 (by omega), nI_le h2 hb⟩
theorem xuA_cpy {mem : Nat → Nat → Int32} {a b n : Nat} (h : ∀ i, n ≤ i → mem a i = mem b i) : va_cpy (mem b) (mem a) 0 0 n = mem b := by
  funext i
  unfold va_cpy
  by_cases q : 0 ≤ i ∧ i < 0 + n
  · rw [if_pos q, show 0 + (i - 0) = i by omega]
  · rw [if_neg q, h i (by omega)]
theorem cpy_lt {f g : Nat → Int32} {n i : Nat} (h : i < n) : va_cpy f g 0 0 n i = f i := by
  unfold va_cpy
  rw [if_pos (by omega), show 0 + (i - 0) = i by omega]
theorem cpy_ge {f g : Nat → Int32} {n i : Nat} (h : n ≤ i) : va_cpy f g 0 0 n i = g i := by
  unfold va_cpy
  rw [if_neg (by omega)]
section C
variable {d r : Nat} {mem : Nat → Nat → Int32} {Q : xQr} {s t q p N R B : Nat} {D : xD} {g : xCf}
theorem c151 {x : Int32} {a b : Nat} (ha : a < 2147483648) (hb : b < 2147483648) (k0 : (∀ n, a ≤ n → n ≤ b → x ≠ nI n) → Q (some (.int (nI 0))) (LAY, RFu r, mem)) (k1 : ∀ n, a ≤ n → n ≤ b → x = nI n → Q (some (.int (nI 1))) (LAY, RFu r, mem)) : xCall (d + 1) 151 [.int x, .int (nI a), .int (nI b)] (LAY, RFu r, mem) Q := by
  refine c_in rfl rfl rfl fun P hP => ?_
  have f : ¬ (nI a ≤ x ∧ x ≤ nI b) → P 14 [.int x, .int (nI a), .int (nI b)] [] (0, 0) (LAY, RFu r, mem) := fun h => b151_14 hP (b151_15 hP (Or.inl rfl) (k0 fun n h1 h2 h3 => h ((rng ha hb).mpr ⟨n, h1, h2, h3⟩)))
  refine b151_0 hP (fun h => f fun q => absurd q.1 (Int32.not_le.mpr h)) (fun h => b151_5 hP (fun h2 => f fun q => absurd q.2 (Int32.not_le.mpr h2)) (fun h2 => b151_10 hP (b151_15 hP (Or.inr rfl) ?_)))
  obtain ⟨n, h1, h2, h3⟩ := (rng ha hb).mp ⟨Int32.not_lt.mp h, Int32.not_lt.mp h2⟩
  exact k1 n h1 h2 h3
theorem c158r {x : Int32} {a b : Nat} (ha : a < 2147483648) (hb : b < 2147483648) (k0 : (∀ n, a ≤ n → n ≤ b → x ≠ nI n) → Q (some (.int (nI 0))) (LAY, RFu r, mem)) (k1 : ∀ n, a ≤ n → n ≤ b → x = nI n → Q (some (.int (nI 1))) (LAY, RFu r, mem)) : xCall (d + 1) 158 [.int x, .int (nI a), .int (nI b)] (LAY, RFu r, mem) Q := by
  refine c158 ?_
  by_cases h : nI a ≤ x ∧ x ≤ nI b
  · rw [b01_t h]
    obtain ⟨n, h1, h2, h3⟩ := (rng ha hb).mp h
    exact k1 n h1 h2 h3
  · rw [b01_f h]
    exact k0 fun n h1 h2 h3 => h ((rng ha hb).mpr ⟨n, h1, h2, h3⟩)
theorem c82 {x : Int32} (ht : isTown t) (hN : mem t 0 = nI R) (hR : R < 100) (k0 : (∀ p, p < R → x ≠ nI p) → Q (some (.int (nI 0))) (LAY, RFu r, mem)) (k1 : ∀ p, p < R → x = nI p → Q (some (.int (nI 1))) (LAY, RFu r, mem)) : xCall (d + 1) 82 [.ref t, .int x] (LAY, RFu r, mem) Q := by
  refine c_in rfl rfl rfl fun P hP => b82_0 hP ht (fun h => b82_16 hP ht (b82_17 hP ht (Or.inl rfl) (k0 fun p hp e => by rw [e] at h; exact nI_pos (by omega) h))) (fun h => b82_4 hP ht (fun h2 => b82_16 hP ht (b82_17 hP ht (Or.inl rfl) (k0 fun p hp e => ?_))) (fun h2 => b82_12 hP ht (b82_17 hP ht (Or.inr rfl) ?_)))
  · rw [e, hN] at h2; exact nI_ge hp (by omega) h2
  · rw [hN] at h2
    have h3 := Int32.not_lt.mp h
    have h4 := Int32.not_le.mp h2
    rw [Int32.le_iff_toInt_le, show (0 : Int32).toInt = 0 by decide] at h3
    rw [Int32.lt_iff_toInt_lt, nI_toInt (by omega)] at h4
    exact k1 x.toInt.toNat (by omega) (i_to (by omega) (by omega))
theorem c83 {x : Int32} (ht : isTown t) (hN : mem t 1 = nI N) (hR : N < 100) (k0 : (∀ p, p < N → x ≠ nI p) → Q (some (.int (nI 0))) (LAY, RFu r, mem)) (k1 : ∀ p, p < N → x = nI p → Q (some (.int (nI 1))) (LAY, RFu r, mem)) : xCall (d + 1) 83 [.ref t, .int x] (LAY, RFu r, mem) Q := by
  refine c_in rfl rfl rfl fun P hP => b83_0 hP ht (fun h => b83_16 hP ht (b83_17 hP ht (Or.inl rfl) (k0 fun p hp e => by rw [e] at h; exact nI_pos (by omega) h))) (fun h => b83_4 hP ht (fun h2 => b83_16 hP ht (b83_17 hP ht (Or.inl rfl) (k0 fun p hp e => ?_))) (fun h2 => b83_12 hP ht (b83_17 hP ht (Or.inr rfl) ?_)))
  · rw [e, hN] at h2; exact nI_ge hp (by omega) h2
  · rw [hN] at h2
    have h3 := Int32.not_lt.mp h
    have h4 := Int32.not_le.mp h2
    rw [Int32.le_iff_toInt_le, show (0 : Int32).toInt = 0 by decide] at h3
    rw [Int32.lt_iff_toInt_lt, nI_toInt (by omega)] at h4
    exact k1 x.toInt.toNat (by omega) (i_to (by omega) (by omega))
theorem below {x : Int32} (hN : N < 100) : (nI 0 ≤ x ∧ x ≤ nI N - nI 1) ↔ ∃ p, p < N ∧ x = nI p := by
  by_cases h : N = 0
  · subst h
    constructor
    · intro h
      have h1 := h.1
      have h2 := h.2
      rw [Int32.le_iff_toInt_le, show (nI 0).toInt = 0 by decide] at h1
      rw [Int32.le_iff_toInt_le, show (nI 0 - nI 1).toInt = -1 by decide] at h2
      omega
    · rintro ⟨p, hp, -⟩; omega
  · rw [nI_sub (by omega), rng (by omega) (by omega)]
    constructor
    · rintro ⟨n, h1, h2, h3⟩; exact ⟨n, by omega, h3⟩
    · rintro ⟨n, h1, h3⟩; exact ⟨n, by omega, by omega, h3⟩
theorem c162 {x : Int32} (hN : mem 108 2 = nI N) (hR : N < 100) (k0 : (∀ p, p < N → x ≠ nI p) → Q (some (.int (nI 0))) (LAY, RFu r, mem)) (k1 : ∀ p, p < N → x = nI p → Q (some (.int (nI 1))) (LAY, RFu r, mem)) : xCall (d + 2) 162 [.ref 108, .int x] (LAY, RFu r, mem) Q := by
  refine c_in rfl rfl rfl fun P hP => b162_0 hP ?_
  rw [hN]
  refine c158 (Bk.i ?_)
  by_cases h : nI 0 ≤ x ∧ x ≤ nI N - nI 1
  · obtain ⟨p, h1, h2⟩ := (below hR).mp h
    rw [b01_t h]
    exact b162_11 hP (Or.inr rfl) (k1 p h1 h2)
  · rw [b01_f h]
    exact b162_11 hP (Or.inl rfl) (k0 fun p h1 h2 => h ((below hR).mpr ⟨p, h1, h2⟩))
theorem c164 {x : Int32} (hN : mem 108 0 = nI R) (hR : R < 100) (k0 : (∀ p, p < R → x ≠ nI p) → Q (some (.int (nI 0))) (LAY, RFu r, mem)) (k1 : ∀ p, p < R → x = nI p → Q (some (.int (nI 1))) (LAY, RFu r, mem)) : xCall (d + 2) 164 [.ref 108, .int x] (LAY, RFu r, mem) Q := by
  refine c_in rfl rfl rfl fun P hP => b164_0 hP ?_
  rw [hN]
  refine c158 (Bk.i ?_)
  by_cases h : nI 0 ≤ x ∧ x ≤ nI R - nI 1
  · obtain ⟨p, h1, h2⟩ := (below hR).mp h
    rw [b01_t h]
    exact b164_11 hP (Or.inr rfl) (k1 p h1 h2)
  · rw [b01_f h]
    exact b164_11 hP (Or.inl rfl) (k0 fun p h1 h2 => h ((below hR).mpr ⟨p, h1, h2⟩))
/-- two unlike ones -/
def TwoP (N : Nat) (x y : Int32) (a b : Nat) : Prop := a < N ∧ b < N ∧ a ≠ b ∧ x = nI a ∧ y = nI b
theorem c152 {x y : Int32} (hN : mem 5 1 = nI N) (hR : N < 100) (k0 : (∀ a b, ¬ TwoP N x y a b) → Q (some (.int (nI 0))) (LAY, RFu r, mem)) (k1 : ∀ a b, TwoP N x y a b → Q (some (.int (nI 1))) (LAY, RFu r, mem)) : xCall (d + 2) 152 [.ref 0, .int x, .int y] (LAY, RFu r, mem) Q := by
  have ht : isTown 5 := Or.inl rfl
  refine c_in rfl rfl rfl fun P hP => ?_
  have f : ∀ v0 v1 v2, (∀ a b, ¬ TwoP N x y a b) → P 31 [v0, v1, v2] [] (0, 0) (LAY, RFu r, mem) := fun _ _ _ h => b152_31 hP (b152_32 hP (Or.inl rfl) (k0 h))
  refine b152_0 hP (c83 ht hN hR (fun h => Bk.i (b152_8 hP (fun _ => f _ _ _ fun a b q => h a q.1 q.2.2.2.1) (fun z => absurd rfl z))) (fun a ha ea => Bk.i (b152_8 hP (fun z => absurd z (by decide)) (fun _ => b152_11 hP (c83 ht hN hR (fun h => Bk.i (b152_19 hP (fun _ => f _ _ _ fun a b q => h b q.2.1 q.2.2.2.2) (fun z => absurd rfl z))) (fun b hb eb => Bk.i (b152_19 hP (fun z => absurd z (by decide)) (fun _ => b152_22 hP (fun z => f _ _ _ fun a' b' q => ?_) (fun z => b152_27 hP (b152_32 hP (Or.inr rfl) (k1 a b ⟨ha, hb, fun q => z (by rw [ea, eb, q]), ea, eb⟩)))))))))))
  obtain ⟨q1, q2, q3, q4, q5⟩ := q
  rw [q4, q5] at z
  exact q3 (nI_inj z (by omega) (by omega))
theorem c163 {x y : Int32} (hN : mem 108 2 = nI N) (hR : N < 100) (k0 : (∀ a b, ¬ TwoP N x y a b) → Q (some (.int (nI 0))) (LAY, RFu r, mem)) (k1 : ∀ a b, TwoP N x y a b → Q (some (.int (nI 1))) (LAY, RFu r, mem)) : xCall (d + 3) 163 [.ref 108, .int x, .int y] (LAY, RFu r, mem) Q := by
  refine c_in rfl rfl rfl fun P hP => ?_
  have f : ∀ v0 v1 v2, (∀ a b, ¬ TwoP N x y a b) → P 25 [v0, v1, v2] [] (0, 0) (LAY, RFu r, mem) := fun _ _ _ h => b163_25 hP (b163_26 hP (Or.inl rfl) (k0 h))
  refine b163_0 hP (c162 hN hR (fun h => Bk.i (b163_5 hP (fun _ => f _ _ _ fun a b q => h a q.1 q.2.2.2.1) (fun z => absurd rfl z))) (fun a ha ea => Bk.i (b163_5 hP (fun z => absurd z (by decide)) (fun _ => b163_8 hP (c162 hN hR (fun h => Bk.i (b163_13 hP (fun _ => f _ _ _ fun a b q => h b q.2.1 q.2.2.2.2) (fun z => absurd rfl z))) (fun b hb eb => Bk.i (b163_13 hP (fun z => absurd z (by decide)) (fun _ => b163_16 hP (fun z => f _ _ _ fun a' b' q => ?_) (fun z => b163_21 hP (b163_26 hP (Or.inr rfl) (k1 a b ⟨ha, hb, fun q => z (by rw [ea, eb, q]), ea, eb⟩)))))))))))
  obtain ⟨q1, q2, q3, q4, q5⟩ := q
  rw [q4, q5] at z
  exact q3 (nI_inj z (by omega) (by omega))
/-- the reference's row -/
theorem c161 {xs : List Int32} {x : Int32} (h : RwM mem xs) (hl : xs.length < 16) (k : ∀ mem', AgM [123] [19] mem mem' → RwM mem' (xs ++ [x]) → Q none (LAY, RFu r, mem')) : xCall (d + 1) 161 [.ref 108, .int x] (LAY, RFu r, mem) Q := by
  obtain ⟨h1, h2⟩ := h
  refine c_in rfl rfl rfl fun P hP => b161_0 hP (by rw [h1]; exact vpn hl (by decide)) ?_
  rw [h1, nIc (by omega), xu2_ne (by decide), h1, nIs]
  refine k _ ((AgM.rfl'.u2 (by simp) (by decide)).us (by simp)) ⟨by rw [xu2_eq, upd_at]; simp, fun k hk => ?_⟩
  rw [xu2_ne (by decide), xu2_eq, getD_snoc (by simpa using hk)]
  by_cases e : k = xs.length
  · rw [if_pos e, e, upd_at]
  · rw [if_neg e, upd_ne e]
    exact h2 k (by simp at hk; omega)
/-- an empty row -/
theorem RwM_nil {m : Nat → Nat → Int32} (h : m 108 19 = nI 0) : RwM m [] := ⟨h, fun k hk => absurd hk (Nat.not_lt_zero k)⟩
/-! the class: quarters tried out -/
theorem OKc_qtr {f : xCf} {c : Nat → Int32} (hN : fN f ≤ 8) (h : OKc (fN f) c) : OKc (fN f) (qtr f c) := fun p h1 h2 => by
  have := (qtr_hi (f := f) (c := c) h1 h2 hN).2 1 (by decide) (by decide)
  exact this.trans (h p h1 h2)
theorem OKc_qtrs {f : xCf} {c : Nat → Int32} (hN : fN f ≤ 8) (h : OKc (fN f) c) : ∀ n, OKc (fN f) (qtrs f c n)
  | 0 => h
  | n + 1 => OKc_qtr hN (OKc_qtrs hN h n)
/-- a quarter of the class's, by what its town comes to -/
theorem c8g {now : Nat} (ht : isTown t) (hs : isState s) (hT : TC mem t) (hE : CfE (cfC mem t) g) (hO : OKc (fN g) (mem (s + 1))) (hw : mem (s + 1) 120 = nI now) (hw2 : now < 1073741824)
    (k : ∀ mem', Ag [52, 53, 54, t + 17, t + 20, s + 1] mem mem' → mem' (s + 1) = qtr g (mem (s + 1)) →
      (∀ n, n < fR g → mem' 52 n = oA (rmA g (goP g (mem (s + 1))) n) ∧ mem' 53 n = oB (rmA g (goP g (mem (s + 1))) n)) → Q (some (.int (nI (qAsk g (mem (s + 1)))))) (LAY, RFu r, mem')) : xCall (d + 5) 8 [.ref 51, .ref t, .ref s] (LAY, RFu r, mem) Q := by
  have hN : tN mem t = fN g := hE.2.1
  have hR : tR mem t = fR g := hE.1
  have e := qtr_congr hE hw hw2
  refine c8 ht hs hT (by rw [hN]; exact hO) hw hw2 fun mem' h1 h2 h3 => ?_
  have := k mem' h1 (by rw [h2, e.1]) (fun n hn => by
    have := h3 n (by omega)
    rw [goP_congr hE hw hw2, rmA_congr hE (by show n < tR mem t; omega)] at this
    exact this)
  rw [e.2]
  exact this
theorem TC_mv {m m' : Nat → Nat → Int32} (ht : isTown t) (hA : Ag [50, 52, 53, 54, t + 17, t + 20] m m') : (∀ k, k ∈ tCells → m' (t + k) = m (t + k)) ∧ m' 48 = m 48 := by
  have h48 : isState 49 := by unfold isState; omega
  refine ⟨fun k hk => hA (t + k) ?_, hA 48 (by unfold isTown at ht; simp; omega)⟩
  have := tc_ne ht h48 k hk
  simp
  omega
theorem c60f (h1 : ∀ i, 121 ≤ i → mem 48 i = 0) (h2 : ∀ i, 121 ≤ i → mem 50 i = 0) (k : ∀ mem', Ag [50] mem mem' → mem' 50 = mem 48 → Q none (LAY, RFu r, mem')) : xCall (d + 1) 60 [.ref 49, .ref 47] (LAY, RFu r, mem) Q := by
  refine c60 (Or.inr (Or.inl rfl)) (Or.inl rfl) (k _ (Ag.rfl'.uA (by simp)) ?_)
  show xuA mem 50 (va_cpy (mem 48) (mem 50) 0 0 121) 50 = _
  rw [xuA_eq]
  exact xuA_cpy (fun i hi => by rw [h1 i hi, h2 i hi])
theorem c153 {n now : Nat} (ht : isTown t) (hT : TC mem t) (hE : CfE (cfC mem t) g) (hO : OKc (fN g) (mem 48)) (hw : mem 48 120 = nI now) (hw2 : now + n < 1073741824) (h1 : ∀ i, 121 ≤ i → mem 48 i = 0) (h2 : ∀ i, 121 ≤ i → mem 50 i = 0)
    (k : ∀ mem', Ag [50, 52, 53, 54, t + 17, t + 20] mem mem' → mem' 50 = qtrs g (mem 48) n → (∀ j, n = j + 1 → ∀ x, x < fR g → mem' 52 x = oA (rmA g (goP g (qtrs g (mem 48) j)) x) ∧ mem' 53 x = oB (rmA g (goP g (qtrs g (mem 48) j)) x)) → Q none (LAY, RFu r, mem')) : xCall (d + 6) 153 [.ref 0, .ref t, .int (nI n)] (LAY, RFu r, mem) Q := by
  have hN : fN g ≤ 8 := by rw [← hE.2.1]; exact hE.2.2.1
  refine c_in rfl rfl rfl fun P hP => b153_0 hP ht (c60f h1 h2 fun m0 a0 e0 => Bk.v (b153_11 hP ht ?_))
  have key := xloop (N := n) (G := fun j => ∀ m', Ag [50, 52, 53, 54, t + 17, t + 20] mem m' → m' 50 = qtrs g (mem 48) j → (∀ i, j = i + 1 → ∀ x, x < fR g → m' 52 x = oA (rmA g (goP g (qtrs g (mem 48) i)) x) ∧ m' 53 x = oB (rmA g (goP g (qtrs g (mem 48) i)) x)) → P 13 [.ref 0, .ref t, .int (nI n), .int (nI j)] [] (0, 0) (LAY, RFu r, m')) ?_ ?_
  · exact key m0 (a0.mono (by simp)) e0 (fun i hi => by omega)
  · intro m' hA e1 e2
    exact b153_13 hP ht (fun _ => b153_37 hP ht (k m' hA e1 e2)) (fun z => absurd (Int32.le_refl _) z)
  · intro j hj ih m' hA e1 e2
    obtain ⟨f1, f2⟩ := TC_mv ht hA
    refine b153_13 hP ht (fun z => absurd z (nI_ge hj (by omega))) (fun _ => b153_18 hP ht (c8g (s := 49) ht (Or.inr (Or.inl rfl)) (TC_eq f1 hT) (by rw [cf_eq f1]; exact hE) (by rw [e1]; exact OKc_qtrs hN hO j) (now := now + j) (by rw [e1]; exact qtrs_120 hN hw j) (by omega) fun m2 a2 g1 g2 => Bk.i (b153_30 hP ht ?_)))
    rw [nIs]
    refine ih m2 (hA.trans (a2.mono (by simp))) (by rw [show (50 : Nat) = 49 + 1 from rfl, g1, e1]; rfl) (fun i hi x hx => ?_)
    rw [show i = j by omega, ← e1]
    exact g2 x hx
theorem c154 {n : Nat} (hp : p < 8) (h : mem 50 = qtrs g (mem 48) n) (k : Q (some (.int (stD g (mem 48) n p))) (LAY, RFu r, mem)) : xCall (d + 1) 154 [.ref 0, .int (nI p)] (LAY, RFu r, mem) Q := by
  refine c_in rfl rfl rfl fun P hP => b154_0 hP (vpx (by omega) (by decide)) (vpx (by omega) (by decide)) ?_
  rw [nIx (by omega), h]
  exact k
theorem c155 {n : Nat} (hN : fN g ≤ 8) (h : mem 50 = qtrs g (mem 48) n) (k : Q (some (.int (stA g (mem 48) n))) (LAY, RFu r, mem)) : xCall (d + 2) 155 [.ref 0] (LAY, RFu r, mem) Q := by
  refine c_in rfl rfl rfl fun P hP => b155_0 hP (c64 (Or.inr (Or.inl rfl)) (Bk.i (b155_7 hP (c64 (Or.inl rfl) (Bk.i (b155_14 hP ?_))))))
  show Q (some (.int (sumI (fun p => mem 50 (40 + p)) 8 - sumI (fun p => mem 48 (40 + p)) 8))) _
  rw [h, stA_8 hN]
  exact k
theorem RuL_cp {m m' : Nat → Nat → Int32} {q q1 : Nat} {xs : List Int32} (h : RuL m q1 xs) (e1 : m' q 2 = m q1 2) (e2 : ∀ k, k < 40 → m' (q + 1) k = m (q1 + 1) k) : RuL m' q xs := by
  obtain ⟨h1, h2, h3, h4⟩ := h
  exact ⟨h1, by rw [e1, h2], fun k hk => by rw [e2 k (by omega), h3 k hk], h4⟩
theorem c39 {q1 : Nat} {xs : List Int32} (hq : isRule q) (hq1 : isRule q1) (hne : q ≠ q1) (h : RuL mem q1 xs) (k : ∀ mem', Ag [q, q + 1] mem mem' → RuL mem' q xs → Q none (LAY, RFu r, mem')) : xCall (d + 1) 39 [.ref q, .ref q1] (LAY, RFu r, mem) Q := by
  have hx : q ≠ q + 1 ∧ q1 ≠ q + 1 ∧ q1 + 1 ≠ q := by unfold isRule at hq hq1; omega
  refine c_in rfl rfl rfl fun P hP => b39_0 hP hq hq1 (k _ ((Ag.rfl'.uA (by simp)).u2 (by simp)) (RuL_cp h ?_ fun i hi => ?_))
  · rw [xu2_eq, upd_at, xuA_ne hx.2.1]
  · rw [xu2_ne hx.1.symm, xuA_eq, cpy_lt hi]
theorem c37 {x : Nat} (hq : isRule q) (hx : x < 1000) (k : ∀ mem', Ag [q, q + 1] mem mem' → RuL mem' q [nI (1000 + x)] → Q none (LAY, RFu r, mem')) : xCall (d + 2) 37 [.ref q, .int (nI x)] (LAY, RFu r, mem) Q := by
  refine c_in rfl rfl rfl fun P hP => b37_0 hP hq ?_
  rw [nI_add]
  refine c38 (n := 0) hq (by rw [xu2_eq, upd_at]) (by decide) (Bk.v (b37_14 hP hq (k _ (((Ag.rfl'.u2 (by simp)).u2 (by simp)).u2 (by simp)) ⟨by simp, by rw [xu2_eq, upd_at]; rfl, fun i hi => ?_, fun env => ⟨env (nI x), rst_let (env := env) (st := []) hx⟩⟩)))
  have : i = 0 := by simpa using hi
  subst this
  rw [xu2_ne (by omega), xu2_eq, upd_at]
  rfl
def trC : List Nat := [26, 27, 28, 29, 31, 32, 33, 34, 35, 36, 37, 38, 39, 40, 41, 42, 44, 45]
set_option maxRecDepth 10000 in
theorem c88 (hT : TwD mem 5 D) (hD : DOk D) (k : ∀ mem', Ag trC mem mem' → TwD mem' 26 D → Q none (LAY, RFu r, mem')) : xCall (d + 2) 88 [.ref 26, .ref 5] (LAY, RFu r, mem) Q := by
  have ht : isTown 26 := Or.inr rfl
  have ht1 : isTown 5 := Or.inl rfl
  obtain ⟨h1, h2, h3, h4, h5, h6, h7, h8⟩ := hT
  obtain ⟨d1, d2, d3, d4, d5, d6⟩ := hD
  refine c_in rfl rfl rfl fun P hP => b88_0 hP ht ht1 ?_
  simp only [xuA_ne, xuA_eq, xu2_ne, xu2_eq, ne_eq, Nat.reduceAdd, Nat.reduceEqDiff, not_false_eq_true, upd_ne]
  generalize hm0 : xuA _ _ _ = m0
  have a0 : Ag trC mem m0 := by
    rw [← hm0]
    exact (((((((Ag.rfl'.u2 (by decide)).u2 (by decide)).uA (by decide)).uA (by decide)).uA (by decide)).uA (by decide)).uA (by decide))
  have e26 : m0 26 0 = nI (dR D) ∧ m0 26 1 = nI (dN D) := by
    rw [← hm0]
    simp only [xuA_ne, xuA_eq, xu2_ne, xu2_eq, ne_eq, Nat.reduceAdd, Nat.reduceEqDiff, not_false_eq_true]
    exact ⟨by rw [upd_ne (by decide), upd_at, h1], by rw [upd_at, h2]⟩
  have e27 : m0 27 = va_cpy (mem 6) (mem 27) 0 0 4 ∧ m0 28 = va_cpy (mem 7) (mem 28) 0 0 8 ∧ m0 29 = va_cpy (mem 8) (mem 29) 0 0 8 ∧ m0 39 = va_cpy (mem 18) (mem 39) 0 0 8 ∧ m0 40 = va_cpy (mem 19) (mem 40) 0 0 8 := by
    rw [← hm0]
    simp only [xuA_ne, xuA_eq, xu2_ne, xu2_eq, ne_eq, Nat.reduceAdd, Nat.reduceEqDiff, not_false_eq_true, and_self]
  have key := xloop (N := dN D) (G := fun n => ∀ m', Ag [31, 32, 33, 34, 35, 36, 37, 38] m0 m' → (∀ p, p < n → ∀ k, k < dL D p → m' (31 + p) k = dP D p k) → P 92 [.ref 26, .ref 5, .int (nI n)] [] (0, 0) (LAY, RFu r, m')) ?_ ?_
  · exact key m0 Ag.rfl' (fun p hp => absurd hp (Nat.not_lt_zero p))
  · intro m' hA hp
    have hN : m' 26 1 = nI (dN D) := by rw [hA 26 (by decide)]; exact e26.2
    have hAm : Ag trC mem m' := a0.trans (hA.mono (by decide))
    have r20 : RuL m' 20 (dA D) := by
      unfold RuL
      rw [hAm 20 (by decide), hAm (20 + 1) (by decide)]
      exact h7
    refine b88_92 hP ht ht1 (fun _ => b88_125 hP ht ht1 (c39 (by unfold isRule; omega) (by unfold isRule; omega) (by decide) r20 fun m1 a1 r1 => Bk.v (b88_136 hP ht ht1 ?_))) (fun z => absurd (by rw [hN]; exact Int32.le_refl _) z)
    have r23 : RuL m1 23 (dG D) := by
      unfold RuL
      rw [a1 23 (by decide), a1 (23 + 1) (by decide), hAm 23 (by decide), hAm (23 + 1) (by decide)]
      exact h8
    refine c39 (by unfold isRule; omega) (by unfold isRule; omega) (by decide) r23 fun m2 a2 r2 => Bk.v (b88_147 hP ht ht1 (k m2 ((hAm.trans (a1.mono (by decide))).trans (a2.mono (by decide))) ?_))
    have e : ∀ c, c ∈ [26, 27, 28, 29, 31, 32, 33, 34, 35, 36, 37, 38, 39, 40] → m2 c = m' c := fun c hc => by
      have : ∀ c ∈ [26, 27, 28, 29, 31, 32, 33, 34, 35, 36, 37, 38, 39, 40], c ∉ [44, 44 + 1] ∧ c ∉ [41, 41 + 1] := by decide
      rw [a2 c (this c hc).1, a1 c (this c hc).2]
    have e0 : ∀ c, c ∈ [26, 27, 28, 29, 39, 40] → m2 c = m0 c := fun c hc => by
      have : ∀ c ∈ [26, 27, 28, 29, 39, 40], c ∈ [26, 27, 28, 29, 31, 32, 33, 34, 35, 36, 37, 38, 39, 40] ∧ c ∉ [31, 32, 33, 34, 35, 36, 37, 38] := by decide
      rw [e c (this c hc).1, hA c (this c hc).2]
    obtain ⟨g1, g2, g3, g4, g5⟩ := e27
    refine ⟨by rw [e0 26 (by decide)]; exact e26.1, by rw [e0 26 (by decide)]; exact e26.2, fun x hx => ?_, fun p hp8 => ⟨?_, ?_⟩, fun p hp8 => ⟨?_, ?_⟩, fun p hpn k hk => ?_, ?_, r2⟩
    · show m2 27 x = _
      rw [e0 27 (by decide), g1, cpy_lt hx]; exact h3 x hx
    · show m2 28 p = _
      rw [e0 28 (by decide), g2, cpy_lt (by omega)]; exact (h4 p hp8).1
    · show m2 29 p = _
      rw [e0 29 (by decide), g3, cpy_lt (by omega)]; exact (h4 p hp8).2
    · show m2 39 p = _
      rw [e0 39 (by decide), g4, cpy_lt hp8]; exact (h5 p hp8).1
    · show m2 40 p = _
      rw [e0 40 (by decide), g5, cpy_lt hp8]; exact (h5 p hp8).2
    · show m2 (26 + 5 + p) k = _
      have : ∀ p < 8, 26 + 5 + p ∈ [26, 27, 28, 29, 31, 32, 33, 34, 35, 36, 37, 38, 39, 40] := by decide
      rw [e _ (this p (by omega))]
      exact hp p hpn k hk
    · show RuL m2 41 _
      unfold RuL
      rw [a2 41 (by decide), a2 (41 + 1) (by decide)]
      exact r1
  · intro n hn ih m' hA hp
    have hN : m' 26 1 = nI (dN D) := by rw [hA 26 (by decide)]; exact e26.2
    refine b88_92 hP ht ht1 (fun z => absurd z (by rw [hN]; exact nI_ge hn (by omega))) (fun _ => b88_100 hP ht ht1 (vpn (by omega) (by decide)) (vpn (by omega) (by decide)) ?_)
    rw [nIs, nIc (by omega)]
    have hin : ∀ p < 8, 26 + 5 + p ∈ [31, 32, 33, 34, 35, 36, 37, 38] := by decide
    have hne : ∀ p < 8, ∀ n < 8, p ≠ n → 31 + p ≠ 26 + 5 + n := by decide
    refine ih _ (hA.uA (hin n (by omega))) (fun p hp2 k hk => ?_)
    by_cases e : p = n
    · subst e
      rw [show 31 + p = 26 + 5 + p by omega, xuA_eq, cpy_lt (by have := (d5 p).1; omega)]
      have h10 : ∀ p < 8, 5 + 5 + p ∉ [31, 32, 33, 34, 35, 36, 37, 38] ∧ 5 + 5 + p ∉ trC := by decide
      rw [hA _ (h10 p (by omega)).1, a0 _ (h10 p (by omega)).2]
      exact h6 p hn k hk
    · rw [xuA_ne (by omega)]
      exact hp p (by omega) k hk
/-! the reference: quarters tried out -/
theorem c212 {a b : Nat} {c : Nat → Int32} (hM : MV mem N c) (hN : N ≤ 8) (hPV : PV N c) (ha : a < N) (hb : b < N) (k : Q (some (.int (b01 (c (8 + a) = 2 ∧ c (8 + b) = 2 ∧ c a = c b)))) (LAY, RFu r, mem)) : xCall (d + 1) 212 [.ref 108, .int (nI a), .int (nI b)] (LAY, RFu r, mem) Q := by
  obtain ⟨a1, a2, -⟩ := hM.1 a ha
  obtain ⟨b1, b2, -⟩ := hM.1 b hb
  have va : vp_in (nI a) 8 := vpn (by omega) (by decide)
  have vb : vp_in (nI b) 8 := vpn (by omega) (by decide)
  refine c_in rfl rfl rfl fun P hP => ?_
  have f : ∀ v0 v1 v2, ¬ (c (8 + a) = 2 ∧ c (8 + b) = 2 ∧ c a = c b) → P 49 [v0, v1, v2] [] (0, 0) (LAY, RFu r, mem) := fun _ _ _ h => b212_49 hP (b212_50 hP (Or.inl rfl) (by rw [b01_f h] at k; exact k))
  refine b212_0 hP va (fun z => f _ _ _ fun q => ?_) (fun z => b212_10 hP va vb (fun z2 => f _ _ _ fun q => z2 ?_) (fun z2 => b212_25 hP va (fun z3 => f _ _ _ fun q => z3 ?_) (fun z3 => b212_35 hP vb (fun z4 => f _ _ _ fun q => z4 ?_) (fun z4 => b212_45 hP (b212_50 hP (Or.inr rfl) ?_)))))
  · rw [nIc (by omega), a1] at z
    rw [hPV.p0 ha z] at q
    exact i02 q.1
  · rw [nIc (by omega), nIc (by omega), a1, b1]; exact q.2.2
  · rw [nIc (by omega), a2]; exact b01_t q.1
  · rw [nIc (by omega), b2]; exact b01_t q.2.1
  · rw [nIc (by omega), nIc (by omega), a1, b1] at z2
    rw [nIc (by omega), a2] at z3
    rw [nIc (by omega), b2] at z4
    rw [b01_t ⟨b01_1.mp z3, b01_1.mp z4, z2⟩] at k
    exact k
def mqW : List Nat := [114, 115, 116, 117, 118, 119, 120, 121, 130, 131]
def mqV : List Nat := [15, 22, 23, 24, 25, 28]
/-- n quarters of the reference's, in a loop of whatever method -/
theorem MVq {m m' : Nat → Nat → Int32} {g : xCf} (h : CfM m g) (hA : AgM (mqW ++ [133, 136, 137, 140]) mqV m m') : CfM m' g := h.ag hA (by decide) (by decide)
theorem c222 {n now q0 : Nat} {c : Nat → Int32} (hq : q0 = 136 ∨ q0 = 137) (hC : CfM mem g) (hPV : PV (fN g) c) (hM : MV mem (fN g) c) (hw : c 120 = nI now) (hw2 : now + n < 1073741800)
    (k : ∀ r' mem', AgM [114, 115, 116, 117, 118, 119, 120, 121, 130, 131, 133, q0] mqV mem mem' → MV mem' (fN g) c → (∀ p, p < fN g → mem' q0 p = stD g c n p) → Q (some (.int (stA g c n))) (LAY, RFu r', mem')) :
    xCall (d + 74) 222 [.ref 108, .int (nI n), .ref q0] (LAY, RFu r, mem) Q := by
  have hN := hC.2.2.2.1
  have hN0 := hC.2.2.1
  have hL : LAY[q0]? = some (13, 8) := by rcases hq with h | h <;> rw [h] <;> rfl
  have h8 : q0 ≠ 108 := by omega
  have hx : ∀ x, x ∈ mvC → x ∉ [133, q0] := fun x hx => by
    have : ∀ x ∈ mvC, x < 122 := by decide
    have := this x hx
    simp; omega
  refine c_in rfl rfl rfl fun P hP => b222_0 hP hL (c191 (k := 0) (np := 121) (Or.inr (Or.inl rfl)) rfl (by decide) (by decide) hN hM fun m0 a0 l0 _ => Bk.v (b222_9 hP hL ?_))
  have a0' : AgM [133, q0] [] mem m0 := a0.mono (by simp) (by simp)
  have key := xloop (N := fN g) (G := fun j => ∀ m', AgM [133, q0] [] mem m' → m' 133 = m0 133 → (∀ p, p < j → m' q0 p = -(c (40 + p))) → P 11 [.ref 108, .int (nI n), .ref q0, .int (nI j), .null] [] (0, 0) (LAY, RFu r, m')) ?_ ?_
  · exact key m0 a0' rfl (fun p hp => absurd hp (Nat.not_lt_zero p))
  · intro m' hA e133 hq1
    have hN1 : m' 108 2 = nI (fN g) := by rw [hA.2 2 (by simp), hN0]
    refine b222_11 hP hL (fun _ => b222_35 hP hL ?_) (fun z => absurd (by rw [hN1]; exact Int32.le_refl _) z)
    have hA' : AgM [114, 115, 116, 117, 118, 119, 120, 121, 130, 131, 133, q0] mqV mem m' := hA.mono (by simp) (by simp)
    have key2 := xloop (N := n) (G := fun j => ∀ r' m2, AgM [114, 115, 116, 117, 118, 119, 120, 121, 130, 131, 133, q0] mqV mem m2 → m2 133 = m0 133 → (∀ p, p < fN g → m2 q0 p = -(c (40 + p))) → MV m2 (fN g) (qtrs g c j) → P 37 [.ref 108, .int (nI n), .ref q0, .int (nI j), .null] [] (0, 0) (LAY, RFu r', m2)) ?_ ?_
    · exact key2 r m' hA' e133 hq1 (hM.ag hA hx (by simp))
    · intro r' m2 hA2 e133' hq2 hM2
      refine b222_37 hP hL (fun _ => b222_53 hP hL ?_) (fun z => absurd (Int32.le_refl _) z)
      have key3 := xloop (N := fN g) (G := fun j => ∀ m3, AgM [q0] [] m2 m3 → (∀ p, p < j → m3 q0 p = stD g c n p) → (∀ p, j ≤ p → p < fN g → m3 q0 p = -(c (40 + p))) → P 58 [.ref 108, .int (nI n), .ref q0, .int (sumI (stD g c n) j), .int (nI j)] [] (0, 0) (LAY, RFu r', m3)) ?_ ?_
      · exact key3 m2 AgM.rfl' (fun p hp => absurd hp (Nat.not_lt_zero p)) (fun p _ hp => hq2 p hp)
      · intro m3 hA3 s1 _
        have hN2 : m3 108 2 = nI (fN g) := by rw [hA3.2 2 (by simp), hA2.2 2 (by decide), hN0]
        refine b222_58 hP hL (fun _ => b222_94 hP hL ?_) (fun z => absurd (by rw [hN2]; exact Int32.le_refl _) z)
        have e3 : m3 133 = m0 133 := by rw [hA3.1 133 (by simp; omega) (by decide), e133']
        refine c192 (k := 0) (np := 121) (Or.inr (Or.inl rfl)) rfl (by decide) (by decide) hN hN2 (by rw [e3]; exact l0) fun m4 hA4 hM4 => Bk.v (b222_103 hP hL (k r' m4 ?_ hM4 fun p hp => ?_))
        · exact (hA2.trans (hA3.mono (by simp) (by simp))).trans (hA4.mono (by unfold mvC; simp) (by unfold mqV; simp))
        · rw [hA4.1 q0 (by unfold mvC; simp; omega) h8]
          exact s1 p hp
      · intro j hj ih m3 hA3 s1 s2
        have hN2 : m3 108 2 = nI (fN g) := by rw [hA3.2 2 (by simp), hA2.2 2 (by decide), hN0]
        have vj : vp_in (nI j) 8 := vpn (by omega) (by decide)
        refine b222_58 hP hL (fun z => absurd z (by rw [hN2]; exact nI_ge hj (by omega))) (fun _ => b222_67 hP hL vj vj vj vj ?_)
        rw [nIs, nIc (by omega), xu2_eq, upd_at, s2 j (Nat.le_refl j) hj, hA3.1 119 (by simp; omega) (by decide), (hM2.1 j hj).2.2.2.2.2.1]
        have e : -(c (40 + j)) + qtrs g c n (40 + j) = stD g c n j := by
          unfold stD
          rw [Int32.add_comm, ← Int32.sub_eq_add_neg]
        rw [e]
        refine ih _ (hA3.u2 (by simp) h8) (fun p hp => ?_) (fun p h1 h2 => ?_)
        · rw [xu2_eq]
          by_cases q : p = j
          · rw [q, upd_at]
          · rw [upd_ne q]; exact s1 p (by omega)
        · rw [xu2_eq, upd_ne (by omega)]; exact s2 p (by omega) h2
    · intro j hj ih r' m2 hA2 e133' hq2 hM2
      refine b222_37 hP hL (fun z => absurd z (nI_ge hj (by omega))) (fun _ => b222_42 hP hL ?_)
      have hC2 : CfM m2 g := hC.ag hA2 (fun x hx => by
        have : ∀ x ∈ cfCells, x < 114 ∨ (124 < x ∧ x < 130) := by decide
        have := this x hx
        simp; omega) (by decide)
      refine c190 (now := now + j) hC2 (qtrs_PV hN hC.2.1 hPV j) hM2 (qtrs_120 hN hw j) (by omega) fun r3 m3 hA3 hM3 _ _ => Bk.i (b222_46 hP hL ?_)
      rw [nIs]
      refine ih r3 m3 (hA2.trans (hA3.mono (by simp) (by unfold mqV; simp))) (by rw [hA3.1 133 (by simp) (by decide), e133']) (fun p hp => ?_) hM3
      rw [hA3.1 q0 (by simp; omega) h8]
      exact hq2 p hp
  · intro j hj ih m' hA e133 hq1
    have hN1 : m' 108 2 = nI (fN g) := by rw [hA.2 2 (by simp), hN0]
    have vj : vp_in (nI j) 8 := vpn (by omega) (by decide)
    refine b222_11 hP hL (fun z => absurd z (by rw [hN1]; exact nI_ge hj (by omega))) (fun _ => b222_19 hP hL vj vj ?_)
    have e119 : m' 119 j = c (40 + j) := by rw [hA.1 119 (by simp; omega) (by decide)]; exact (hM.1 j hj).2.2.2.2.2.1
    rw [nIs, nIc (by omega), e119]
    refine ih _ (hA.u2 (by simp) h8) (by rw [xu2_ne (by omega)]; exact e133) (fun p hp => ?_)
    rw [xu2_eq]
    by_cases e : p = j
    · rw [e, upd_at]
    · rw [upd_ne e]; exact hq1 p (by omega)
end C
/-! a call that changes nothing but what is told -/
def scW : List Nat := [3, 4, 144, 22, 25, 26, 27, 28, 29, 30, 31, 32, 33, 34, 35, 36, 37, 38, 39, 40, 41, 42, 43, 44, 45, 46, 50, 52, 53, 54, 79, 80, 81, 83, 85, 86, 87, 88, 89, 90, 92, 93, 106, 107]
def smW : List Nat := [114, 115, 116, 117, 118, 119, 120, 121, 123, 130, 131, 133, 134, 135, 136, 137, 140]
def smV : List Nat := [15, 19, 20, 22, 23, 24, 25, 28]
theorem RR_ro {mem m1 m2 : Nat → Nat → Int32} {N R B : Nat} {xs : List Int32} (h : RRc mem N R B) (hA : Ag scW mem m1) (hZ : RZe m1) (hrow : RwC m1 xs) (hA2 : AgM smW smV m1 m2) (hMV : MV m2 N (mem 48)) (hrow2 : RwM m2 xs) : RRc m2 N R B := by
  obtain ⟨h1, h2, h3, h4, h5, h6, h7, h8⟩ := h
  have e48 : m2 48 = mem 48 := by rw [hA2.1 48 (by decide) (by decide), hA 48 (by decide)]
  refine ⟨(h1.mv (hA.eqs (by decide) (by decide))).mv (hA2.eqs (by decide) (by decide)), ⟨xs, hrow.mv (hA2.eqs (by decide) (by decide)), hrow2⟩, (h3.mv (hA.eqs (by decide) (by decide))).mv (hA2.eqs (by decide) (by decide)), ⟨by rw [e48]; exact hMV, by rw [e48]; exact h4.2⟩, (h5.mv (hA.eqs (by decide) (by decide))).mv (hA2.eqs (by decide) (by decide)), (h6.mv (hA.eqs (by decide) (by decide))).mv (hA2.eqs (by decide) (by decide)), (h7.mv (hA.eqs (by decide) (by decide))).mv (hA2.eqs (by decide) (by decide)), hZ.mv fun c hc => Or.inl (hA2.1 c ?_ ?_)⟩
  · have : ∀ c ∈ zC, c ∉ smW := by decide
    exact this c hc
  · have : ∀ c ∈ zC, c ≠ 108 := by decide
    exact this c hc
