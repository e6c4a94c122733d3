theorem mkN_zero {f : Nat → Bool} : ∀ {n : Nat}, (∀ p, p < n → f p = false) → mkN f n = 0
  | 0, _ => rfl
  | n + 1, h => by rw [mk_f (h n (by omega)), mkN_zero (fun p hp => h p (by omega))]
theorem mkN_ext {f : Nat → Bool} {N : Nat} : ∀ {n : Nat}, N ≤ n → (∀ p, N ≤ p → p < n → f p = false) → mkN f n = mkN f N
  | 0, h, _ => by rw [show N = 0 by omega]
  | n + 1, h, hf => by
    by_cases e : N = n + 1
    · rw [e]
    · rw [mk_f (hf n (by omega) (by omega)), mkN_ext (n := n) (by omega) (fun p h1 h2 => hf p h1 (by omega))]
theorem mkN_none {f : Nat → Bool} (h : nI (mkN f 8) = 0) : ∀ p, p < 8 → f p = false := fun p hp => by
  have h0 : mkN f 8 = 0 := nI_inj (b := 0) h (Nat.lt_trans (mkN8 f) (by decide)) (by decide)
  rw [← mkN_bit f 8 p hp, h0, Nat.zero_testBit]
theorem mk_drop {f : Nat → Bool} {b : Nat} (hb : b < 8) : dropN (mkN f 8) b = mkN (fun p => f p && decide (p ≠ b)) 8 := by
  rw [← mkN_self (dropN_lt (p := b) (mkN8 f))]
  exact mkN_congr 8 (fun p hp => by rw [dropN_bit (mkN8 f) hb hp, mkN_bit f 8 p hp])
theorem cnt_mk {f : Nat → Bool} : cnt (fun p => (mkN f 8).testBit p) 8 = cnt f 8 := cnt_congr 8 (fun p hp => mkN_bit f 8 p hp)
theorem posW_s {c : Nat → Int32} {S T : Nat → Bool} {x : Int32} {b : Nat} (hb : b < 8) (h1 : S b = true) : upd (posW c S T x) (8 + b) x = posW c S (fun p => T p && decide (p ≠ b)) x := by
  funext i
  unfold posW
  by_cases e : i = 8 + b
  · subst e
    rw [upd_at, wr_at hb]
    simp [h1]
  · rw [upd_ne e]
    unfold wr
    by_cases h : 8 ≤ i ∧ i < 8 + 8
    · rw [if_pos h, if_pos h]
      have : decide (i - 8 ≠ b) = true := by simp; omega
      simp only [this, Bool.and_true]
    · rw [if_neg h, if_neg h]
theorem posW_0 {c : Nat → Int32} {S : Nat → Bool} {x : Int32} : posW c S S x = c := by
  funext i
  unfold posW wr
  by_cases h : 8 ≤ i ∧ i < 8 + 8
  · rw [if_pos h]
    cases S (i - 8) <;> simp [show 8 + (i - 8) = i by omega]
  · rw [if_neg h]
theorem lf_stop {w : Nat → Int32} {S : Nat → Bool} {k : Nat} (h : pick w (lf w S k) 8 = none) : ∀ j, lf w S (k + j) = lf w S k
  | 0 => rfl
  | j + 1 => by
    have ih := lf_stop h j
    rw [← Nat.add_assoc, lf_n (by rw [ih]; exact h), ih]
section C
variable {d r : Nat} {mem : Nat → Nat → Int32} {Q : xQr} {s t q p : Nat}
theorem isS_ne (hs : isState s) : 54 ≠ s + 1 ∧ 52 ≠ s + 1 ∧ 53 ≠ s + 1 := by unfold isState at hs; omega
theorem c12 {S : Nat → Bool} {n : Nat} {x : Int32} (hs : isState s) (hn : n < 2147483648)
    (k : ∀ mem', Ag [s + 1] mem mem' → mem' (s + 1) = posW (mem (s + 1)) S (lf (mem 54) S n) x → Q none (LAY, RFu r, mem')) : xCall (d + 2) 12 [.ref 51, .ref s, .int (nI (mkN S 8)), .int (nI n), .int x] (LAY, RFu r, mem) Q := by
  obtain ⟨g1, g2, g3⟩ := isS_ne hs
  refine c_in rfl rfl rfl fun P hP => b12_0 hP hs ?_
  have key := xloop (N := n) (G := fun j => ∀ m' v7, Ag [s + 1] mem m' → m' (s + 1) = posW (mem (s + 1)) S (lf (mem 54) S j) x → P 6 [.ref 51, .ref s, .int (nI (mkN S 8)), .int (nI n), .int x, .int (nI (mkN (lf (mem 54) S j) 8)), .int (nI j), v7] [] (0, 0) (LAY, RFu r, m')) ?_ ?_
  · exact key mem _ Ag.rfl' posW_0.symm
  · intro m' v7 hA hc
    exact b12_6 hP hs (fun _ => b12_54 hP hs (k m' hA hc)) (fun h => absurd (nI_le (Nat.le_refl _) hn) h)
  · intro j hj ih m' v7 hA hc
    refine b12_6 hP hs (fun h => absurd h (nI_ge hj hn)) (fun _ => b12_12 hP hs (fun h => b12_54 hP hs (k m' hA ?_)) (fun h => b12_17 hP hs (c16 (mkN8 _) (Bk.i ?_))))
    · have e := lf_stop (w := mem 54) (S := S) (k := j) (pick_none.mpr (mkN_none h)) (n - j)
      rw [show j + (n - j) = n by omega] at e
      rw [e]
      exact hc
    · rw [hA 54 (fun z => g1 (List.mem_singleton.mp z)), pick_congr (w' := mem 54) (S' := lf (mem 54) S j) (fun p hp => mkN_bit _ 8 p hp) (fun _ _ _ => rfl)]
      cases e : pick (mem 54) (lf (mem 54) S j) 8 with
      | none =>
        refine absurd ?_ h
        rw [mkN_zero (pick_none.mp e)]
        rfl
      | some b =>
        obtain ⟨hb, hb2⟩ := pick_in e
        rw [lf_s e] at ih
        refine b12_23 hP hs (vpx (by show 8 + b < 121; omega) (by decide)) ?_
        change P 6 [.ref 51, .ref s, .int (nI (mkN S 8)), .int (nI n), .int x, .int (nI (mkN (lf (mem 54) S j) 8) &&& ((nI 1 <<< (nI b &&& 31)) ^^^ (-1))), .int (nI j + nI 1), .int (nI b)] [] (0, 0) (LAY, RFu r, xu2 m' (s + 1) (nI 8 + nI b).toNatClampNeg x)
        rw [bit_drop (mkN8 _) hb, mk_drop hb, nIs, nIx (by omega)]
        exact ih _ _ (hA.u2 (by simp)) (by rw [xu2_eq, hc]; exact posW_s hb (lf_sub hb2))
theorem tc_ne (ht : isTown t) (hs : isState s) : ∀ k, k ∈ tCells → t + k ≠ 52 ∧ t + k ≠ 53 ∧ t + k ≠ 54 ∧ t + k ≠ s + 1 ∧ t + k ≠ t + 17 ∧ t + k ≠ t + 20 := by
  have h : ∀ t ∈ [5, 26], ∀ s ∈ [47, 49, 82], ∀ k ∈ tCells, t + k ≠ 52 ∧ t + k ≠ 53 ∧ t + k ≠ 54 ∧ t + k ≠ s + 1 ∧ t + k ≠ t + 17 ∧ t + k ≠ t + 20 := by decide
  exact h t (by unfold isTown at ht; simpa using ht) s (by unfold isState at hs; simpa using hs)
theorem ruT (ht : isTown t) : isRule (t + 15) ∧ isRule (t + 18) := by
  unfold isTown at ht; unfold isRule; omega
theorem c10 {S : Nat → Bool} {n : Nat} (ht : isTown t) (hs : isState s) (hT : TC mem t) (hn : n < 2147483648)
    (k : ∀ mem', Ag [54, t + 20, s + 1] mem mem' → mem' (s + 1) = posW (mem (s + 1)) S (lf (fG (cfC mem t) (mem (s + 1))) S n) 1 → Q none (LAY, RFu r, mem')) : xCall (d + 4) 10 [.ref 51, .ref t, .ref s, .int (nI (mkN S 8)), .int (nI n)] (LAY, RFu r, mem) Q := by
  obtain ⟨-, -, -, -, -, -, -, -, hG⟩ := hT
  have hc : s + 1 ≠ 54 ∧ s + 1 ≠ t + 18 + 2 := by unfold isState at hs; unfold isTown at ht; omega
  refine c_in rfl rfl rfl fun P hP => b10_0 hP ht hs (c15 (ruT ht).2 ht hs (mkN8 _) hG fun m1 hA1 h1 => Bk.v (b10_11 hP ht hs (c12 hs hn fun m2 hA2 h2 => Bk.v (b10_20 hP ht hs (k m2 ?_ ?_)))))
  · exact (hA1.mono (fun c hc => by simp at hc ⊢; omega)).trans (hA2.mono (fun c hc => by simp at hc ⊢; omega))
  · rw [h2, hA1 (s + 1) (by simp; omega)]
    refine posW_congr (fun _ _ => rfl) (fun p hp hS => lf_congr (fun _ _ => rfl) (fun q hq hSq => ?_) n p hp)
    rw [h1]
    unfold wts
    rw [if_pos ⟨hq, by rw [mkN_bit S 8 q hq]; exact hSq⟩]
    rfl
theorem c11 {S : Nat → Bool} {n : Nat} (ht : isTown t) (hs : isState s) (hT : TC mem t) (hn : n < 2147483648)
    (k : ∀ mem', Ag [54, t + 17, s + 1] mem mem' → mem' (s + 1) = posW (mem (s + 1)) S (lf (fA (cfC mem t) (mem (s + 1))) S n) 2 → Q none (LAY, RFu r, mem')) : xCall (d + 4) 11 [.ref 51, .ref t, .ref s, .int (nI (mkN S 8)), .int (nI n)] (LAY, RFu r, mem) Q := by
  obtain ⟨-, -, -, -, -, -, -, hG, -⟩ := hT
  have hc : s + 1 ≠ 54 ∧ s + 1 ≠ t + 15 + 2 := by unfold isState at hs; unfold isTown at ht; omega
  refine c_in rfl rfl rfl fun P hP => b11_0 hP ht hs (c237 (mkN8 _) (Bk.i (b11_4 hP ht hs (fun h => ?_) (fun _ => b11_9 hP ht hs (c15 (ruT ht).1 ht hs (mkN8 _) hG fun m1 hA1 h1 => Bk.v (b11_20 hP ht hs (c12 hs hn fun m2 hA2 h2 => Bk.v (b11_29 hP ht hs (k m2 ?_ ?_)))))))))
  · rw [cnt_mk] at h
    have hl : cnt S 8 ≤ n := (nI_leI (Nat.lt_of_le_of_lt (cnt_le S 8) (by decide)) hn).mp h
    refine b11_20 hP ht hs (c12 hs hn fun m2 hA2 h2 => Bk.v (b11_29 hP ht hs (k m2 ?_ ?_)))
    · exact hA2.mono (fun c hc => by simp at hc ⊢; omega)
    · rw [h2]
      exact posW_congr (fun _ _ => rfl) (fun p hp hS => by rw [lf_empty hl p hp, lf_empty hl p hp])
  · exact (hA1.mono (fun c hc => by simp at hc ⊢; omega)).trans (hA2.mono (fun c hc => by simp at hc ⊢; omega))
  · rw [h2, hA1 (s + 1) (by simp; omega)]
    refine posW_congr (fun _ _ => rfl) (fun p hp hS => lf_congr (fun _ _ => rfl) (fun q hq hSq => ?_) n p hp)
    rw [h1]
    unfold wts
    rw [if_pos ⟨hq, by rw [mkN_bit S 8 q hq]; exact hSq⟩]
    rfl
theorem xu2_same {m : Nat → Nat → Int32} {a i : Nat} {x : Int32} : xu2 m a i x a i = x := by rw [xu2_eq, upd_at]
theorem c68 {a b : Nat} {x : Int32} (hs : isState s) (ha : a < 8) (hb : b < 8) (hab : a ≠ b)
    (k : ∀ mem', Ag [s + 1] mem mem' → mem' (s + 1) = upd (upd (mem (s + 1)) (48 + a) (mem (s + 1) (48 + a) + x)) (48 + b) (mem (s + 1) (48 + b) - x) → Q none (LAY, RFu r, mem')) : xCall (d + 1) 68 [.ref s, .int (nI a), .int (nI b), .int x] (LAY, RFu r, mem) Q := by
  refine c_in rfl rfl rfl fun P hP => b68_0 hP hs (vpx (by omega) (by decide)) (vpx (by omega) (by decide)) (vpx (by omega) (by decide)) (vpx (by omega) (by decide)) ?_
  rw [nIx (by omega), nIx (by omega)]
  refine k _ ((Ag.rfl'.u2 (by simp)).u2 (by simp)) ?_
  rw [xu2_eq, xu2_eq, upd_ne (by omega)]
theorem c69 {a b : Nat} (hs : isState s) (ha : a < 8) (hb : b < 8) (hab : b ≠ a)
    (k : ∀ mem', Ag [s + 1] mem mem' → mem' (s + 1) = giv (mem (s + 1)) b a → Q none (LAY, RFu r, mem')) : xCall (d + 2) 69 [.ref s, .int (nI b), .int (nI a)] (LAY, RFu r, mem) Q := by
  refine c_in rfl rfl rfl fun P hP => b69_0 hP hs (vpx (by omega) (by decide)) (vpx (by omega) (by decide)) (by rw [nI_mul, nI_add]; exact vpx (by omega) (by decide)) (by rw [nI_mul, nI_add]; exact vpx (by omega) (by decide)) ?_
  rw [nIx (by omega), nIx (by omega), nI_mul, nI_add, nIx (by omega)]
  refine c68 hs hb ha hab fun m' hA h => Bk.v (b69_45 hP hs (k m' ((((Ag.rfl'.u2 (by simp)).u2 (by simp)).u2 (by simp)).trans hA) ?_))
  rw [h]
  simp only [xu2_eq]
  unfold giv
  rw [Nat.mul_comm b 8, upd_ne (i := 56 + 8 * b + a) (j := 48 + b) (by omega), upd_ne (i := 56 + 8 * b + a) (j := 48 + a) (by omega), upd_ne (j := 56 + 8 * b + a) (by omega), upd_ne (j := 56 + 8 * b + a) (by omega), upd_ne (j := 48 + b) (by omega), upd_ne (j := 48 + b) (by omega), upd_ne (j := 48 + a) (by omega), upd_ne (j := 48 + a) (by omega)]
  rfl
end C
