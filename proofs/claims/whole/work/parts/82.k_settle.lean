/-! settle -/
/-- the first of the least, of the greatest -/
def amin (f : Nat → Int32) : Nat → Nat
  | 0 => 0
  | n + 1 => if f (amin f n) ≤ f n then amin f n else n
def amax (f : Nat → Int32) : Nat → Nat
  | 0 => 0
  | n + 1 => if f n ≤ f (amax f n) then amax f n else n
section P
variable {f : Nat → Int32} {n N p : Nat}
theorem amin_lt : ∀ {n : Nat}, amin f n < n ∨ n = 0
  | 0 => Or.inr rfl
  | n + 1 => by
    refine Or.inl ?_
    unfold amin
    split
    · rcases amin_lt (n := n) with h | h
      · omega
      · subst h; exact Nat.zero_lt_one
    · omega
theorem amax_lt : ∀ {n : Nat}, amax f n < n ∨ n = 0
  | 0 => Or.inr rfl
  | n + 1 => by
    refine Or.inl ?_
    unfold amax
    split
    · rcases amax_lt (n := n) with h | h
      · omega
      · subst h; exact Nat.zero_lt_one
    · omega
theorem amin_le : ∀ {n p : Nat}, p < n → f (amin f n) ≤ f p
  | n + 1, p, h => by
    unfold amin
    by_cases q : f (amin f n) ≤ f n
    · rw [if_pos q]
      by_cases e : p = n
      · rw [e]; exact q
      · exact amin_le (by omega)
    · rw [if_neg q]
      by_cases e : p = n
      · rw [e]; exact Int32.le_refl _
      · exact Int32.le_trans (Int32.le_of_lt (Int32.not_le.mp q)) (amin_le (by omega))
theorem amax_le : ∀ {n p : Nat}, p < n → f p ≤ f (amax f n)
  | n + 1, p, h => by
    unfold amax
    by_cases q : f n ≤ f (amax f n)
    · rw [if_pos q]
      by_cases e : p = n
      · rw [e]; exact q
      · exact amax_le (by omega)
    · rw [if_neg q]
      by_cases e : p = n
      · rw [e]; exact Int32.le_refl _
      · exact Int32.le_trans (amax_le (by omega)) (Int32.le_of_lt (Int32.not_le.mp q))
theorem amin_ext (h : ∀ p, N ≤ p → p < n → f (amin f N) ≤ f p) (hn : N ≤ n) : amin f n = amin f N := by
  obtain ⟨k, rfl⟩ := Nat.exists_eq_add_of_le hn
  clear hn
  induction k with
  | zero => rfl
  | succ k ih =>
    have e := ih (fun p h1 h2 => h p h1 (by omega))
    show (if f (amin f (N + k)) ≤ f (N + k) then amin f (N + k) else N + k) = _
    rw [e, if_pos (h (N + k) (by omega) (by omega))]
theorem amax_ext (h : ∀ p, N ≤ p → p < n → f p ≤ f (amax f N)) (hn : N ≤ n) : amax f n = amax f N := by
  obtain ⟨k, rfl⟩ := Nat.exists_eq_add_of_le hn
  clear hn
  induction k with
  | zero => rfl
  | succ k ih =>
    have e := ih (fun p h1 h2 => h p h1 (by omega))
    show (if f (N + k) ≤ f (amax f (N + k)) then amax f (N + k) else N + k) = _
    rw [e, if_pos (h (N + k) (by omega) (by omega))]
theorem sumZ_le {g : Nat → Int} : ∀ {n : Nat}, (∀ p, p < n → g p ≤ 0) → sumZ g n ≤ 0 ∧ (sumZ g n = 0 → ∀ p, p < n → g p = 0)
  | 0, _ => ⟨Int.le_refl _, fun _ p hp => absurd hp (Nat.not_lt_zero p)⟩
  | n + 1, h => by
    obtain ⟨h1, h2⟩ := sumZ_le (n := n) (fun p hp => h p (by omega))
    have hn := h n (by omega)
    refine ⟨show sumZ g n + g n ≤ 0 by omega, fun e p hp => ?_⟩
    have e : sumZ g n + g n = 0 := e
    by_cases q : p = n
    · rw [q]; omega
    · exact h2 (by omega) p (by omega)
theorem sumZ_ge {g : Nat → Int} : ∀ {n : Nat}, (∀ p, p < n → 0 ≤ g p) → 0 ≤ sumZ g n ∧ (sumZ g n = 0 → ∀ p, p < n → g p = 0)
  | 0, _ => ⟨Int.le_refl _, fun _ p hp => absurd hp (Nat.not_lt_zero p)⟩
  | n + 1, h => by
    obtain ⟨h1, h2⟩ := sumZ_ge (n := n) (fun p hp => h p (by omega))
    have hn := h n (by omega)
    refine ⟨show 0 ≤ sumZ g n + g n by omega, fun e p hp => ?_⟩
    have e : sumZ g n + g n = 0 := e
    by_cases q : p = n
    · rw [q]; omega
    · exact h2 (by omega) p (by omega)
theorem i32_0 {x : Int32} (h : x.toInt = 0) : x = 0 := Int32.toInt_inj.mp h
theorem lt0 {x : Int32} : x < 0 ↔ x.toInt < 0 := by rw [Int32.lt_iff_toInt_lt, show (0 : Int32).toInt = 0 by decide]
theorem gt0 {x : Int32} : 0 < x ↔ 0 < x.toInt := by rw [Int32.lt_iff_toInt_lt, show (0 : Int32).toInt = 0 by decide]
end P
/-- who owes most, to whom most is owed, how much goes -/
def crF (c : Nat → Int32) : Nat → Int32 := fun p => c (48 + p)
def pyN (x y : Int32) : Int32 := if y < -x then y else -x
def pyC (c : Nat → Int32) (a b : Nat) : Nat → Int32 := upd (upd c (48 + a) (c (48 + a) + pyN (c (48 + a)) (c (48 + b)))) (48 + b) (c (48 + b) - pyN (c (48 + a)) (c (48 + b)))
def nzC (c : Nat → Int32) : Nat := cnt (fun p => decide (c (48 + p) ≠ 0)) 8
def stl (N : Nat) : Nat → (Nat → Int32) × Nat × Int32 → (Nat → Int32) × Nat × Int32
  | 0, s => s
  | k + 1, s => if s.1 (48 + amin (crF s.1) N) < 0 then stl N k (pyC s.1 (amin (crF s.1) N) (amax (crF s.1) N), s.2.1 + 1, s.2.2 + pyN (s.1 (48 + amin (crF s.1) N)) (s.1 (48 + amax (crF s.1) N))) else s
section P
variable {c : Nat → Int32} {N R B a b p : Nat}
theorem cnt_sub {S T : Nat → Bool} (h : ∀ p, S p = true → T p = true) : ∀ n, cnt S n ≤ cnt T n
  | 0 => Nat.le_refl _
  | n + 1 => by
    have := cnt_sub h n
    show cnt S n + (if S n = true then 1 else 0) ≤ cnt T n + (if T n = true then 1 else 0)
    by_cases q : S n = true
    · rw [if_pos q, if_pos (h n q)]; omega
    · rw [if_neg q]; split <;> omega
theorem pyC_c (ha : a < 8) (hb : b < 8) (hab : a ≠ b) (hp : p < 8) : pyC c a b (48 + p) = if p = a then c (48 + a) + pyN (c (48 + a)) (c (48 + b)) else if p = b then c (48 + b) - pyN (c (48 + a)) (c (48 + b)) else c (48 + p) := by
  unfold pyC
  by_cases q : p = a
  · subst q; rw [if_pos rfl, upd_ne (by omega), upd_at]
  · rw [if_neg q]
    by_cases q2 : p = b
    · subst q2; rw [if_pos rfl, upd_at]
    · rw [if_neg q2, upd_ne (by omega), upd_ne (by omega)]
theorem pyC_o (ha : a < 8) (hb : b < 8) {i : Nat} (h : i < 48 ∨ 56 ≤ i) : pyC c a b i = c i := by unfold pyC; rw [upd_ne (by omega), upd_ne (by omega)]
theorem pyN_eq {x y : Int32} {B : Nat} (hB : B < 2147483648) (hx : x.toInt < 0) (hx2 : -(B : Int) ≤ x.toInt) (hy : 0 < y.toInt) : ∃ m : Nat, 0 < m ∧ (pyN x y).toInt = m ∧ (m : Int) ≤ y.toInt ∧ (m : Int) ≤ -x.toInt ∧ ((m : Int) = y.toInt ∨ (m : Int) = -x.toInt) := by
  have e : (-x).toInt = -x.toInt := by
    rw [Int32.toInt_neg]
    exact Int.bmod_eq_of_le (by omega) (by omega)
  unfold pyN
  by_cases h : y < -x
  · rw [if_pos h]
    rw [Int32.lt_iff_toInt_lt, e] at h
    exact ⟨y.toInt.toNat, by omega, by omega, by omega, by omega, by omega⟩
  · rw [if_neg h, e]
    rw [Int32.lt_iff_toInt_lt, e] at h
    exact ⟨(-x.toInt).toNat, by omega, by omega, by omega, by omega, by omega⟩
/-- one owes: then to another is owed -/
theorem st_hi (hS : SV N R B c) (h : c (48 + amin (crF c) N) < 0) : 0 < N ∧ amin (crF c) N < N ∧ amax (crF c) N < N ∧ amin (crF c) N ≠ amax (crF c) N ∧ 0 < (c (48 + amax (crF c) N)).toInt ∧ amin (crF c) 8 = amin (crF c) N ∧ amax (crF c) 8 = amax (crF c) N := by
  have hN8 := hS.2.1
  have hz : ∀ p, N ≤ p → p < 8 → crF c p = 0 := fun p h1 h2 => (hS.2.2.2.1 p h1 h2).2 6 (by decide) (by decide)
  have hCB := hS.2.2.2.2.2.2.2.2
  have hN : 0 < N := by
    rcases amin_lt (f := crF c) (n := N) with q | q
    · omega
    · subst q
      have : c (48 + 0) = 0 := hz 0 (by omega) (by omega)
      rw [show amin (crF c) 0 = 0 from rfl, this] at h
      exact absurd h (by decide)
  have l1 := (amin_lt (f := crF c) (n := N)).resolve_right (by omega)
  have l2 := (amax_lt (f := crF c) (n := N)).resolve_right (by omega)
  have hpos : 0 < (c (48 + amax (crF c) N)).toInt := by
    refine Int.not_le.mp fun q => ?_
    have hle : ∀ p, p < 8 → (c (48 + p)).toInt ≤ 0 := fun p hp => by
      by_cases w : p < N
      · have := amax_le (f := crF c) w
        rw [Int32.le_iff_toInt_le] at this
        exact Int.le_trans this q
      · have := hz p (by omega) hp
        rw [show c (48 + p) = 0 from this]; decide
    have := (sumZ_le hle).2 hCB.2 (amin (crF c) N) (by omega)
    rw [lt0] at h
    omega
  refine ⟨hN, l1, l2, fun e => ?_, hpos, amin_ext (fun p h1 h2 => ?_) (by omega), amax_ext (fun p h1 h2 => ?_) (by omega)⟩
  · rw [← e] at hpos
    rw [lt0] at h
    omega
  · rw [hz p h1 h2]
    exact Int32.le_of_lt h
  · rw [hz p h1 h2]
    exact Int32.le_of_lt (gt0.mpr hpos)
/-- nobody owes: then nothing is owed -/
theorem st_no (hS : SV N R B c) (h : ¬ c (48 + amin (crF c) N) < 0) : ∀ p, p < 8 → c (48 + p) = 0 := by
  have hN8 := hS.2.1
  have hz : ∀ p, N ≤ p → p < 8 → crF c p = 0 := fun p h1 h2 => (hS.2.2.2.1 p h1 h2).2 6 (by decide) (by decide)
  have hCB := hS.2.2.2.2.2.2.2.2
  have hge : ∀ p, p < 8 → 0 ≤ (c (48 + p)).toInt := fun p hp => by
    by_cases w : p < N
    · have := amin_le (f := crF c) w
      rw [Int32.le_iff_toInt_le] at this
      rw [lt0] at h
      exact Int.le_trans (Int.not_lt.mp h) this
    · have := hz p (by omega) hp
      rw [show c (48 + p) = 0 from this]; decide
  exact fun p hp => i32_0 ((sumZ_ge hge).2 hCB.2 p hp)
theorem st_pay (hS : SV N R B c) (hB : B < 1000000000) (h : c (48 + amin (crF c) N) < 0) : SV N R B (pyC c (amin (crF c) N) (amax (crF c) N)) ∧ nzC (pyC c (amin (crF c) N) (amax (crF c) N)) < nzC c := by
  obtain ⟨h1, l1, l2, hab, hpos, -, -⟩ := st_hi hS h
  have hN8 := hS.2.1
  have hCB := hS.2.2.2.2.2.2.2.2
  generalize ea : amin (crF c) N = a at *
  generalize eb : amax (crF c) N = b at *
  have hneg : (c (48 + a)).toInt < 0 := lt0.mp h
  have ca := hCB.1 a (by omega)
  have cb := hCB.1 b (by omega)
  obtain ⟨m, m0, m1, m2, m3, m4⟩ := pyN_eq (B := B) (by omega) hneg ca.1 hpos
  have ec : ∀ p, p < 8 → pyC c a b (48 + p) = if p = a then c (48 + a) + pyN (c (48 + a)) (c (48 + b)) else if p = b then c (48 + b) - pyN (c (48 + a)) (c (48 + b)) else c (48 + p) := fun p hp => pyC_c (by omega) (by omega) hab hp
  have ta : (c (48 + a) + pyN (c (48 + a)) (c (48 + b))).toInt = (c (48 + a)).toInt + m := by rw [← m1]; exact toInt_add' (by omega) (by omega)
  have tb : (c (48 + b) - pyN (c (48 + a)) (c (48 + b))).toInt = (c (48 + b)).toInt - m := by rw [← m1]; exact toInt_sub' (by omega) (by omega)
  refine ⟨SV_cred hS (fun i hi => pyC_o (by omega) (by omega) hi) (fun p h1 h2 => ?_) ⟨fun p hp => ?_, (hCB.pay (by omega) (by omega) hab m1 (by omega) ec).2⟩ (Nat.le_refl _), ?_⟩
  · rw [ec p h2, if_neg (by omega), if_neg (by omega)]
    exact (hS.2.2.2.1 p h1 h2).2 6 (by decide) (by decide)
  · rw [ec p hp]
    have := hCB.1 p hp
    split
    · rw [ta]; omega
    · split
      · rw [tb]; omega
      · exact this
  · have ha0 : c (48 + a) ≠ 0 := fun q => by rw [q] at hneg; exact absurd hneg (by decide)
    have hb0 : c (48 + b) ≠ 0 := fun q => by rw [q] at hpos; exact absurd hpos (by decide)
    have key : ∀ x, x < 8 → c (48 + x) ≠ 0 → pyC c a b (48 + x) = 0 → (∀ p, p < 8 → c (48 + p) = 0 → pyC c a b (48 + p) = 0) → nzC (pyC c a b) < nzC c := fun x hx hx0 hx1 hs => by
      have e := cnt_rm (S := fun p => decide (c (48 + p) ≠ 0)) (n := 8) hx (decide_eq_true hx0)
      unfold nzC
      rw [← e]
      refine Nat.lt_succ_of_le ?_
      rw [cnt_congr (g := fun p => decide (p < 8) && decide (pyC c a b (48 + p) ≠ 0)) 8 (fun p hp => by rw [decide_eq_true hp, Bool.true_and])]
      refine cnt_sub (fun p hp => ?_) 8
      simp only [Bool.and_eq_true, decide_eq_true_eq] at hp ⊢
      refine ⟨fun q => hp.2 (hs p hp.1 q), fun q => hp.2 (by rw [q]; exact hx1)⟩
    have hs : ∀ p, p < 8 → c (48 + p) = 0 → pyC c a b (48 + p) = 0 := fun p hp q => by
      rw [ec p hp, if_neg (fun e => ha0 (by rw [← e]; exact q)), if_neg (fun e => hb0 (by rw [← e]; exact q))]
      exact q
    rcases m4 with q | q
    · refine key b (by omega) hb0 ?_ hs
      rw [ec b (by omega), if_neg (fun e => hab e.symm), if_pos rfl]
      exact i32_0 (by rw [tb]; omega)
    · refine key a (by omega) ha0 ?_ hs
      rw [ec a (by omega), if_pos rfl]
      exact i32_0 (by rw [ta]; omega)
theorem nz_le : nzC c ≤ 8 := cnt_le _ 8
theorem st_in (hS : SV N R B c) (h : c (48 + amin (crF c) N) < 0) : 0 < nzC c := by
  obtain ⟨h1, l1, -⟩ := st_hi hS h
  have hN8 := hS.2.1
  refine Nat.pos_of_ne_zero fun q => ?_
  have := cnt_zero q (amin (crF c) N) (by omega)
  rw [decide_eq_false_iff_not] at this
  refine this fun e => ?_
  rw [e] at h
  exact absurd h (by decide)
end P
section K
variable {N R B r d n T : Nat} {mem m' m0 m1 m2 m3 m4 m5 : Nat → Nat → Int32} {Q : xQr} {g : xCf} {D : xD}
theorem c6 {s p : Nat} (hs : isState s) (hp : p < 8) (k : Q (some (.int (mem (s + 1) (48 + p)))) (LAY, RFu r, mem)) : xCall (d + 1) 6 [.ref s, .int (nI p)] (LAY, RFu r, mem) Q := by
  refine c_in rfl rfl rfl fun P hP => b6_0 hP hs (vpx (by omega) (by decide)) ?_
  rw [nIx (by omega)]
  exact k
theorem nI0 : (0 : Int32) = nI 0 := by decide
theorem c5 (hS : SV N R B (mem 48)) (hB : B < 1000000000) (k : ∀ m', Ag [48, 3, 4] mem m' → m' 48 = (stl N 8 (mem 48, 0, nI 0)).1 → RwC m' [(stl N 8 (mem 48, 0, nI 0)).2.2] → Q (some (.int (nI (stl N 8 (mem 48, 0, nI 0)).2.1))) (LAY, RFu r, m')) : xCall (d + 2) 5 [.ref 78, .ref 47, .ref 3] (LAY, RFu r, mem) Q := by
  refine c_in rfl rfl rfl fun P hP => b5_0 hP (Or.inl rfl) ?_
  have fin : ∀ cn x v5 v6 v7 v8 m', Ag [48] mem m' → (m' 48, cn, x) = stl N 8 (mem 48, 0, nI 0) → P 137 [.ref 78, .ref 47, .ref 3, .int (nI cn), .int x, v5, v6, v7, v8] [] (0, 0) (LAY, RFu r, m') := fun cn x v5 v6 v7 v8 m' a e => by
    rw [← e] at k
    refine b5_137 hP (s := 47) (Or.inl rfl) (c31 fun m1 a1 w1 => Bk.v (b5_141 hP (s := 47) (Or.inl rfl) (c32 w1 (by decide) fun m2 a2 w2 => Bk.v (b5_147 hP (s := 47) (Or.inl rfl) (k m2 ?_ ?_ w2)))))
    · exact ((a.mono (by simp)).trans (a1.mono (by simp))).trans (a2.mono (by simp))
    · rw [a2 48 (by simp), a1 48 (by simp)]
  have main : ∀ t j cn x v6 v7 v8 m', SV N R B (m' 48) → j + t = 8 → nzC (m' 48) ≤ t → Ag [48] mem m' → stl N t (m' 48, cn, x) = stl N 8 (mem 48, 0, nI 0) → P 8 [.ref 78, .ref 47, .ref 3, .int (nI cn), .int x, .int (nI j), v6, v7, v8] [] (0, 0) (LAY, RFu r, m') := by
    intro t
    induction t with
    | zero =>
      intro j cn x v6 v7 v8 m' hS' hj hn a e
      exact b5_8 hP (Or.inl rfl) (fun _ => fin cn x _ _ _ _ m' a e) (fun z => absurd (nI_le (by omega) (by omega)) z)
    | succ t ih =>
      intro j cn x v6 v7 v8 m' hS' hj hn a e
      refine b5_8 hP (Or.inl rfl) (fun z => absurd z (nI_ge (by omega) (by decide))) (fun _ => b5_15 hP (Or.inl rfl) ?_)
      have key := xloop (N := 7) (G := fun i => P 24 [.ref 78, .ref 47, .ref 3, .int (nI cn), .int x, .int (nI j), .int (nI (amin (crF (m' 48)) (i + 1))), .int (nI (amax (crF (m' 48)) (i + 1))), .int (nI (i + 1))] [] (0, 0) (LAY, RFu r, m')) ?_ ?_
      · have e1 : amin (crF (m' 48)) (0 + 1) = 0 := by
          show (if _ then _ else _) = _
          split <;> rfl
        have e2 : amax (crF (m' 48)) (0 + 1) = 0 := by
          show (if _ then _ else _) = _
          split <;> rfl
        rw [e1, e2] at key
        exact key
      · have la := (amin_lt (f := crF (m' 48)) (n := 8)).resolve_right (by decide)
        have lb := (amax_lt (f := crF (m' 48)) (n := 8)).resolve_right (by decide)
        refine b5_24 hP (Or.inl rfl) (fun _ => b5_85 hP (Or.inl rfl) (c6 (Or.inl rfl) la (Bk.i (b5_91 hP (Or.inl rfl) (c6 (Or.inl rfl) lb (Bk.i ?_)))))) (fun z => absurd (Int32.le_refl _) z)
        by_cases hneg : m' 48 (48 + amin (crF (m' 48)) N) < 0
        · obtain ⟨h1, l1, l2, hab, hpos, ea, eb⟩ := st_hi hS' hneg
          obtain ⟨s1, s2⟩ := st_pay hS' hB hneg
          have hCB := hS'.2.2.2.2.2.2.2.2
          rw [ea] at la ⊢
          rw [eb] at lb ⊢
          obtain ⟨m, m0, m1, -⟩ := pyN_eq (B := B) (by omega) (lt0.mp hneg) (hCB.1 _ la).1 hpos
          have e' : stl N (t + 1) (m' 48, cn, x) = stl N t (pyC (m' 48) (amin (crF (m' 48)) N) (amax (crF (m' 48)) N), cn + 1, x + pyN (m' 48 (48 + amin (crF (m' 48)) N)) (m' 48 (48 + amax (crF (m' 48)) N))) := if_pos hneg
          rw [e'] at e
          refine b5_98 hP (Or.inl rfl) (fun _ => b5_111 hP (Or.inl rfl) (c68 (Or.inl rfl) la lb hab fun m2 a2 e2 => Bk.v (b5_121 hP (Or.inl rfl) ?_))) (fun z => absurd (gt0.mpr (by show 0 < (pyN _ _).toInt; rw [m1]; omega)) z)
          have e2 : m2 48 = pyC (m' 48) (amin (crF (m' 48)) N) (amax (crF (m' 48)) N) := e2
          rw [nIs, nIs]
          refine ih (j + 1) (cn + 1) _ _ _ _ m2 (by rw [e2]; exact s1) (by omega) (by rw [e2]; omega) (a.trans a2) ?_
          rw [e2]
          exact e
        · have h0 := st_no hS' hneg
          have e' : stl N (t + 1) (m' 48, cn, x) = (m' 48, cn, x) := if_neg hneg
          rw [e'] at e
          rw [show m' (47 + 1) (48 + amin (crF (m' 48)) 8) = 0 from h0 _ la, show m' (47 + 1) (48 + amax (crF (m' 48)) 8) = 0 from h0 _ lb]
          exact b5_98 hP (Or.inl rfl) (fun z => absurd z (by decide)) (fun _ => b5_108 hP (s := 47) (Or.inl rfl) (fin cn x _ _ _ _ m' a e))
      · intro i hi ih'
        have la := (amin_lt (f := crF (m' 48)) (n := i + 1)).resolve_right (by omega)
        have lb := (amax_lt (f := crF (m' 48)) (n := i + 1)).resolve_right (by omega)
        refine b5_24 hP (Or.inl rfl) (fun z => absurd z (nI_ge (by omega) (by decide))) (fun _ => b5_31 hP (Or.inl rfl) (c6 (Or.inl rfl) (by omega) (Bk.i (b5_37 hP (Or.inl rfl) (c6 (Or.inl rfl) (by omega) (Bk.i ?_))))))
        have t2 : ∀ A, A = amin (crF (m' 48)) (i + 1 + 1) → P 53 [.ref 78, .ref 47, .ref 3, .int (nI cn), .int x, .int (nI j), .int (nI (amin (crF (m' 48)) (i + 1))), .int (nI (amax (crF (m' 48)) (i + 1))), .int (nI (i + 1))] [.int (nI A)] (0, 0) (LAY, RFu r, m') := fun A eA => by
          refine b5_53 hP (Or.inl rfl) (c6 (Or.inl rfl) (by omega) (Bk.i (b5_61 hP (Or.inl rfl) (c6 (Or.inl rfl) (by omega) (Bk.i ?_)))))
          have t3 : ∀ A2, A2 = amax (crF (m' 48)) (i + 1 + 1) → P 77 [.ref 78, .ref 47, .ref 3, .int (nI cn), .int x, .int (nI j), .int (nI A), .int (nI (amax (crF (m' 48)) (i + 1))), .int (nI (i + 1))] [.int (nI A2)] (0, 0) (LAY, RFu r, m') := fun A2 eA2 => by
            refine b5_77 hP (Or.inl rfl) ?_
            rw [nIs, eA, eA2]
            exact ih'
          refine b5_67 hP (Or.inl rfl) (fun z => b5_75 hP (Or.inl rfl) (t3 _ ?_)) (fun z => b5_70 hP (Or.inl rfl) (t3 _ ?_))
          · exact (if_pos z).symm
          · exact (if_neg z).symm
        refine b5_43 hP (Or.inl rfl) (fun z => b5_51 hP (Or.inl rfl) (t2 _ ?_)) (fun z => b5_46 hP (Or.inl rfl) (t2 _ ?_))
        · exact (if_pos z).symm
        · exact (if_neg z).symm
  exact main 8 0 0 (nI 0) _ _ _ mem hS (by decide) nz_le Ag.rfl' rfl
theorem tk_settle : Tk 124 210 [] := by
  intro N R B r mem Q h hB K
  obtain ⟨hR, hR4, hN, hN8, hR2, hN2⟩ := (RTo_parts h.2.2.1).1
  obtain ⟨hM, hS⟩ := h.2.2.2.1
  refine c_in rfl rfl rfl fun P hP => b124_0 hP (c27 (Bk.v (b124_7 hP (c5 (N := N) (R := R) (B := B) (by rw [xu2_ne (by decide)]; exact hS) (by omega) fun m1 a1 e1 w1 => Bk.i (b124_22 hP (K _ _ ?_))))))
  rw [xu2_ne (by decide)] at e1 w1 ⊢
  have g1 : Ag [48, 3, 4, 55] mem m1 := ((Ag.rfl' (W := [48, 3, 4, 55])).u2 (by simp)).trans (a1.mono (by simp))
  intro Q2 k2
  refine c_in rfl rfl rfl fun P hP => b210_0 hP ?_
  have g1M := Ag.M g1 (by decide)
  have srch : ∀ cn x v4 v5 v6 m' c, MV m' N c → m' 108 2 = nI N → (∀ v6, P 81 [.ref 108, .int (nI cn), .int x, .int (nI 1), .int (nI (amin (crF c) N)), .int (nI (amax (crF c) N)), v6] [] (0, 0) (LAY, RFu r, m')) → P 11 [.ref 108, .int (nI cn), .int x, .int (nI 1), v4, v5, v6] [] (0, 0) (LAY, RFu r, m') := fun cn x v4 v5 v6 m' c hM' hN' kk => by
    refine b210_11 hP (fun z => absurd z (by decide)) (fun _ => b210_15 hP ?_)
    have key := xloop (N := N) (G := fun i => P 24 [.ref 108, .int (nI cn), .int x, .int (nI 1), .int (nI (amin (crF c) i)), .int (nI (amax (crF c) i)), .int (nI i)] [] (0, 0) (LAY, RFu r, m')) ?_ ?_
    · exact key
    · exact b210_24 hP (fun _ => kk _) (fun z => absurd (by rw [hN']; exact Int32.le_refl _) z)
    · intro i hi ih
      have la : amin (crF c) i < N := by
        rcases amin_lt (f := crF c) (n := i) with q | q
        · omega
        · rw [q]; show 0 < N; omega
      have lb : amax (crF c) i < N := by
        rcases amax_lt (f := crF c) (n := i) with q | q
        · omega
        · rw [q]; show 0 < N; omega
      have e120 : ∀ p, p < N → m' 120 p = c (48 + p) := fun p hp => (hM'.1 p hp).2.2.2.2.2.2
      have vi : ∀ {p}, p < N → vp_in (nI p) 8 := fun hp => vpn (by omega) (by decide)
      have t2 : ∀ A, A = amin (crF c) (i + 1) → P 54 [.ref 108, .int (nI cn), .int x, .int (nI 1), .int (nI A), .int (nI (amax (crF c) i)), .int (nI i)] [] (0, 0) (LAY, RFu r, m') := fun A eA => by
        have t3 : ∀ A2, A2 = amax (crF c) (i + 1) → P 75 [.ref 108, .int (nI cn), .int x, .int (nI 1), .int (nI A), .int (nI A2), .int (nI i)] [] (0, 0) (LAY, RFu r, m') := fun A2 eA2 => by
          refine b210_75 hP ?_
          rw [nIs, eA, eA2]
          exact ih
        refine b210_54 hP (vi hi) (vi lb) (fun z => t3 _ ?_) (fun z => b210_71 hP (t3 _ ?_)) <;> rw [nIc (by omega), nIc (by omega), e120 _ hi, e120 _ lb] at z
        · exact (if_pos z).symm
        · exact (if_neg z).symm
      refine b210_24 hP (fun z => absurd z (by rw [hN']; exact nI_ge hi (by omega))) (fun _ => b210_33 hP (vi hi) (vi la) (fun z => t2 _ ?_) (fun z => b210_50 hP (t2 _ ?_))) <;> rw [nIc (by omega), nIc (by omega), e120 _ hi, e120 _ la] at z
      · exact (if_pos z).symm
      · exact (if_neg z).symm
  have stop : ∀ cn x v3 v4 v5 v6 m' c, SV N R B c → MV m' N c → (∀ i, i < 48 ∨ 56 ≤ i → c i = mem 48 i) → AgM [120] [20] m1 m' → (c, cn, x) = stl N 8 (mem 48, 0, nI 0) → P 166 [.ref 108, .int (nI cn), .int x, v3, v4, v5, v6] [] (0, 0) (LAY, RFu r, m') := fun cn x v3 v4 v5 v6 m' c hS' hM' ec a e => by
    rw [← e] at e1 w1 k2
    have a37 : AgM [] [37, 19] m' (xu2 (xu2 m' 108 37 (nI 0)) 108 19 (nI 0)) := (AgM.rfl'.us (by simp)).us (by simp)
    refine b210_166 hP (c161 (xs := []) (RwM_nil (by rw [xu2_eq, upd_at])) (by decide) fun m2 a2 w2 => Bk.v (b210_181 hP (k2 _ _ (kEnd (N := N) (R := R) ?_ hB))))
    have g2 : AgM [120, 123] [20, 37, 19] m1 m2 := ((a.mono (by simp) (by simp)).trans (a37.mono (by simp) (by simp))).trans (a2.mono (by simp) (by simp))
    have e48 : m2 48 = c := by rw [g2.1 48 (by decide) (by decide)]; exact e1
    have e55 : m2 55 = upd (mem 55) 0 (nI 0) := by rw [g2.1 55 (by decide) (by decide), a1 55 (by decide), xu2_eq]
    obtain ⟨u, fr, -, -, u3, u4, -, -⟩ := h.2.2.2.2.1
    refine ⟨kTx h g1 g2 (by decide), ⟨[x], w1.mv (g2.eqs (by decide) (by decide)), w2⟩, kTo h g1 g2 (by decide), ⟨?_, by rw [e48]; exact hS'⟩, RUn_0 (fr := fr) (by rw [e55, upd_at]) (by rw [e55, upd_ne (by decide), u3]) u4 ?_, kOl h g1 g2 (by decide), kKe h g1 g2 (by decide), h.2.2.2.2.2.2.2.mv fun y hy => ?_⟩
    · rw [e48]
      exact (hM'.ag a37 (by simp) (by decide)).ag a2 (by decide) (by decide)
    · rw [a2.2 37 (by decide), xu2_eq, upd_ne (by decide), xu2_eq, upd_at]
    · by_cases q : y = 48
      · refine Or.inr fun i hi => ?_
        rw [q, e48, ec i (by omega)]
        exact hS.2.2.2.2.2.1 i hi
      · refine Or.inl ?_
        have : ∀ y ∈ zC, y = 48 ∨ (y ∉ [48, 3, 4, 55] ∧ y ≠ 108 ∧ y ∉ [120, 123]) := by decide
        obtain ⟨y1, y2, y3⟩ := (this y hy).resolve_left q
        rw [g2.1 y y3 y2, g1 y y1]
  have main : ∀ t cn x v4 v5 v6 m' c, SV N R B c → MV m' N c → nzC c ≤ t → (∀ i, i < 48 ∨ 56 ≤ i → c i = mem 48 i) → AgM [120] [20] m1 m' → stl N t (c, cn, x) = stl N 8 (mem 48, 0, nI 0) → P 11 [.ref 108, .int (nI cn), .int x, .int (nI 1), v4, v5, v6] [] (0, 0) (LAY, RFu r, m') := by
    intro t
    induction t with
    | zero =>
      intro cn x v4 v5 v6 m' c hS' hM' hn ec a e
      have hN' : m' 108 2 = nI N := by rw [a.2 2 (by decide), g1 108 (by decide), hN2]
      refine srch cn x _ _ _ m' c hM' hN' fun v6 => ?_
      have hneg : ¬ c (48 + amin (crF c) N) < 0 := fun z => by have := st_in hS' z; omega
      refine b210_81 hP (fun _ => b210_102 hP (b210_103 hP (fun z => absurd rfl z) (fun _ => b210_108 hP (b210_11 hP (fun _ => stop cn x _ _ _ _ m' c hS' hM' ec a e) (fun z => absurd rfl z))))) (fun z => ?_)
      have hN0 : 0 < N := Nat.pos_of_ne_zero fun q => z (by rw [hN', q]; decide)
      have la := (amin_lt (f := crF c) (n := N)).resolve_right (by omega)
      refine b210_88 hP (vpn (by omega) (by decide)) (fun _ => b210_102 hP (b210_103 hP (fun z => absurd rfl z) (fun _ => b210_108 hP (b210_11 hP (fun _ => stop cn x _ _ _ _ m' c hS' hM' ec a e) (fun z => absurd rfl z))))) (fun z => absurd ?_ z)
      rw [nIc (by omega), (hM'.1 _ la).2.2.2.2.2.2]
      exact Int32.not_lt.mp hneg
    | succ t ih =>
      intro cn x v4 v5 v6 m' c hS' hM' hn ec a e
      have hN' : m' 108 2 = nI N := by rw [a.2 2 (by decide), g1 108 (by decide), hN2]
      refine srch cn x _ _ _ m' c hM' hN' fun v6 => ?_
      by_cases hneg : c (48 + amin (crF c) N) < 0
      · obtain ⟨h1, l1, l2, hab, hpos, ea, eb⟩ := st_hi hS' hneg
        obtain ⟨s1, s2⟩ := st_pay hS' (by omega) hneg
        have e120 : ∀ p, p < N → m' 120 p = c (48 + p) := fun p hp => (hM'.1 p hp).2.2.2.2.2.2
        have e' : stl N (t + 1) (c, cn, x) = stl N t (pyC c (amin (crF c) N) (amax (crF c) N), cn + 1, x + pyN (c (48 + amin (crF c) N)) (c (48 + amax (crF c) N))) := if_pos hneg
        rw [e'] at e
        have va : vp_in (nI (amin (crF c) N)) 8 := vpn (by omega) (by decide)
        have vb : vp_in (nI (amax (crF c) N)) 8 := vpn (by omega) (by decide)
        refine b210_81 hP (fun z => absurd (by rw [hN'] at z; exact z) (nI_ge h1 (by omega))) (fun _ => b210_88 hP va (fun z => absurd hneg ?_) (fun _ => b210_98 hP (b210_103 hP (fun _ => b210_111 hP va vb va va vb vb ?_) (fun z => absurd z (by decide)))))
        · rw [nIc (by omega), e120 _ l1] at z
          exact Int32.not_lt.mpr z
        · have ca : (nI (amin (crF c) N)).toNatClampNeg = amin (crF c) N := nIc (by omega)
          have cb : (nI (amax (crF c) N)).toNatClampNeg = amax (crF c) N := nIc (by omega)
          rw [ca, cb, e120 _ l1, e120 _ l2, nIs]
          have eb' : xu2 m' 120 (amin (crF c) N) (c (48 + amin (crF c) N) + pyN (c (48 + amin (crF c) N)) (c (48 + amax (crF c) N))) 120 (amax (crF c) N) = c (48 + amax (crF c) N) := by rw [xu2_eq, upd_ne (fun q => hab q.symm), e120 _ l2]
          change P 11 [.ref 108, .int (nI (cn + 1)), .int (x + pyN (c (48 + amin (crF c) N)) (c (48 + amax (crF c) N))), .int (nI 1), _, _, _] [] (0, 0) (LAY, RFu r, xu2 (xu2 m' 120 (amin (crF c) N) (c (48 + amin (crF c) N) + pyN (c (48 + amin (crF c) N)) (c (48 + amax (crF c) N)))) 120 (amax (crF c) N) (xu2 m' 120 (amin (crF c) N) (c (48 + amin (crF c) N) + pyN (c (48 + amin (crF c) N)) (c (48 + amax (crF c) N))) 120 (amax (crF c) N) - pyN (c (48 + amin (crF c) N)) (c (48 + amax (crF c) N))))
          rw [eb']
          generalize hm2 : xu2 (xu2 m' 120 _ _) 120 _ _ = m2
          have g2 : AgM [120] [] m' m2 := by rw [← hm2]; exact (AgM.rfl'.u2 (by simp) (by decide)).u2 (by simp) (by decide)
          refine ih (cn + 1) _ _ _ _ m2 (pyC c (amin (crF c) N) (amax (crF c) N)) s1 ?_ (by omega) (fun i hi => by rw [pyC_o (by omega) (by omega) hi]; exact ec i hi) (a.trans (g2.mono (by simp) (by simp))) e
          refine MV_cred hM' hN8 (fun i hi => pyC_o (by omega) (by omega) hi) ⟨g2.1 _ (by simp) (by decide), g2.1 _ (by simp) (by decide), g2.1 _ (by simp) (by decide), g2.1 _ (by simp) (by decide), g2.1 _ (by simp) (by decide), g2.1 _ (by simp) (by decide), g2.1 _ (by simp) (by decide), g2.2 15 (by simp)⟩ fun p hp => ?_
          rw [pyC_c (by omega) (by omega) hab (by omega), ← hm2, xu2_eq, xu2_eq]
          by_cases q : p = amin (crF c) N
          · rw [if_pos q, q, upd_ne hab, upd_at]
          · rw [if_neg q]
            by_cases q2 : p = amax (crF c) N
            · rw [if_pos q2, q2, upd_at]
            · rw [if_neg q2, upd_ne q2, upd_ne q, e120 p hp]
      · have e' : stl N (t + 1) (c, cn, x) = (c, cn, x) := if_neg hneg
        rw [e'] at e
        refine b210_81 hP (fun _ => b210_102 hP (b210_103 hP (fun z => absurd rfl z) (fun _ => b210_108 hP (b210_11 hP (fun _ => stop cn x _ _ _ _ m' c hS' hM' ec a e) (fun z => absurd rfl z))))) (fun z => ?_)
        have hN0 : 0 < N := Nat.pos_of_ne_zero fun q => z (by rw [hN', q]; decide)
        have la := (amin_lt (f := crF c) (n := N)).resolve_right (by omega)
        refine b210_88 hP (vpn (by omega) (by decide)) (fun _ => b210_102 hP (b210_103 hP (fun z => absurd rfl z) (fun _ => b210_108 hP (b210_11 hP (fun _ => stop cn x _ _ _ _ m' c hS' hM' ec a e) (fun z => absurd rfl z))))) (fun z => absurd ?_ z)
        rw [nIc (by omega), (hM'.1 _ la).2.2.2.2.2.2]
        exact Int32.not_lt.mp hneg
  refine main 8 0 (nI 0) _ _ _ _ (mem 48) hS ((hM.ag g1M (by decide) (by simp)).ag th20 (by simp) (by decide)) nz_le (fun _ _ => rfl) (th20.mono (by simp) (by simp)) rfl
end K
