/-! the search: where one goes, where two go -/
def dsP (D : xD) (p a : Nat) : xD := dsL D (fun q => if q = p then 1 else dL D q) (fun q k => if q = p ∧ k = 0 then nI a else dP D q k)
theorem dsP_dsP {D : xD} {p a b : Nat} : dsP (dsP D p a) p b = dsP D p b := by
  have e1 : (fun q => if q = p then 1 else dL (dsP D p a) q) = fun q => if q = p then 1 else dL D q := by
    funext q
    by_cases h : q = p
    · rw [if_pos h, if_pos h]
    · rw [if_neg h, if_neg h]; exact if_neg h
  have e2 : (fun q k => if q = p ∧ k = 0 then nI b else dP (dsP D p a) q k) = fun q k => if q = p ∧ k = 0 then nI b else dP D q k := by
    funext q k
    by_cases h : q = p ∧ k = 0
    · rw [if_pos h, if_pos h]
    · rw [if_neg h, if_neg h]; exact if_neg h
  show dsL (dsP D p a) _ _ = dsL D _ _
  rw [e1, e2]
  rfl
theorem dsP_comm {D : xD} {p q a b : Nat} (hpq : p ≠ q) : dsP (dsP D p a) q b = dsP (dsP D q b) p a := by
  have e1 : (fun x => if x = q then 1 else dL (dsP D p a) x) = fun x => if x = p then 1 else dL (dsP D q b) x := by
    funext x
    show (if x = q then 1 else if x = p then 1 else dL D x) = if x = p then 1 else if x = q then 1 else dL D x
    by_cases h : x = q
    · by_cases h2 : x = p
      · omega
      · rw [if_pos h, if_neg h2, if_pos h]
    · by_cases h2 : x = p
      · rw [if_neg h, if_pos h2, if_pos h2]
      · rw [if_neg h, if_neg h2, if_neg h2, if_neg h]
  have e2 : (fun x k => if x = q ∧ k = 0 then nI b else dP (dsP D p a) x k) = fun x k => if x = p ∧ k = 0 then nI a else dP (dsP D q b) x k := by
    funext x k
    show (if x = q ∧ k = 0 then nI b else if x = p ∧ k = 0 then nI a else dP D x k) = if x = p ∧ k = 0 then nI a else if x = q ∧ k = 0 then nI b else dP D x k
    by_cases h : x = q ∧ k = 0
    · by_cases h2 : x = p ∧ k = 0
      · omega
      · rw [if_pos h, if_neg h2, if_pos h]
    · by_cases h2 : x = p ∧ k = 0
      · rw [if_neg h, if_pos h2, if_pos h2]
      · rw [if_neg h, if_neg h2, if_neg h2, if_neg h]
  show dsL (dsP D p a) _ _ = dsL (dsP D q b) _ _
  rw [e1, e2]
  rfl
theorem DOk_P {D : xD} {p a : Nat} (hD : DOk D) (ha : a < dR D) : DOk (dsP D p a) := by
  obtain ⟨d1, d2, d3, d4, d5, d6⟩ := hD
  refine ⟨d1, d2, d3, d4, fun q => ?_, fun q hq k hk => ?_⟩
  · show (if q = p then 1 else dL D q) ≤ 24 ∧ dF D q < 24
    refine ⟨?_, (d5 q).2⟩
    split
    · decide
    · exact (d5 q).1
  · have hk : k < if q = p then 1 else dL D q := hk
    show (if q = p ∧ k = 0 then nI a else dP D q k) = -1 ∨ ∃ rm, rm < dR D ∧ (if q = p ∧ k = 0 then nI a else dP D q k) = nI rm
    by_cases h : q = p ∧ k = 0
    · rw [if_pos h]; exact Or.inr ⟨a, ha, rfl⟩
    · rw [if_neg h]
      refine d6 q hq k ?_
      by_cases h2 : q = p
      · rw [if_pos h2] at hk; omega
      · rw [if_neg h2] at hk; exact hk
theorem TwD_P {m m' : Nat → Nat → Int32} {t p a : Nat} {D : xD} (h : TwD m t D) (hN : dN D ≤ 8) (hp : p < 8) (hA : Ag [t + 13, t + 5 + p] m m') (e1 : m' (t + 13) = upd (m (t + 13)) p (nI 1)) (e2 : m' (t + 5 + p) = upd (m (t + 5 + p)) 0 (nI a)) : TwD m' t (dsP D p a) := by
  obtain ⟨h1, h2, h3, h4, h5, h6, h7, h8⟩ := h
  have e : ∀ x, (x < t + 5 ∨ t + 13 < x) → m' x = m x := fun x hx => hA x (by simp; omega)
  refine ⟨by rw [e t (by omega)]; exact h1, by rw [e t (by omega)]; exact h2, by rw [e _ (by omega)]; exact h3, by rw [e (t + 2) (by omega), e (t + 3) (by omega)]; exact h4, fun q hq => ?_, fun q hq k hk => ?_, ?_, ?_⟩
  · rw [e (t + 14) (by omega), e1]
    refine ⟨?_, (h5 q hq).2⟩
    show upd _ p (nI 1) q = nI (if q = p then 1 else dL D q)
    by_cases w : q = p
    · rw [if_pos w, w, upd_at]
    · rw [if_neg w, upd_ne w]; exact (h5 q hq).1
  · have hq : q < dN D := hq
    have hk : k < if q = p then 1 else dL D q := hk
    show m' (t + 5 + q) k = if q = p ∧ k = 0 then nI a else dP D q k
    by_cases w : q = p
    · rw [if_pos w] at hk
      rw [if_pos ⟨w, by omega⟩, w, e2, show k = 0 by omega, upd_at]
    · rw [if_neg w] at hk
      rw [if_neg (fun z => w z.1), hA _ (by simp; omega)]
      exact h6 q hq k hk
  · unfold RuL
    rw [e (t + 15) (by omega), e (t + 15 + 1) (by omega)]
    exact h7
  · unfold RuL
    rw [e (t + 18) (by omega), e (t + 18 + 1) (by omega)]
    exact h8
/-- what is tried: a move of one, of two -/
def sndD (D : xD) (two : Bool) (one oth mv : Nat) : xD := if two = true then dsP (dsP D one (mv / dR D)) oth (mv % dR D) else dsP D one mv
def sK (D : xD) (two : Bool) : Nat := if two = true then dR D * dR D else dR D
def stpD (D : xD) (two : Bool) (one oth : Nat) (c : Nat → Int32) (mv : Nat) : Nat → Int32 := qtr (cfD (sndD D two one oth mv)) c
def okD (two : Bool) (one oth : Nat) (c : Nat → Int32) : Bool := if two = true then sitB c one oth else decide (c (8 + one) = 2)
theorem sndD_s {D : xD} {two : Bool} {one oth mv : Nat} : dR (sndD D two one oth mv) = dR D ∧ dN (sndD D two one oth mv) = dN D := by
  unfold sndD
  cases two <;> exact ⟨rfl, rfl⟩
theorem DOk_snd {D : xD} {two : Bool} {one oth mv : Nat} (hD : DOk D) (hm : mv < sK D two) : DOk (sndD D two one oth mv) := by
  unfold sndD
  unfold sK at hm
  cases two with
  | true =>
    rw [if_pos rfl] at hm ⊢
    have hR : 0 < dR D := Nat.pos_of_ne_zero fun z => by rw [z] at hm; omega
    exact DOk_P (DOk_P hD (Nat.div_lt_of_lt_mul hm)) (Nat.mod_lt _ hR)
  | false =>
    rw [if_neg (by decide)] at hm ⊢
    exact DOk_P hD hm
theorem snd_re {D D' : xD} {two : Bool} {one oth mv : Nat} (hne : two = true → one ≠ oth) (h : D' = D ∨ ∃ m, D' = sndD D two one oth m) : (if two = true then dsP (dsP D' one (mv / dR D)) oth (mv % dR D) else dsP D' one mv) = sndD D two one oth mv := by
  rcases h with rfl | ⟨m, rfl⟩
  · rfl
  · unfold sndD
    cases two with
    | true =>
      have hne := hne rfl
      show dsP (dsP (dsP (dsP D one (m / dR D)) oth (m % dR D)) one (mv / dR D)) oth (mv % dR D) = dsP (dsP D one (mv / dR D)) oth (mv % dR D)
      rw [dsP_comm (p := oth) (q := one) (fun q => hne q.symm), dsP_dsP, dsP_dsP]
    | false => exact dsP_dsP
/-! the search as mathematics -/
section S
variable (K n : Nat) (stp : (Nat → Int32) → Nat → Nat → Int32) (ok : (Nat → Int32) → Bool) (c : Nat → Int32)
def sT : Nat → Nat → Nat → Int32
  | 0, _ => c
  | i + 1, w => stp (sT i (w / K)) (w % K)
def sG : Nat → Nat → Nat
  | 0, _ => 0
  | i + 1, w => sG i (w / K) + if ok (sT K stp c (i + 1) w) = true then 1 else 0
def sA : Nat → Nat × Nat
  | 0 => (0, 0)
  | k + 1 => if (sA k).1 < sG K stp ok c n k + 1 then (sG K stp ok c n k + 1, k) else sA k
end S
section S
variable {K n : Nat} {stp : (Nat → Int32) → Nat → Nat → Int32} {ok : (Nat → Int32) → Bool} {c : Nat → Int32}
theorem sG_le1 : ∀ i w, sG K stp ok c i w ≤ i
  | 0, _ => Nat.le_refl _
  | i + 1, w => by
    have := sG_le1 i (w / K)
    unfold sG
    split <;> omega
theorem pw_succ {w k : Nat} : w / K ^ (k + 1) = (w / K) / K ^ k := by rw [Nat.pow_succ, Nat.mul_comm, Nat.div_div_eq_div_mul]
theorem pw_succ' {w k : Nat} : w / K ^ (k + 1) = (w / K ^ k) / K := by rw [Nat.pow_succ, Nat.div_div_eq_div_mul]
theorem sG_le : ∀ i m k, sG K stp ok c (i + m) k ≤ sG K stp ok c i (k / K ^ m) + m
  | i, 0, k => by rw [Nat.pow_zero, Nat.div_one]; exact Nat.le_refl _
  | i, m + 1, k => by
    have ih := sG_le i m (k / K)
    rw [← pw_succ] at ih
    show sG K stp ok c (i + m) (k / K) + (if ok (sT K stp c (i + m + 1) k) = true then 1 else 0) ≤ _
    split <;> omega
theorem sA_same {k1 : Nat} : ∀ m, (∀ k, k1 ≤ k → k < k1 + m → sG K stp ok c n k + 1 ≤ (sA K n stp ok c k1).1) → sA K n stp ok c (k1 + m) = sA K n stp ok c k1
  | 0, _ => rfl
  | m + 1, h => by
    have ih := sA_same m (fun k h1 h2 => h k h1 (by omega))
    show (if (sA K n stp ok c (k1 + m)).1 < sG K stp ok c n (k1 + m) + 1 then (sG K stp ok c n (k1 + m) + 1, k1 + m) else sA K n stp ok c (k1 + m)) = _
    rw [ih, if_neg (by have := h (k1 + m) (by omega) (by omega); omega)]
theorem sA_lt : ∀ k, (sA K n stp ok c k).1 ≤ n + 1 ∧ (0 < k → 0 < (sA K n stp ok c k).1 ∧ (sA K n stp ok c k).2 < k)
  | 0 => ⟨Nat.zero_le _, fun h => absurd h (Nat.lt_irrefl 0)⟩
  | k + 1 => by
    obtain ⟨h1, h2⟩ := sA_lt k
    have hg := sG_le1 (K := K) (stp := stp) (ok := ok) (c := c) n k
    unfold sA
    by_cases hh : (sA K n stp ok c k).1 < sG K stp ok c n k + 1
    · rw [if_pos hh]
      exact ⟨by dsimp only; omega, fun _ => ⟨by dsimp only; omega, by dsimp only; omega⟩⟩
    · rw [if_neg hh]
      refine ⟨h1, fun _ => ?_⟩
      by_cases q : k = 0
      · subst q
        exact absurd (Nat.succ_pos _) hh
      · have := h2 (by omega)
        exact ⟨this.1, by omega⟩
theorem sT_ind {Pr : Nat → (Nat → Int32) → Prop} (hK : 0 < K) (h0 : Pr 0 c) (hs : ∀ i s mv, mv < K → Pr i s → Pr (i + 1) (stp s mv)) : ∀ i w, Pr i (sT K stp c i w)
  | 0, _ => h0
  | i + 1, w => hs i _ _ (Nat.mod_lt _ hK) (sT_ind hK h0 hs i (w / K))
end S
theorem plC_le {a b : Nat} (ha : a < 2147483647) (hb : b < 2147483648) : nI a ≤ plC b ↔ a + 1 ≤ b := by
  unfold plC
  by_cases h : b = 0
  · rw [if_pos h]
    constructor
    · intro q
      rw [Int32.le_iff_toInt_le, nI_toInt (by omega), show (-1 : Int32).toInt = -1 by decide] at q
      omega
    · intro q; omega
  · rw [if_neg h, nI_leI (by omega) (by omega)]
    omega
section C
variable {d r t N R B : Nat} {mem m' m0 m1 m2 : Nat → Nat → Int32} {Q : xQr} {g : xCf} {c : Nat → Int32} {D : xD}
theorem c91 {p a : Nat} (hT : TwD mem 26 D) (hN : dN D ≤ 8) (hp : p < 8) (k : ∀ m', Ag [39, 31 + p] mem m' → TwD m' 26 (dsP D p a) → Q none (LAY, RFu r, m')) : xCall (d + 1) 91 [.ref 26, .int (nI p), .int (nI a)] (LAY, RFu r, mem) Q := by
  refine c_in rfl rfl rfl fun P hP => b91_0 hP (Or.inr rfl) (vpn hp (by decide)) (vpn (by decide) (by decide)) (vpn hp (by decide)) ?_
  rw [nIc (by omega), nIc (by decide)]
  refine k _ ((Ag.rfl'.u2 (by simp)).u2 (by simp)) (TwD_P hT hN hp ((Ag.rfl'.u2 (by simp)).u2 (by simp)) ?_ ?_)
  · rw [xu2_eq, xu2_ne (by omega)]
  · rw [xu2_ne (by omega), xu2_eq]
def dfW : List Nat := [31, 32, 33, 34, 35, 36, 37, 38, 39, 43, 46, 52, 53, 54, 81, 83, 85, 86, 87, 88, 89, 90, 91, 92, 93]
def lvC : List Nat := [83, 85, 86, 87, 88, 89, 90]
def DI (D : xD) (two : Bool) (one oth n : Nat) (m0 m' : Nat → Nat → Int32) : Prop :=
  Ag dfW m0 m' ∧ (∃ D', TwD m' 26 D' ∧ (D' = D ∨ ∃ mv, D' = sndD D two one oth mv)) ∧ m' 81 8 = nI one ∧ m' 81 9 = (if two = true then nI oth else -1) ∧ m' 81 10 = nI n ∧ ∀ c, c ∈ lvC → ∀ i, 121 ≤ i → m' c i = 0
theorem lv_in {j : Nat} (hj : j ≤ 5) : 85 + j ∈ lvC ∧ 85 + j ∈ dfW := by
  have : ∀ j ≤ 5, 85 + j ∈ lvC ∧ 85 + j ∈ dfW := by decide
  exact this j hj
theorem DI_N {D : xD} {two : Bool} {one oth : Nat} {D' : xD} (h : D' = D ∨ ∃ mv, D' = sndD D two one oth mv) : dN D' = dN D := by
  rcases h with rfl | ⟨mv, rfl⟩
  · rfl
  · exact sndD_s.2
theorem DI.u2 {D : xD} {two : Bool} {one oth n a i : Nat} {x : Int32} (hN : dN D ≤ 8) (h : DI D two one oth n m0 m') (ha : (a = 91 ∨ a = 92 ∨ a = 93) ∨ (a = 81 ∧ i = 0)) : DI D two one oth n m0 (xu2 m' a i x) := by
  obtain ⟨h1, ⟨D', h2, h3⟩, h4, h5, h6, h7⟩ := h
  have hc : ∀ k ∈ tCells, 26 + k ≠ 91 ∧ 26 + k ≠ 92 ∧ 26 + k ≠ 93 ∧ 26 + k ≠ 81 := by decide
  have hl : ∀ c ∈ lvC, c ≠ 91 ∧ c ≠ 92 ∧ c ≠ 93 ∧ c ≠ 81 := by decide
  have e : ∀ c, (c ≠ 91 ∧ c ≠ 92 ∧ c ≠ 93 ∧ c ≠ 81) → xu2 m' a i x c = m' c := fun c q => xu2_ne (by omega)
  have e81 : ∀ j, j ≠ 0 → xu2 m' a i x 81 j = m' 81 j := fun j hj => by
    by_cases q : a = 81
    · subst q; rw [xu2_eq, upd_ne (by omega)]
    · rw [xu2_ne (fun w => q w.symm)]
  refine ⟨?_, ⟨D', TwD_mv (by rw [DI_N h3]; exact hN) h2 (fun k hk => e _ (hc k hk)), h3⟩, by rw [e81 8 (by decide)]; exact h4, by rw [e81 9 (by decide)]; exact h5, by rw [e81 10 (by decide)]; exact h6, fun c hc j hj => ?_⟩
  · refine h1.u2 ?_
    rcases ha with (q | q | q) | ⟨q, -⟩ <;> rw [q] <;> decide
  · rw [e c (hl c hc)]
    exact h7 c hc j hj
theorem DI.uA {D : xD} {two : Bool} {one oth n : Nat} {f : Nat → Int32} (hN : dN D ≤ 8) (h : DI D two one oth n m0 m') : DI D two one oth n m0 (xuA m' 93 f) := by
  obtain ⟨h1, ⟨D', h2, h3⟩, h4, h5, h6, h7⟩ := h
  have hc : ∀ k ∈ tCells, 26 + k ≠ 93 := by decide
  have hl : ∀ c ∈ lvC, c ≠ 93 := by decide
  refine ⟨h1.uA (by decide), ⟨D', TwD_mv (by rw [DI_N h3]; exact hN) h2 (fun k hk => xuA_ne (hc k hk)), h3⟩, by rw [xuA_ne (by decide)]; exact h4, by rw [xuA_ne (by decide)]; exact h5, by rw [xuA_ne (by decide)]; exact h6, fun c hc j hj => by rw [xuA_ne (hl c hc)]; exact h7 c hc j hj⟩
theorem div_lt' {a b c : Nat} (h : a < b * c) : a / b < c := Nat.div_lt_of_lt_mul h
/-- one move -/
theorem c55 {two : Bool} {one oth n i mv now : Nat} {s : Nat → Int32} {gd : Nat} (hD : DOk D) (hone : one < dN D) (hoth : two = true → oth < dN D ∧ one ≠ oth) (h : DI D two one oth n m0 m') (hi : i < 5) (hmv : mv < sK D two) (hR : 0 < dR D)
    (e92 : m' 92 i = nI mv) (e85 : m' (85 + i) = s) (e91 : m' 91 i = nI gd) (hs : s 120 = nI now) (hnow : now < 1073741824) (hO : OKc (dN D) s)
    (k : ∀ m2, DI D two one oth n m0 m2 → m2 (85 + (i + 1)) = stpD D two one oth s mv → m2 91 (i + 1) = nI (gd + if okD two one oth (stpD D two one oth s mv) = true then 1 else 0) → (∀ j, j ≤ i → m2 (85 + j) = m' (85 + j) ∧ m2 91 j = m' 91 j) → m2 92 = m' 92 → m2 93 = m' 93 → m2 81 = m' 81 → Q none (LAY, RFu r, m2)) :
    xCall (d + 6) 55 [.ref 81, .int (nI i)] (LAY, RFu r, m') Q := by
  obtain ⟨h1, ⟨D', h2, h3⟩, h4, h5, h6, h7⟩ := h
  have hN8 : dN D ≤ 8 := hD.2.1
  have hN' : dN D' = dN D := DI_N h3
  have hR' : dR D' = dR D := by
    rcases h3 with rfl | ⟨m, rfl⟩
    · rfl
    · exact sndD_s.1
  have vi : vp_in (nI i) 6 := vpn (by omega) (by decide)
  have ci : (nI i).toNatClampNeg = i := nIc (by omega)
  obtain ⟨li1, li2⟩ := lv_in (j := i) (by omega)
  obtain ⟨lj1, lj2⟩ := lv_in (j := i + 1) (by omega)
  have hR4 := hD.1
  have hmv2 : mv < 100 := by
    unfold sK at hmv
    have : dR D * dR D ≤ 4 * 4 := Nat.mul_le_mul hR4 hR4
    split at hmv <;> omega
  refine c_in rfl rfl rfl fun P hP => b55_0 hP vi vi ?_
  rw [ci]
  have e83 : va_cpy (m' (85 + i)) (m' 83) 0 0 121 = s := by
    rw [← e85]
    exact xuA_cpy (fun j hj => by rw [h7 _ li1 j hj, h7 83 (by decide) j hj])
  rw [e83, xuA_ne (by decide), xuA_ne (by decide), e92, h4]
  generalize hma : xuA m' 83 s = ma
  have aa : Ag [83] m' ma := by rw [← hma]; exact Ag.rfl'.uA (by simp)
  have ea83 : ma 83 = s := by rw [← hma, xuA_eq]
  have ta : TwD ma 26 D' := TwD_mv (by omega) h2 (fun k hk => aa _ (by
    have : ∀ k ∈ tCells, 26 + k ∉ [83] := by decide
    exact this k hk))
  have f26 : ∀ {m : Nat → Nat → Int32} {D' : xD}, TwD m 26 D' → dR D' = dR D → m 26 0 = nI (dR D) := fun t e => by rw [← e]; exact t.1
  -- the first room
  have w56 : ∀ {Q : xQr} {d : Nat} {m : Nat → Nat → Int32}, m 81 9 = (if two = true then nI oth else -1) → m 26 0 = nI (dR D) → Q (some (.int (nI (if two = true then mv / dR D else mv)))) (LAY, RFu r, m) → xCall (d + 1) 56 [.ref 81, .int (nI mv)] (LAY, RFu r, m) Q := fun {Q d m} e9 e0 kk => by
    refine c_in rfl rfl rfl fun P hP => ?_
    cases two with
    | true =>
      rw [if_pos rfl] at e9 kk
      refine b56_0 hP (fun z => absurd (e9.symm.trans z) (nI_nm (by have := hoth rfl; omega))) (fun _ => b56_8 hP (fun _ => b56_22 hP (by rw [e0]; exact nI_ne0 (by omega) (by omega)) (b56_31 hP ?_)) (fun z => absurd (by rw [e0]; exact nI_lt hR (by omega)) z))
      rw [e0, nI_div (by omega) (by omega) hR]
      exact kk
    | false =>
      rw [if_neg (by decide)] at e9 kk
      exact b56_0 hP (fun _ => b56_18 hP (b56_31 hP kk)) (fun z => absurd e9 z)
  generalize hs' : stpD D two one oth s mv = s' at k
  have tail : ∀ m3, Ag [31, 32, 33, 34, 35, 36, 37, 38, 39, 83] m' m3 → TwD m3 26 (sndD D two one oth mv) → m3 83 = s → P 70 [.ref 81, .int (nI i), .null] [] (0, 0) (LAY, RFu r, m3) := fun m3 a3 t3 e3 => by
    have hDs : DOk (sndD D two one oth mv) := DOk_snd hD hmv
    obtain ⟨q1, q2⟩ := TwD_TC t3 hDs
    refine b55_70 hP (c8g (t := 26) (s := 82) (g := cfD (sndD D two one oth mv)) (now := now) (Or.inr rfl) (Or.inr (Or.inr rfl)) q1 q2 (by rw [show m3 (82 + 1) = s from e3]; show OKc (dN (sndD D two one oth mv)) s; rw [sndD_s.2]; exact hO) (by rw [show m3 (82 + 1) = s from e3]; exact hs) hnow fun m4 a4 e4 _ => Bk.i ?_)
    have e4' : m4 83 = s' := by rw [← hs']; show m4 (82 + 1) = _; rw [e4, show m3 (82 + 1) = s from e3]; rfl
    have a34 : Ag [31, 32, 33, 34, 35, 36, 37, 38, 39, 83, 52, 53, 54, 43, 46] m' m4 := (a3.mono (by decide)).trans (a4.mono (by decide))
    have f81 : m4 81 = m' 81 := a34 81 (by decide)
    have hok : okD two one oth s' = true ∨ okD two one oth s' = false := by cases okD two one oth s' <;> simp
    have t4 : TwD m4 26 (sndD D two one oth mv) := TwD_mv hDs.2.1 t3 (fun k hk => a4 _ (by
      have : ∀ k ∈ tCells, 26 + k ∉ [52, 53, 54, 26 + 17, 26 + 20, 82 + 1] := by decide
      exact this k hk))
    have z83 : ∀ j, 121 ≤ j → m4 83 j = 0 := fun j hj => by
      rw [e4', ← hs']
      unfold stpD
      rw [qtr_121 hj (by show dN (sndD D two one oth mv) ≤ 8; exact hDs.2.1), ← e85]
      exact h7 _ li1 j hj
    have fin : ∀ y, (y = if okD two one oth s' = true then nI 1 else nI 0) → ∀ v2, P 155 [.ref 81, .int (nI i), v2] [.int y, .int (m4 91 i), .int (nI i + nI 1), .ref 91] (0, 0) (LAY, RFu r, m4) := fun y hy v2 => by
      refine b55_155 hP (by rw [nIs]; exact vpn (by omega) (by decide)) (by rw [nIs]; exact vpn (by omega) (by decide)) ?_
      rw [nIs, nIc (by omega), a34 91 (by decide), e91]
      have ey : nI gd + y = nI (gd + if okD two one oth s' = true then 1 else 0) := by
        rw [hy]
        split <;> rw [nI_add]
      rw [ey]
      have hne : ∀ i < 5, 85 + (i + 1) ≠ 91 ∧ 85 + (i + 1) ≠ 83 ∧ 85 + (i + 1) ≠ 92 ∧ 85 + (i + 1) ≠ 93 ∧ 85 + (i + 1) ≠ 81 ∧ 85 + (i + 1) ∉ [31, 32, 33, 34, 35, 36, 37, 38, 39, 83, 52, 53, 54, 43, 46] := by decide
      obtain ⟨n1, n2, n3, n4, n5, n6⟩ := hne i hi
      rw [xu2_ne (c := 83) (by decide), xu2_ne (c := 85 + (i + 1)) n1]
      have ec : va_cpy (m4 83) (m4 (85 + (i + 1))) 0 0 121 = s' := by
        rw [← e4']
        exact xuA_cpy (fun j hj => by rw [a34 _ n6, h7 _ lj1 j hj, z83 j hj])
      rw [ec]
      generalize hm5 : xuA (xu2 m4 91 (i + 1) _) (85 + (i + 1)) s' = m5
      have e5 : ∀ c, c ≠ 91 → c ≠ 85 + (i + 1) → m5 c = m4 c := fun c q1 q2 => by rw [← hm5, xuA_ne q2, xu2_ne q1]
      have e5' : ∀ c, c ∉ [31, 32, 33, 34, 35, 36, 37, 38, 39, 83, 52, 53, 54, 43, 46] → c ≠ 91 → c ≠ 85 + (i + 1) → m5 c = m' c := fun c q0 q1 q2 => by rw [e5 c q1 q2, a34 c q0]
      have ht5 : ∀ k ∈ tCells, ∀ i < 5, 26 + k ≠ 91 ∧ 26 + k ≠ 85 + (i + 1) := by decide
      have hl5 : ∀ c ∈ lvC, c = 83 ∨ (c ∉ [31, 32, 33, 34, 35, 36, 37, 38, 39, 83, 52, 53, 54, 43, 46] ∧ c ≠ 91) := by decide
      have s91 : m5 91 = upd (m4 91) (i + 1) (nI (gd + if okD two one oth s' = true then 1 else 0)) := by rw [← hm5, xuA_ne (fun q => n1 q.symm), xu2_eq]
      refine k m5 ⟨?_, ⟨sndD D two one oth mv, TwD_mv hDs.2.1 t4 (fun k hk => e5 _ (ht5 k hk i hi).1 (ht5 k hk i hi).2), Or.inr ⟨mv, rfl⟩⟩, ?_, ?_, ?_, fun c hc j hj => ?_⟩ ?_ ?_ (fun j hj => ⟨?_, ?_⟩) ?_ ?_ ?_
      · intro c hc
        have : ∀ c, c ∉ dfW → c ∉ [31, 32, 33, 34, 35, 36, 37, 38, 39, 83, 52, 53, 54, 43, 46] ∧ c ≠ 91 := fun c hc => by
          unfold dfW at hc
          simp only [List.mem_cons, List.not_mem_nil, or_false, not_or] at hc ⊢
          omega
        rw [e5' c (this c hc).1 (this c hc).2 (fun q => hc (by rw [q]; exact lj2)), h1 c hc]
      · rw [e5' 81 (by decide) (by decide) (by omega)]; exact h4
      · rw [e5' 81 (by decide) (by decide) (by omega)]; exact h5
      · rw [e5' 81 (by decide) (by decide) (by omega)]; exact h6
      · by_cases q : c = 85 + (i + 1)
        · rw [q, ← hm5, xuA_eq, ← e4']; exact z83 j hj
        · rcases hl5 c hc with w | ⟨w1, w2⟩
          · rw [w, e5 83 (by decide) (by omega)]; exact z83 j hj
          · rw [e5' c w1 w2 q]; exact h7 c hc j hj
      · rw [← hm5, xuA_eq]
      · rw [s91, upd_at]
      · have : ∀ j ≤ 5, 85 + j ∉ [31, 32, 33, 34, 35, 36, 37, 38, 39, 83, 52, 53, 54, 43, 46] ∧ 85 + j ≠ 91 := by decide
        exact e5' _ (this j (by omega)).1 (this j (by omega)).2 (by omega)
      · rw [s91, upd_ne (by omega), a34 91 (by decide)]
      · exact e5' 92 (by decide) (by decide) (by omega)
      · exact e5' 93 (by decide) (by decide) (by omega)
      · exact e5' 81 (by decide) (by decide) (by omega)
    have fin132 : ∀ y, (y = 0 ↔ okD two one oth s' = false) → P 132 [.ref 81, .int (nI i), .null] [.int y] (0, 0) (LAY, RFu r, m4) := fun y hy => by
      refine b55_132 hP vi (fun z => b55_154 hP ?_) (fun z => b55_150 hP ?_) <;> rw [ci]
      · exact fin _ (by rw [hy.mp z]; rfl) _
      · rcases hok with w | w
        · exact fin _ (by rw [w]; rfl) _
        · exact absurd (hy.mpr w) z
    cases two with
    | true =>
      refine b55_85 hP (fun _ => b55_117 hP ?_) (fun z => absurd (by rw [f81, h5] at z; exact z) (nI_nm (by have := hoth rfl; omega)))
      rw [f81, h4, h5, if_pos rfl]
      refine c66 (s := 82) (Or.inr (Or.inr rfl)) (by omega) (by have := hoth rfl; omega) (Bk.i (fin132 _ ?_))
      rw [show m4 (82 + 1) = s' from e4']
      constructor
      · intro z; exact bfalse (sitB_f z)
      · intro z; exact b01_f (fun q => by
          have : okD true one oth s' = true := decide_eq_true q
          rw [z] at this; cases this)
    | false =>
      refine b55_85 hP (fun z => absurd (by rw [f81, h5]; rfl) z) (fun _ => b55_94 hP ?_)
      rw [f81, h4]
      refine c61 (s := 82) (Or.inr (Or.inr rfl)) (by omega) (Bk.i ?_)
      rw [show m4 (82 + 1) = s' from e4']
      refine b55_105 hP (fun z => b55_113 hP (fin132 _ ?_)) (fun z => b55_109 hP (fin132 _ ?_))
      · exact ⟨fun _ => decide_eq_false z, fun _ => rfl⟩
      · refine ⟨fun q => absurd q (by decide), fun q => ?_⟩
        have : okD false one oth s' = true := decide_eq_true z
        rw [q] at this; cases this
  refine w56 (by rw [aa 81 (by decide)]; exact h5) (f26 ta hR') (Bk.i (b55_38 hP (c91 ta (by omega) (by omega) fun m2 a2 t2 => Bk.v ?_)))
  have a2' : Ag [31, 32, 33, 34, 35, 36, 37, 38, 39] ma m2 := a2.mono (by
    have : ∀ p < 8, ∀ c ∈ [39, 31 + p], c ∈ [31, 32, 33, 34, 35, 36, 37, 38, 39] := by decide
    exact this one (by omega))
  have e9 : m2 81 9 = (if two = true then nI oth else -1) := by rw [a2' 81 (by decide), aa 81 (by decide)]; exact h5
  have am2 : Ag [31, 32, 33, 34, 35, 36, 37, 38, 39, 83] m' m2 := (aa.mono (by decide)).trans (a2'.mono (by decide))
  have e83' : m2 83 = s := by rw [a2' 83 (by decide)]; exact ea83
  cases two with
  | false =>
    refine b55_41 hP (fun _ => tail m2 am2 ?_ e83') (fun z => absurd e9 z)
    rw [← snd_re (D := D) (D' := D') (one := one) (oth := oth) (mv := mv) (fun q => by cases q) h3]
    exact t2
  | true =>
    obtain ⟨ho1, ho2⟩ := hoth rfl
    have em : m2 92 i = nI mv := by rw [a2' 92 (by decide), aa 92 (by decide)]; exact e92
    refine b55_41 hP (fun z => absurd (e9.symm.trans z) (nI_nm (by omega))) (fun _ => b55_49 hP vi ?_)
    rw [ci, em, e9, if_pos rfl]
    have e26 : m2 26 0 = nI (dR D) := f26 t2 hR'
    refine c_in rfl rfl rfl fun P2 hP2 => b57_0 hP2 (fun _ => b57_14 hP2 (by rw [e26]; exact nI_ne0 (by omega) (by omega)) (b57_23 hP2 (Bk.i (b55_67 hP ?_)))) (fun z => absurd (by rw [e26]; exact nI_lt hR (by omega)) z)
    rw [e26, nI_rem (by omega) (by omega) hR]
    refine c91 t2 (by show dN D' ≤ 8; omega) (by omega) fun m3 a3 t3 => Bk.v (tail m3 ?_ ?_ ?_)
    · refine am2.trans (a3.mono ?_)
      have : ∀ p < 8, ∀ c ∈ [39, 31 + p], c ∈ [31, 32, 33, 34, 35, 36, 37, 38, 39, 83] := by decide
      exact this oth (by omega)
    · rw [← snd_re (D := D) (D' := D') (one := one) (oth := oth) (mv := mv) (fun _ => ho2) h3]
      exact t3
    · rw [a3 83 (by simp; omega)]; exact e83'
end C
