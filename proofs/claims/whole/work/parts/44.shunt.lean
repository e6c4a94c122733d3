/-! the class's way to read a rule, as a machine of its own, and that it comes to the same as rd -/
def bnd (x : Nat) : Nat := if x = 3000 then 4 else if x = 2042 ∨ x = 2047 then 3 else if x = 2043 ∨ x = 2045 then 2 else if x = 2060 ∨ x = 2061 ∨ x = 2062 then 1 else 0
def aw (b : Nat) : List Int32 → List Nat → List Int32 × List Nat
  | acc, [] => (acc, [])
  | acc, x :: W => if b ≤ bnd x then aw b (acc ++ [nI x]) W else (acc, x :: W)
def setN (m p : Nat) : Nat := if m.testBit p then m else m + 2 ^ p
theorem setN_bit {m p q : Nat} (hm : m < 256) (hp : p < 8) (hq : q < 8) : (setN m p).testBit q = (m.testBit q || decide (q = p)) := by
  have h : ∀ m < 256, ∀ p < 8, ∀ q < 8, (setN m p).testBit q = (m.testBit q || decide (q = p)) := by decide +kernel
  exact h m hm p hp q hq
theorem setN_lt {m p : Nat} (hm : m < 256) (hp : p < 8) : setN m p < 256 := by
  have h : ∀ m < 256, ∀ p < 8, setN m p < 256 := by decide +kernel
  exact h m hm p hp
abbrev xRS : Type := Nat × List Int32 × List Nat × Nat × Nat
def jb (x m dp : Nat) : Nat := if bnd (2000 + x) = 1 ∧ m.testBit dp = true then 0 else bnd (2000 + x)
/-- false: ahead of a thing, true: behind one -/
def rn (g : Nat → Nat) : Nat → Bool → xRS → Nat × Bool × List Int32
  | 0, _, (a, acc, _) => (a, false, acc)
  | n + 1, false, (a, acc, W, dp, m) =>
    if g a = 45 then rn g n false (a + 1, acc, 3000 :: W, dp, m)
    else if g a = 40 ∧ dp < 4 then rn g n false (a + 1, acc, 0 :: W, dp + 1, dropN m (dp + 1))
    else if 48 ≤ g a ∧ g a ≤ 57 then rn g n true ((numF g 3 a 0).1, acc ++ [nI (numF g 3 a 0).2], W, dp, m)
    else if isLet (g a) = true then rn g n true (a + 1, acc ++ [nI (1000 + g a)], W, dp, m)
    else (a, false, acc)
  | n + 1, true, (a, acc, W, dp, m) =>
    if g a = 41 ∧ 0 < dp then rn g n true (a + 1, (aw 1 acc W).1, (aw 1 acc W).2.tail, dp - 1, m)
    else if 0 < jb (g a) m dp then rn g n false (a + 1, (aw (jb (g a) m dp) acc W).1, (2000 + g a) :: (aw (jb (g a) m dp) acc W).2, dp, if jb (g a) m dp = 1 then setN m dp else m)
    else (a, decide (dp = 0), (aw 1 acc W).1)
theorem rn_0 {g : Nat → Nat} {n a dp m : Nat} {acc : List Int32} {W : List Nat} : rn g (n + 1) false (a, acc, W, dp, m) =
    if g a = 45 then rn g n false (a + 1, acc, 3000 :: W, dp, m)
    else if g a = 40 ∧ dp < 4 then rn g n false (a + 1, acc, 0 :: W, dp + 1, dropN m (dp + 1))
    else if 48 ≤ g a ∧ g a ≤ 57 then rn g n true ((numF g 3 a 0).1, acc ++ [nI (numF g 3 a 0).2], W, dp, m)
    else if isLet (g a) = true then rn g n true (a + 1, acc ++ [nI (1000 + g a)], W, dp, m)
    else (a, false, acc) := rfl
theorem rn_1 {g : Nat → Nat} {n a dp m : Nat} {acc : List Int32} {W : List Nat} : rn g (n + 1) true (a, acc, W, dp, m) =
    if g a = 41 ∧ 0 < dp then rn g n true (a + 1, (aw 1 acc W).1, (aw 1 acc W).2.tail, dp - 1, m)
    else if 0 < jb (g a) m dp then rn g n false (a + 1, (aw (jb (g a) m dp) acc W).1, (2000 + g a) :: (aw (jb (g a) m dp) acc W).2, dp, if jb (g a) m dp = 1 then setN m dp else m)
    else (a, decide (dp = 0), (aw 1 acc W).1) := rfl
def Clr (b : Nat) (W : List Nat) : Prop := ∀ x, W.head? = some x → bnd x < b
def AllB (b : Nat) (P : List Nat) : Prop := ∀ x, x ∈ P → b ≤ bnd x
theorem AllB.le {b b' : Nat} {P : List Nat} (h : AllB b P) (hb : b' ≤ b) : AllB b' P := fun x hx => Nat.le_trans hb (h x hx)
theorem AllB.snoc {b x : Nat} {P : List Nat} (h : AllB b P) (hx : b ≤ bnd x) : AllB b (P ++ [x]) := fun y hy => by
  rcases List.mem_append.mp hy with hy | hy
  · exact h y hy
  · rw [List.mem_singleton.mp hy]; exact hx
theorem AllB.nil {b : Nat} : AllB b [] := fun x hx => by cases hx
theorem aw_app {b : Nat} : ∀ {P W : List Nat} {acc : List Int32}, AllB b P → Clr b W → aw b acc (P ++ W) = (acc ++ P.map nI, W)
  | [], [], acc, _, _ => by simp [aw]
  | [], x :: W, acc, _, hW => by
    have := hW x rfl
    show (if b ≤ bnd x then _ else (acc, x :: W)) = _
    rw [if_neg (by omega)]
    simp
  | x :: P, W, acc, hP, hW => by
    show (if b ≤ bnd x then aw b (acc ++ [nI x]) (P ++ W) else _) = _
    rw [if_pos (hP x List.mem_cons_self), aw_app (fun y hy => hP y (List.mem_cons_of_mem _ hy)) hW]
    simp
def Mq (e m m' : Nat) : Prop := m' < 256 ∧ ∀ q, q < e → m'.testBit q = m.testBit q
theorem Mq.tr {e m m1 m2 : Nat} (h1 : Mq e m m1) (h2 : Mq e m1 m2) : Mq e m m2 := ⟨h2.1, fun q hq => (h2.2 q hq).trans (h1.2 q hq)⟩
def LK (g : Nat → Nat) (lim b : Nat) (W : List Nat) (deep e m : Nat) (acc0 : List Int32) (R : Nat × Bool × List Int32) (C : Nat → Nat → Prop) (lhs : Nat × Bool × List Int32) : Prop :=
  (R.2.1 = true → ∃ n' acc' P' m', lim < n' + R.1 ∧ lhs = rn g n' true (R.1, acc', P' ++ W, deep, m') ∧ acc' ++ P'.map nI = acc0 ++ R.2.2 ∧ AllB b P' ∧ Mq e m m' ∧ C R.1 m') ∧ (R.2.1 = false → ∃ acc', lhs = (R.1, false, acc'))
section K
variable {g : Nat → Nat} {lim : Nat}
def K0 (g : Nat → Nat) (lim f : Nat) : Prop := ∀ (deep a : Nat) (acc : List Int32) (W : List Nat) (m n : Nat), a ≤ lim → deep ≤ 4 → m < 256 → 8 * (lim - a) + 1 ≤ f → lim < n + a → LK g lim 4 W deep (deep + 1) m acc (rd g f 0 deep a) (fun _ _ => True) (rn g n false (a, acc, W, deep, m))
def K1 (g : Nat → Nat) (lim f : Nat) : Prop := ∀ (deep a : Nat) (acc : List Int32) (P W : List Nat) (m n : Nat), a ≤ lim → deep ≤ 4 → m < 256 → 8 * (lim - a) + 2 ≤ f → lim < n + a → AllB 3 P → Clr 3 W → LK g lim 3 W deep (deep + 1) m (acc ++ P.map nI) (rd g f 1 deep a) (fun a' _ => g a' ≠ 42 ∧ g a' ≠ 47) (rn g n true (a, acc, P ++ W, deep, m))
def K2 (g : Nat → Nat) (lim f : Nat) : Prop := ∀ (deep a : Nat) (acc : List Int32) (W : List Nat) (m n : Nat), a ≤ lim → deep ≤ 4 → m < 256 → 8 * (lim - a) + 3 ≤ f → lim < n + a → Clr 3 W → LK g lim 3 W deep (deep + 1) m acc (rd g f 2 deep a) (fun a' _ => g a' ≠ 42 ∧ g a' ≠ 47) (rn g n false (a, acc, W, deep, m))
def K3 (g : Nat → Nat) (lim f : Nat) : Prop := ∀ (deep a : Nat) (acc : List Int32) (P W : List Nat) (m n : Nat), a ≤ lim → deep ≤ 4 → m < 256 → 8 * (lim - a) + 4 ≤ f → lim < n + a → AllB 2 P → Clr 2 W → (g a ≠ 42 ∧ g a ≠ 47) → LK g lim 2 W deep (deep + 1) m (acc ++ P.map nI) (rd g f 3 deep a) (fun a' _ => g a' ≠ 42 ∧ g a' ≠ 47 ∧ g a' ≠ 43 ∧ g a' ≠ 45) (rn g n true (a, acc, P ++ W, deep, m))
def K4 (g : Nat → Nat) (lim f : Nat) : Prop := ∀ (deep a : Nat) (acc : List Int32) (W : List Nat) (m n : Nat), a ≤ lim → deep ≤ 4 → m < 256 → 8 * (lim - a) + 5 ≤ f → lim < n + a → Clr 2 W → LK g lim 2 W deep (deep + 1) m acc (rd g f 4 deep a) (fun a' _ => g a' ≠ 42 ∧ g a' ≠ 47 ∧ g a' ≠ 43 ∧ g a' ≠ 45) (rn g n false (a, acc, W, deep, m))
def K5 (g : Nat → Nat) (lim f : Nat) : Prop := ∀ (deep a : Nat) (acc : List Int32) (W : List Nat) (m n : Nat), a ≤ lim → deep ≤ 4 → m < 256 → 8 * (lim - a) + 6 ≤ f → lim < n + a → Clr 1 W → m.testBit deep = false → LK g lim 1 W deep deep m acc (rd g f 5 deep a) (fun a' m' => jb (g a') m' deep = 0) (rn g n false (a, acc, W, deep, m))
theorem LK_mono {b b' : Nat} {W : List Nat} {deep e m : Nat} {acc0 : List Int32} {R : Nat × Bool × List Int32} {C C' : Nat → Nat → Prop} {lhs : Nat × Bool × List Int32} (h : LK g lim b W deep e m acc0 R C lhs) (hb : b' ≤ b) (hc : ∀ a m, C a m → C' a m) : LK g lim b' W deep e m acc0 R C' lhs := by
  refine ⟨fun z => ?_, h.2⟩
  obtain ⟨n', acc', P', m', q1, q2, q3, q4, q5, q6⟩ := h.1 z
  exact ⟨n', acc', P', m', q1, q2, q3, q4.le hb, q5, hc _ _ q6⟩
theorem k_lt (hg : ∀ i, lim ≤ i → g i = 256) {i : Nat} (h1 : i ≤ lim) (h2 : g i < 256) : i + 1 ≤ lim := Decidable.by_contra fun z => by have := hg i (by omega); omega
theorem k_0 {f : Nat} (hg : ∀ i, lim ≤ i → g i = 256) (i0 : K0 g lim f) (i5 : K5 g lim f) : K0 g lim (f + 1) := by
  intro deep a acc W m n ha hdp hm hf hn
  obtain ⟨n, rfl⟩ : ∃ n', n = n' + 1 := ⟨n - 1, by omega⟩
  rw [rd_0, rn_0]
  by_cases h45 : g a = 45
  · rw [if_pos h45, if_pos h45]
    have hal := k_lt hg ha (by omega)
    have ih := i0 deep (a + 1) acc (3000 :: W) m n hal hdp hm (by omega) (by omega)
    refine ⟨fun z => ?_, ih.2⟩
    obtain ⟨n', acc', P', m', q1, q2, q3, q4, q5, -⟩ := ih.1 z
    refine ⟨n', acc', P' ++ [3000], m', q1, ?_, ?_, q4.snoc (by decide), q5, trivial⟩
    · rw [q2, List.append_assoc]; rfl
    · rw [List.map_append, ← List.append_assoc, q3, List.append_assoc]; rfl
  · rw [if_neg h45, if_neg h45]
    by_cases h40 : g a = 40 ∧ deep < 4
    · rw [if_pos h40, if_pos h40]
      have hal := k_lt hg ha (by omega)
      have hb : (dropN m (deep + 1)).testBit (deep + 1) = false := by
        rw [dropN_bit hm (by omega) (by omega)]; simp
      have ih := i5 (deep + 1) (a + 1) acc (0 :: W) (dropN m (deep + 1)) n hal (by omega) (dropN_lt hm) (by omega) (by omega) (fun x hx => by cases hx; decide) hb
      have hle := rd_le hg f 5 (deep + 1) (a + 1) hal
      by_cases hok : (rd g f 5 (deep + 1) (a + 1)).2.1 = true
      · rw [if_pos hok]
        obtain ⟨n', acc', P', m', q1, q2, q3, q4, q5, q6⟩ := ih.1 hok
        obtain ⟨n', rfl⟩ : ∃ n2, n' = n2 + 1 := ⟨n' - 1, by omega⟩
        rw [q2, rn_1, aw_app q4 (fun x hx => by cases hx; decide)]
        by_cases h41 : g (rd g f 5 (deep + 1) (a + 1)).1 = 41
        · rw [if_pos h41, if_pos ⟨h41, by omega⟩]
          refine ⟨fun _ => ⟨n', acc' ++ P'.map nI, [], m', by dsimp only; omega, rfl, ?_, AllB.nil, ⟨q5.1, fun q hq => ?_⟩, trivial⟩, fun z => by cases z⟩
          · rw [q3]; simp
          · rw [q5.2 q (by omega), dropN_bit hm (by omega) (by omega), decide_eq_true (by omega), Bool.and_true]
        · rw [if_neg h41, if_neg (fun q => h41 q.1), if_neg (by omega)]
          exact ⟨fun z => by (cases z), fun _ => ⟨_, rfl⟩⟩
      · rw [if_neg hok]
        obtain ⟨acc', h⟩ := ih.2 (bfalse hok)
        exact ⟨fun z => by (cases z), fun _ => ⟨acc', h⟩⟩
    · rw [if_neg h40, if_neg h40]
      by_cases hd : 48 ≤ g a ∧ g a ≤ 57
      · rw [if_pos hd, if_pos hd]
        have h3 : a < (numF g 3 a 0).1 := by
          rw [numF_s, if_pos hd]
          exact (numF_le (g := g) (d := 2) (a := a + 1)).1
        exact ⟨fun _ => ⟨n, _, [], m, by dsimp only; omega, rfl, by simp, AllB.nil, ⟨hm, fun _ _ => rfl⟩, trivial⟩, fun z => by cases z⟩
      · rw [if_neg hd, if_neg hd]
        by_cases hl : isLet (g a) = true
        · rw [if_pos hl, if_pos hl]
          exact ⟨fun _ => ⟨n, _, [], m, by dsimp only; omega, rfl, by simp, AllB.nil, ⟨hm, fun _ _ => rfl⟩, trivial⟩, fun z => by cases z⟩
        · rw [if_neg hl, if_neg hl]
          exact ⟨fun z => by (cases z), fun _ => ⟨_, rfl⟩⟩
/-- an operator of binding b, and what is read behind it -/
theorem k_op {b m : Nat} {deep a : Nat} {acc : List Int32} {P W : List Nat} {n : Nat} (hx : jb (g a) m deep = b) (hb : 0 < b) (h41 : g a ≠ 41) (hP : AllB b P) (hW : Clr b W) :
    rn g (n + 1) true (a, acc, P ++ W, deep, m) = rn g n false (a + 1, acc ++ P.map nI, (2000 + g a) :: W, deep, if b = 1 then setN m deep else m) := by
  rw [rn_1, if_neg (fun q => h41 q.1), hx, if_pos hb, aw_app hP hW]
theorem jb_ne {x m dp : Nat} (h : bnd (2000 + x) ≠ 1) : jb x m dp = bnd (2000 + x) := by unfold jb; rw [if_neg (fun q => h q.1)]
theorem k_1 {f : Nat} (hg : ∀ i, lim ≤ i → g i = 256) (i0 : K0 g lim f) (i1 : K1 g lim f) : K1 g lim (f + 1) := by
  intro deep a acc P W m n ha hdp hm hf hn hP hW
  obtain ⟨n, rfl⟩ : ∃ n', n = n' + 1 := ⟨n - 1, by omega⟩
  rw [rd_1]
  by_cases hc : g a = 42 ∨ g a = 47
  · rw [if_pos hc]
    have hal := k_lt hg ha (by omega)
    have hb : bnd (2000 + g a) = 3 := by rcases hc with q | q <;> rw [q] <;> decide
    rw [k_op (b := 3) (by rw [jb_ne (by omega), hb]) (by decide) (by omega) hP hW, if_neg (show ¬ (3 : Nat) = 1 by decide)]
    have ih := i0 deep (a + 1) (acc ++ P.map nI) ((2000 + g a) :: W) m n hal hdp hm (by omega) (by omega)
    have hle := rd_le hg f 0 deep (a + 1) hal
    by_cases hok : (rd g f 0 deep (a + 1)).2.1 = true
    · rw [if_pos hok]
      have h4 := hle.2.2 hok
      obtain ⟨n', acc', P', m', q1, q2, q3, q4, q5, -⟩ := ih.1 hok
      have e : P' ++ (2000 + g a) :: W = (P' ++ [2000 + g a]) ++ W := by rw [List.append_assoc]; rfl
      rw [e] at q2
      rw [q2]
      have ih2 := i1 deep _ acc' (P' ++ [2000 + g a]) W m' n' hle.2.1 hdp q5.1 (by omega) q1 ((q4.le (by decide)).snoc (by omega)) hW
      refine ⟨fun z => ?_, fun z => ih2.2 z⟩
      obtain ⟨n2, acc2, P2, m2, r1, r2, r3, r4, r5, r6⟩ := ih2.1 z
      refine ⟨n2, acc2, P2, m2, r1, r2, ?_, r4, q5.tr r5, r6⟩
      rw [r3, List.map_append, ← List.append_assoc, q3]
      simp
    · rw [if_neg hok]
      obtain ⟨acc', h⟩ := ih.2 (bfalse hok)
      exact ⟨fun z => by (cases z), fun _ => ⟨acc', h⟩⟩
  · rw [if_neg hc]
    exact ⟨fun _ => ⟨n + 1, acc, P, m, by dsimp only; omega, rfl, by simp, hP, ⟨hm, fun _ _ => rfl⟩, ⟨fun q => hc (Or.inl q), fun q => hc (Or.inr q)⟩⟩, fun z => by cases z⟩
theorem k_2 {f : Nat} (hg : ∀ i, lim ≤ i → g i = 256) (i0 : K0 g lim f) (i1 : K1 g lim f) : K2 g lim (f + 1) := by
  intro deep a acc W m n ha hdp hm hf hn hW
  rw [rd_2]
  have ih := i0 deep a acc W m n ha hdp hm (by omega) hn
  have hle := rd_le hg f 0 deep a ha
  by_cases hok : (rd g f 0 deep a).2.1 = true
  · rw [if_pos hok]
    have h4 := hle.2.2 hok
    obtain ⟨n', acc', P', m', q1, q2, q3, q4, q5, -⟩ := ih.1 hok
    rw [q2]
    have ih2 := i1 deep _ acc' P' W m' n' hle.2.1 hdp q5.1 (by omega) q1 (q4.le (by decide)) hW
    refine ⟨fun z => ?_, fun z => ih2.2 z⟩
    obtain ⟨n2, acc2, P2, m2, r1, r2, r3, r4, r5, r6⟩ := ih2.1 z
    refine ⟨n2, acc2, P2, m2, r1, r2, ?_, r4, q5.tr r5, r6⟩
    rw [r3, q3]
    simp
  · rw [if_neg hok]
    obtain ⟨acc', h⟩ := ih.2 (bfalse hok)
    exact ⟨fun z => by (cases z), fun _ => ⟨acc', h⟩⟩
theorem k_3 {f : Nat} (hg : ∀ i, lim ≤ i → g i = 256) (i2 : K2 g lim f) (i3 : K3 g lim f) : K3 g lim (f + 1) := by
  intro deep a acc P W m n ha hdp hm hf hn hP hW hno
  obtain ⟨n, rfl⟩ : ∃ n', n = n' + 1 := ⟨n - 1, by omega⟩
  rw [rd_3]
  by_cases hc : g a = 43 ∨ g a = 45
  · rw [if_pos hc]
    have hal := k_lt hg ha (by omega)
    have hb : bnd (2000 + g a) = 2 := by rcases hc with q | q <;> rw [q] <;> decide
    rw [k_op (b := 2) (by rw [jb_ne (by omega), hb]) (by decide) (by omega) hP hW, if_neg (show ¬ (2 : Nat) = 1 by decide)]
    have ih := i2 deep (a + 1) (acc ++ P.map nI) ((2000 + g a) :: W) m n hal hdp hm (by omega) (by omega) (fun x hx => by cases hx; omega)
    have hle := rd_le hg f 2 deep (a + 1) hal
    by_cases hok : (rd g f 2 deep (a + 1)).2.1 = true
    · rw [if_pos hok]
      have h4 := hle.2.2 hok
      obtain ⟨n', acc', P', m', q1, q2, q3, q4, q5, q6⟩ := ih.1 hok
      have e : P' ++ (2000 + g a) :: W = (P' ++ [2000 + g a]) ++ W := by rw [List.append_assoc]; rfl
      rw [e] at q2
      rw [q2]
      have ih2 := i3 deep _ acc' (P' ++ [2000 + g a]) W m' n' hle.2.1 hdp q5.1 (by omega) q1 ((q4.le (by decide)).snoc (by omega)) hW q6
      refine ⟨fun z => ?_, fun z => ih2.2 z⟩
      obtain ⟨n2, acc2, P2, m2, r1, r2, r3, r4, r5, r6⟩ := ih2.1 z
      refine ⟨n2, acc2, P2, m2, r1, r2, ?_, r4, q5.tr r5, r6⟩
      rw [r3, List.map_append, ← List.append_assoc, q3]
      simp
    · rw [if_neg hok]
      obtain ⟨acc', h⟩ := ih.2 (bfalse hok)
      exact ⟨fun z => by (cases z), fun _ => ⟨acc', h⟩⟩
  · rw [if_neg hc]
    exact ⟨fun _ => ⟨n + 1, acc, P, m, by dsimp only; omega, rfl, by simp, hP, ⟨hm, fun _ _ => rfl⟩, ⟨hno.1, hno.2, fun q => hc (Or.inl q), fun q => hc (Or.inr q)⟩⟩, fun z => by cases z⟩
theorem k_4 {f : Nat} (hg : ∀ i, lim ≤ i → g i = 256) (i2 : K2 g lim f) (i3 : K3 g lim f) : K4 g lim (f + 1) := by
  intro deep a acc W m n ha hdp hm hf hn hW
  rw [rd_4]
  have ih := i2 deep a acc W m n ha hdp hm (by omega) hn (fun x hx => by have := hW x hx; omega)
  have hle := rd_le hg f 2 deep a ha
  by_cases hok : (rd g f 2 deep a).2.1 = true
  · rw [if_pos hok]
    have h4 := hle.2.2 hok
    obtain ⟨n', acc', P', m', q1, q2, q3, q4, q5, q6⟩ := ih.1 hok
    rw [q2]
    have ih2 := i3 deep _ acc' P' W m' n' hle.2.1 hdp q5.1 (by omega) q1 (q4.le (by decide)) hW q6
    refine ⟨fun z => ?_, fun z => ih2.2 z⟩
    obtain ⟨n2, acc2, P2, m2, r1, r2, r3, r4, r5, r6⟩ := ih2.1 z
    refine ⟨n2, acc2, P2, m2, r1, r2, ?_, r4, q5.tr r5, r6⟩
    rw [r3, q3]
    simp
  · rw [if_neg hok]
    obtain ⟨acc', h⟩ := ih.2 (bfalse hok)
    exact ⟨fun z => by (cases z), fun _ => ⟨acc', h⟩⟩
theorem bnd_join {x : Nat} (hx : x ≤ 256) : (bnd (2000 + x) = 1 ↔ (x = 60 ∨ x = 62 ∨ x = 61)) ∧ (x ≠ 42 → x ≠ 47 → x ≠ 43 → x ≠ 45 → ¬ (x = 60 ∨ x = 62 ∨ x = 61) → bnd (2000 + x) = 0) := by
  refine ⟨⟨fun h => ?_, fun h => ?_⟩, fun h1 h2 h3 h4 h5 => ?_⟩
  · unfold bnd at h
    split at h
    · omega
    · split at h
      · omega
      · split at h
        · omega
        · split at h
          · omega
          · omega
  · rcases h with h | h | h <;> rw [h] <;> decide
  · unfold bnd
    rw [if_neg (by omega), if_neg (by omega), if_neg (by omega), if_neg (by omega)]
theorem k_5 {f : Nat} (hg : ∀ i, lim ≤ i → g i = 256) (hb : ∀ i, g i ≤ 256) (i4 : K4 g lim f) : K5 g lim (f + 1) := by
  intro deep a acc W m n ha hdp hm hf hn hW hbit
  rw [show (5 : Nat) = 0 + 5 from rfl, rd_5]
  have ih := i4 deep a acc W m n ha hdp hm (by omega) hn (fun x hx => by have := hW x hx; omega)
  have hle := rd_le hg f 4 deep a ha
  by_cases hok : (rd g f 4 deep a).2.1 = true
  · rw [if_pos hok]
    have h4 := (hle.2.2 hok).2 (by decide) (by decide)
    obtain ⟨n', acc', P', m', q1, q2, q3, q4, q5, q6⟩ := ih.1 hok
    by_cases hc : g (rd g f 4 deep a).1 = 60 ∨ g (rd g f 4 deep a).1 = 62 ∨ g (rd g f 4 deep a).1 = 61
    · rw [if_pos hc, q2]
      have hal := k_lt hg hle.2.1 (by omega)
      obtain ⟨n', rfl⟩ : ∃ n2, n' = n2 + 1 := ⟨n' - 1, by omega⟩
      have hb1 := (bnd_join (hb (rd g f 4 deep a).1)).1.mpr hc
      have hj : jb (g (rd g f 4 deep a).1) m' deep = 1 := by
        unfold jb
        rw [q5.2 deep (Nat.lt_succ_self _), hbit, if_neg (fun q => by cases q.2), hb1]
      have hdp8 : deep < 8 := by omega
      rw [k_op (b := 1) hj (by decide) (by omega) (q4.le (by decide)) hW, if_pos rfl]
      have ih2 := i4 deep ((rd g f 4 deep a).1 + 1) (acc' ++ P'.map nI) ((2000 + g (rd g f 4 deep a).1) :: W) (setN m' deep) n' hal hdp (setN_lt q5.1 hdp8) (by omega) (by omega) (fun x hx => by cases hx; omega)
      by_cases hok2 : (rd g f 4 deep ((rd g f 4 deep a).1 + 1)).2.1 = true
      · rw [if_pos hok2]
        refine ⟨fun _ => ?_, fun z => by cases z⟩
        obtain ⟨n2, acc2, P2, m2, r1, r2, r3, r4, r5, r6⟩ := ih2.1 hok2
        have hbd := setN_bit q5.1 hdp8 hdp8
        refine ⟨n2, acc2, P2 ++ [2000 + g (rd g f 4 deep a).1], m2, r1, ?_, ?_, (r4.le (by decide)).snoc (by omega), ⟨r5.1, fun q hq => ?_⟩, ?_⟩
        · rw [r2, List.append_assoc]; rfl
        · rw [List.map_append, ← List.append_assoc, r3, q3]
          simp
        · rw [r5.2 q (by omega), setN_bit q5.1 hdp8 (by omega), decide_eq_false (by omega), Bool.or_false, q5.2 q (by omega)]
        · show jb (g (rd g f 4 deep ((rd g f 4 deep a).1 + 1)).1) m2 deep = 0
          by_cases hx : bnd (2000 + g (rd g f 4 deep ((rd g f 4 deep a).1 + 1)).1) = 1
          · unfold jb
            exact if_pos ⟨hx, by rw [r5.2 deep (Nat.lt_succ_self _), hbd]; simp⟩
          · rw [jb_ne hx]
            exact (bnd_join (hb _)).2 r6.1 r6.2.1 r6.2.2.1 r6.2.2.2 (fun z => hx ((bnd_join (hb _)).1.mpr z))
      · rw [if_neg hok2]
        obtain ⟨acc', h⟩ := ih2.2 (bfalse hok2)
        exact ⟨fun z => by (cases z), fun _ => ⟨acc', h⟩⟩
    · rw [if_neg hc]
      refine ⟨fun _ => ⟨n', acc', P', m', q1, q2, q3, q4.le (by decide), ⟨q5.1, fun q hq => q5.2 q (by omega)⟩, ?_⟩, fun z => by rw [hok] at z; cases z⟩
      show jb (g (rd g f 4 deep a).1) m' deep = 0
      rw [jb_ne (fun q => hc ((bnd_join (hb _)).1.mp q))]
      exact (bnd_join (hb _)).2 q6.1 q6.2.1 q6.2.2.1 q6.2.2.2 hc
  · rw [if_neg hok]
    obtain ⟨acc', h⟩ := ih.2 (bfalse hok)
    exact ⟨fun z => by (cases z), fun _ => ⟨acc', h⟩⟩
theorem k_all (hg : ∀ i, lim ≤ i → g i = 256) (hb : ∀ i, g i ≤ 256) : ∀ f, K0 g lim f ∧ K1 g lim f ∧ K2 g lim f ∧ K3 g lim f ∧ K4 g lim f ∧ K5 g lim f
  | 0 => ⟨fun _ _ _ _ _ _ _ _ _ h => absurd h (by omega), fun _ _ _ _ _ _ _ _ _ _ h => absurd h (by omega), fun _ _ _ _ _ _ _ _ _ h => absurd h (by omega), fun _ _ _ _ _ _ _ _ _ _ h => absurd h (by omega), fun _ _ _ _ _ _ _ _ _ h => absurd h (by omega), fun _ _ _ _ _ _ _ _ _ h => absurd h (by omega)⟩
  | f + 1 => by
    obtain ⟨h0, h1, h2, h3, h4, h5⟩ := k_all hg hb f
    exact ⟨k_0 hg h0 h5, k_1 hg h0 h1, k_2 hg h0 h1, k_3 hg h2 h3, k_4 hg h2 h3, k_5 hg hb h4⟩
/-- what the class's reading comes to -/
theorem rn_rd (hg : ∀ i, lim ≤ i → g i = 256) (hb : ∀ i, g i ≤ 256) {n f : Nat} (hn : lim < n) (hf : 8 * lim + 6 ≤ f) : rn g n false (0, [], [], 0, 0) = rd g f 5 0 0 ∨ ((rd g f 5 0 0).2.1 = false ∧ ∃ acc, rn g n false (0, [], [], 0, 0) = ((rd g f 5 0 0).1, false, acc)) := by
  have h := (k_all hg hb f).2.2.2.2.2 0 0 [] [] 0 n (by omega) (by omega) (by omega) (by omega) (by omega) (fun x hx => by cases hx) (by decide)
  by_cases hok : (rd g f 5 0 0).2.1 = true
  · obtain ⟨n', acc', P', m', q1, q2, q3, q4, q5, q6⟩ := h.1 hok
    have hle := (rd_le hg f 5 0 0 (Nat.zero_le _)).2.1
    obtain ⟨n', rfl⟩ : ∃ n2, n' = n2 + 1 := ⟨n' - 1, by omega⟩
    refine Or.inl ?_
    rw [q2, rn_1, if_neg (fun q => by omega), if_neg (by rw [q6]; omega), aw_app q4 (fun x hx => by cases hx), q3]
    generalize rd g f 5 0 0 = p at *
    obtain ⟨p1, p2, p3⟩ := p
    have hok : p2 = true := hok
    rw [hok]
    rfl
  · exact Or.inr ⟨bfalse hok, h.2 (bfalse hok)⟩
/-- a rule that was read leaves one value -/
def Rr1 (g : Nat → Nat) (f m : Nat) : Prop := ∀ (env : Int32 → Int32) (deep a : Nat), (rd g f m deep a).2.1 = true → ∀ st, ∃ v, rrun env st (rd g f m deep a).2.2 = v :: st
def Rr2 (g : Nat → Nat) (f m : Nat) : Prop := ∀ (env : Int32 → Int32) (deep a : Nat), (rd g f m deep a).2.1 = true → ∀ u st, ∃ v, rrun env (u :: st) (rd g f m deep a).2.2 = v :: st
theorem rr_all : ∀ f, Rr1 g f 0 ∧ Rr2 g f 1 ∧ Rr1 g f 2 ∧ Rr2 g f 3 ∧ Rr1 g f 4 ∧ Rr1 g f 5
  | 0 => ⟨fun _ _ _ h => Bool.noConfusion (show false = true from h), fun _ _ _ h => Bool.noConfusion (show false = true from h), fun _ _ _ h => Bool.noConfusion (show false = true from h), fun _ _ _ h => Bool.noConfusion (show false = true from h), fun _ _ _ h => Bool.noConfusion (show false = true from h), fun _ _ _ h => Bool.noConfusion (show false = true from h)⟩
  | f + 1 => by
    obtain ⟨h0, h1, h2, h3, h4, h5⟩ := rr_all f
    refine ⟨fun env deep a => ?_, fun env deep a => ?_, fun env deep a => ?_, fun env deep a => ?_, fun env deep a => ?_, fun env deep a => ?_⟩
    · rw [rd_0]
      split
      · intro h st
        obtain ⟨v, hv⟩ := h0 env _ _ h st
        exact ⟨-v, by rw [rrun_app, hv]; exact rst_neg (env := env)⟩
      · split
        · split
          · rename_i h
            split
            · intro _ st; exact h5 env _ _ h st
            · intro h; cases h
          · intro h; cases h
        · split
          · intro _ st
            exact ⟨_, rst_num (Nat.lt_of_lt_of_le (numF_le (g := g) (d := 3) (a := a) (v := 0)).2.2 (by decide))⟩
          · split
            · rename_i hl
              intro _ st
              exact ⟨_, rst_let (by have := isLet_lt hl; omega)⟩
            · intro h; cases h
    · rw [rd_1]
      split
      · rename_i hc
        split
        · rename_i h
          intro h' u st
          obtain ⟨v, hv⟩ := h0 env _ _ h (u :: st)
          rw [rrun_app, hv]
          show ∃ w, rrun env (rst env (v :: u :: st) (nI (2000 + g a))) _ = _
          rw [rst_jn (by omega)]
          exact h1 env _ _ h' _ st
        · intro h; cases h
      · intro _ u st; exact ⟨u, rfl⟩
    · rw [rd_2]
      split
      · rename_i h
        intro h' st
        obtain ⟨v, hv⟩ := h0 env _ _ h st
        rw [rrun_app, hv]
        exact h1 env _ _ h' v st
      · intro h; cases h
    · rw [rd_3]
      split
      · rename_i hc
        split
        · rename_i h
          intro h' u st
          obtain ⟨v, hv⟩ := h2 env _ _ h (u :: st)
          rw [rrun_app, hv]
          show ∃ w, rrun env (rst env (v :: u :: st) (nI (2000 + g a))) _ = _
          rw [rst_jn (by omega)]
          exact h3 env _ _ h' _ st
        · intro h; cases h
      · intro _ u st; exact ⟨u, rfl⟩
    · rw [rd_4]
      split
      · rename_i h
        intro h' st
        obtain ⟨v, hv⟩ := h2 env _ _ h st
        rw [rrun_app, hv]
        exact h3 env _ _ h' v st
      · intro h; cases h
    · rw [show (5 : Nat) = 0 + 5 from rfl, rd_5]
      split
      · rename_i h
        split
        · rename_i hc
          split
          · rename_i h2
            intro _ st
            obtain ⟨v, hv⟩ := h4 env _ _ h st
            obtain ⟨w, hw⟩ := h4 env _ _ h2 (v :: st)
            rw [rrun_app, hv, rrun_app, hw]
            exact ⟨_, rst_jn (env := env) (by omega)⟩
          · intro h; cases h
        · intro _ st; exact h4 env _ _ h st
      · intro h; cases h
end K
