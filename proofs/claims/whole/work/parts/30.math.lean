/-! numbers, masks, choices -/
theorem nIx {a b : Nat} (h : a + b < 2147483648) : (nI a + nI b).toNatClampNeg = a + b := by rw [nI_add, nI_clamp h]
theorem nIc {a : Nat} (h : a < 2147483648) : (nI a).toNatClampNeg = a := nI_clamp h
theorem vpx {a b N : Nat} (h : a + b < N) (hN : N < 2147483648) : vp_in (nI a + nI b) N := by rw [nI_add]; exact vp_in_nI h hN
theorem vpn {a N : Nat} (h : a < N) (hN : N < 2147483648) : vp_in (nI a) N := vp_in_nI h hN
theorem nIs (a : Nat) : nI a + nI 1 = nI (a + 1) := nI_add a 1
/-- a set of the eight as a number -/
def mkN (f : Nat → Bool) : Nat → Nat
  | 0 => 0
  | n + 1 => if f n then mkN f n + 2 ^ n else mkN f n
theorem mkN_lt (f : Nat → Bool) : ∀ n, mkN f n < 2 ^ n
  | 0 => Nat.zero_lt_one
  | n + 1 => by
    have := mkN_lt f n
    unfold mkN
    split <;> omega
theorem mkN_bit (f : Nat → Bool) : ∀ n p, p < n → (mkN f n).testBit p = f p
  | 0, _, h => by omega
  | n + 1, p, h => by
    have hl := mkN_lt f n
    unfold mkN
    by_cases e : p = n
    · subst e
      split
      · rename_i hf
        rw [Nat.add_comm, Nat.testBit_two_pow_add_eq, Nat.testBit_lt_two_pow hl, hf]; rfl
      · rename_i hf
        rw [Nat.testBit_lt_two_pow hl]; simpa using hf
    · have hp : p < n := by omega
      split
      · rw [Nat.add_comm, Nat.testBit_two_pow_add_gt hp, mkN_bit f n p hp]
      · exact mkN_bit f n p hp
theorem mkN8 (f : Nat → Bool) : mkN f 8 < 256 := mkN_lt f 8
theorem mkN_congr {f g : Nat → Bool} : ∀ n, (∀ p, p < n → f p = g p) → mkN f n = mkN g n
  | 0, _ => rfl
  | n + 1, h => by
    unfold mkN
    rw [h n (by omega), mkN_congr n (fun p hp => h p (by omega))]
/-- a set told by a number is the set of its bits -/
theorem mkN_self {m : Nat} (h : m < 256) : mkN (fun p => m.testBit p) 8 = m := by
  have h1 : ∀ m < 256, mkN (fun p => m.testBit p) 8 = m := by decide +kernel
  exact h1 m h
theorem bit_or {p m : Nat} (hp : p < 8) (hm : m < 2 ^ p) : nI m ||| (nI 1 <<< (nI p &&& 31)) = nI (m + 2 ^ p) := by
  have h : ∀ p < 8, ∀ m < 256, m < 2 ^ p → nI m ||| (nI 1 <<< (nI p &&& 31)) = nI (m + 2 ^ p) := by decide +kernel
  exact h p hp m (Nat.lt_of_lt_of_le hm (Nat.pow_le_pow_right (by decide) (by omega : p ≤ 8))) hm
theorem mk_t {f : Nat → Bool} {n : Nat} (hn : n < 8) (h : f n = true) : nI (mkN f n) ||| (nI 1 <<< (nI n &&& 31)) = nI (mkN f (n + 1)) := by
  have e : mkN f (n + 1) = mkN f n + 2 ^ n := by show (if f n then _ else _) = _; rw [if_pos h]
  rw [bit_or hn (mkN_lt f n), e]
theorem mk_f {f : Nat → Bool} {n : Nat} (h : f n = false) : mkN f (n + 1) = mkN f n := by
  show (if f n then _ else _) = _
  rw [if_neg (by rw [h]; decide)]
/-- one of a set -/
theorem bit_in {m p : Nat} (hm : m < 256) (hp : p < 8) : (nI m >>> (nI p &&& 31)) &&& nI 1 = if m.testBit p then nI 1 else nI 0 := by
  have h : ∀ m < 256, ∀ p < 8, (nI m >>> (nI p &&& 31)) &&& nI 1 = if m.testBit p then nI 1 else nI 0 := by decide +kernel
  exact h m hm p hp
def dropN (m p : Nat) : Nat := if m.testBit p then m - 2 ^ p else m
theorem bit_drop {m p : Nat} (hm : m < 256) (hp : p < 8) : nI m &&& ((nI 1 <<< (nI p &&& 31)) ^^^ (-1)) = nI (dropN m p) := by
  have h : ∀ m < 256, ∀ p < 8, nI m &&& ((nI 1 <<< (nI p &&& 31)) ^^^ (-1)) = nI (dropN m p) := by decide +kernel
  exact h m hm p hp
theorem dropN_bit {m p q : Nat} (hm : m < 256) (hp : p < 8) (hq : q < 8) : (dropN m p).testBit q = (m.testBit q && decide (q ≠ p)) := by
  have h : ∀ m < 256, ∀ p < 8, ∀ q < 8, (dropN m p).testBit q = (m.testBit q && decide (q ≠ p)) := by decide +kernel
  exact h m hm p hp q hq
theorem dropN_lt {m p : Nat} (hm : m < 256) : dropN m p < 256 := by unfold dropN; split; exact Nat.lt_of_le_of_lt (Nat.sub_le _ _) hm; exact hm
/-- the first with the greatest, among the first n -/
def pick (w : Nat → Int32) (S : Nat → Bool) : Nat → Option Nat
  | 0 => none
  | n + 1 => match pick w S n with
    | none => if S n then some n else none
    | some b => if S n && decide (w b < w n) then some n else some b
def oI : Option Nat → Int32
  | none => -1
  | some p => nI p
theorem pick_in {w : Nat → Int32} {S : Nat → Bool} : ∀ {n b : Nat}, pick w S n = some b → b < n ∧ S b = true
  | 0, b, h => by cases h
  | n + 1, b, h => by
    unfold pick at h
    cases e : pick w S n with
    | none =>
      rw [e] at h
      dsimp only at h
      split at h
      · cases h; exact ⟨by omega, by assumption⟩
      · cases h
    | some b' =>
      rw [e] at h
      have := pick_in e
      dsimp only at h
      split at h
      · rename_i hc
        cases h
        simp only [Bool.and_eq_true] at hc
        exact ⟨by omega, hc.1⟩
      · cases h; exact ⟨by omega, this.2⟩
theorem pick_none {w : Nat → Int32} {S : Nat → Bool} : ∀ {n : Nat}, pick w S n = none ↔ ∀ p, p < n → S p = false
  | 0 => by simp [pick]
  | n + 1 => by
    unfold pick
    cases e : pick w S n with
    | none =>
      have h := pick_none.mp e
      dsimp only
      constructor
      · intro q p hp
        by_cases ep : p = n
        · subst ep
          by_cases hs : S p = true
          · rw [if_pos hs] at q; cases q
          · simpa using hs
        · exact h p (by omega)
      · intro q
        rw [if_neg (by rw [q n (by omega)]; decide)]
    | some b =>
      obtain ⟨h1, h2⟩ := pick_in e
      dsimp only
      constructor
      · intro q; split at q <;> cases q
      · intro q; rw [q b (by omega)] at h2; cases h2
theorem pick_congr {w w' : Nat → Int32} {S S' : Nat → Bool} : ∀ {n : Nat}, (∀ p, p < n → S p = S' p) → (∀ p, p < n → S p = true → w p = w' p) → pick w S n = pick w' S' n
  | 0, _, _ => rfl
  | n + 1, h1, h2 => by
    have ih := pick_congr (n := n) (fun p hp => h1 p (by omega)) (fun p hp => h2 p (by omega))
    unfold pick
    rw [← ih, ← h1 n (by omega)]
    cases e : pick w S n with
    | none => rfl
    | some b =>
      obtain ⟨g1, g2⟩ := pick_in e
      dsimp only
      by_cases hs : S n = true
      · rw [h2 b (by omega) g2, h2 n (by omega) hs]
      · simp [hs]
/-- how many of the first n -/
def cnt (f : Nat → Bool) : Nat → Nat
  | 0 => 0
  | n + 1 => cnt f n + (if f n then 1 else 0)
theorem cnt_le (f : Nat → Bool) : ∀ n, cnt f n ≤ n
  | 0 => Nat.le_refl _
  | n + 1 => by
    have := cnt_le f n
    unfold cnt
    split <;> omega
theorem cnt_congr {f g : Nat → Bool} : ∀ n, (∀ p, p < n → f p = g p) → cnt f n = cnt g n
  | 0, _ => rfl
  | n + 1, h => by
    unfold cnt
    rw [h n (by omega), cnt_congr n (fun p hp => h p (by omega))]
/-- what holds of memory but for the cells W -/
def Ag (W : List Nat) (m m' : Nat → Nat → Int32) : Prop := ∀ c, c ∉ W → m' c = m c
theorem Ag.rfl' {W : List Nat} {m : Nat → Nat → Int32} : Ag W m m := fun _ _ => rfl
theorem Ag.trans {W : List Nat} {m m1 m2 : Nat → Nat → Int32} (h1 : Ag W m m1) (h2 : Ag W m1 m2) : Ag W m m2 := fun c hc => (h2 c hc).trans (h1 c hc)
theorem Ag.mono {W W' : List Nat} {m m1 : Nat → Nat → Int32} (h : Ag W m m1) (hw : ∀ c ∈ W, c ∈ W') : Ag W' m m1 := fun c hc => h c (fun q => hc (hw c q))
theorem Ag.u2 {W : List Nat} {m m1 : Nat → Nat → Int32} {a i : Nat} {x : Int32} (h : Ag W m m1) (ha : a ∈ W) : Ag W m (xu2 m1 a i x) := fun c hc => by
  rw [xu2_ne (fun q => hc (by rw [q]; exact ha))]
  exact h c hc
theorem Ag.uA {W : List Nat} {m m1 : Nat → Nat → Int32} {a : Nat} {f : Nat → Int32} (h : Ag W m m1) (ha : a ∈ W) : Ag W m (xuA m1 a f) := fun c hc => by
  rw [xuA_ne (fun q => hc (by rw [q]; exact ha))]
  exact h c hc
