/-! a quarter, as what becomes of the cells -/
section Q
variable {c c' : Nat → Int32} {g g' : Nat → Int32} {k n i p : Nat} {x : Int32}
/-- n entries written from k on -/
def wr (c : Nat → Int32) (k n : Nat) (g : Nat → Int32) : Nat → Int32 := fun i => if k ≤ i ∧ i < k + n then g (i - k) else c i
theorem wr_0 : wr c k 0 g = c := by funext i; unfold wr; rw [if_neg (by omega)]
theorem wr_s : upd (wr c k n g) (k + n) (g n) = wr c k (n + 1) g := by
  funext i
  unfold upd wr
  by_cases h : i = k + n
  · rw [if_pos h, if_pos (by omega), show i - k = n by omega]
  · rw [if_neg h]
    by_cases h1 : k ≤ i ∧ i < k + n
    · rw [if_pos h1, if_pos (by omega)]
    · rw [if_neg h1, if_neg (by omega)]
theorem wr_u (h : g n = c (k + n)) : wr c k (n + 1) g = wr c k n g := by
  funext i
  unfold wr
  by_cases h1 : k ≤ i ∧ i < k + n
  · rw [if_pos h1, if_pos (by omega)]
  · rw [if_neg h1]
    by_cases h2 : i = k + n
    · rw [if_pos (by omega), show i - k = n by omega, h, h2]
    · rw [if_neg (by omega)]
theorem wr_at (h : p < n) : wr c k n g (k + p) = g p := by unfold wr; rw [if_pos (by omega), show k + p - k = p by omega]
theorem wr_ne (h : i < k ∨ k + n ≤ i) : wr c k n g i = c i := by unfold wr; rw [if_neg (by omega)]
theorem wr_congr (h : ∀ p, p < n → g p = g' p) : wr c k n g = wr c k n g' := by
  funext i
  unfold wr
  by_cases h1 : k ≤ i ∧ i < k + n
  · rw [if_pos h1, if_pos h1, h _ (by omega)]
  · rw [if_neg h1, if_neg h1]
theorem wr_congr2 (hc : ∀ i, c i = c' i) (h : ∀ p, p < n → g p = g' p) : wr c k n g = wr c' k n g' := by rw [show c = c' from funext hc]; exact wr_congr h
theorem wr_upd (h : i < k ∨ k + n ≤ i) : wr (upd c i x) k n g = upd (wr c k n g) i x := by
  funext j
  show (if k ≤ j ∧ j < k + n then g (j - k) else if j = i then x else c j) = (if j = i then x else if k ≤ j ∧ j < k + n then g (j - k) else c j)
  by_cases h1 : k ≤ j ∧ j < k + n
  · rw [if_pos h1, if_neg (by omega), if_pos h1]
  · rw [if_neg h1, if_neg h1]
theorem upd_at {c : Nat → Int32} {i : Nat} {x : Int32} : upd c i x i = x := by unfold upd; rw [if_pos rfl]
theorem upd_ne {c : Nat → Int32} {i j : Nat} {x : Int32} (h : j ≠ i) : upd c i x j = c j := by unfold upd; rw [if_neg h]
end Q
/-- how things stand: rooms, people, chairs, who is sick, where one goes, the two rules -/
abbrev xCf : Type := Nat × Nat × (Nat → Nat) × (Nat → Int32) × (Int32 → Nat → Int32) × ((Nat → Int32) → Nat → Int32) × ((Nat → Int32) → Nat → Int32)
def fR (f : xCf) : Nat := f.1
def fN (f : xCf) : Nat := f.2.1
def fH (f : xCf) : Nat → Nat := f.2.2.1
def fK (f : xCf) : Nat → Int32 := f.2.2.2.1
def fP (f : xCf) : Int32 → Nat → Int32 := f.2.2.2.2.1
def fA (f : xCf) : (Nat → Int32) → Nat → Int32 := f.2.2.2.2.2.1
def fG (f : xCf) : (Nat → Int32) → Nat → Int32 := f.2.2.2.2.2.2
/-- who is left, when the greatest went, k times -/
def lf (w : Nat → Int32) (S : Nat → Bool) : Nat → Nat → Bool
  | 0 => S
  | k + 1 => match pick w (lf w S k) 8 with
    | none => lf w S k
    | some b => fun p => lf w S k p && decide (p ≠ b)
def goPn (f : xCf) (c : Nat → Int32) (n : Nat) : Nat → Int32 := wr (wr c 8 n (fun p => if fP f (c 120) p = -1 then 0 else if fP f (c 120) p ≠ c p then 1 else c (8 + p))) 0 n (fun p => fP f (c 120) p)
def goP (f : xCf) (c : Nat → Int32) : Nat → Int32 := goPn f c (fN f)
/-- those of a pose in a room -/
def psS (N : Nat) (c : Nat → Int32) (r : Nat) (x : Int32) : Nat → Bool := fun p => decide (p < N) && decide (c p = nI r) && decide (c (8 + p) = x)
def posW (c : Nat → Int32) (S T : Nat → Bool) (x : Int32) : Nat → Int32 := wr c 8 8 (fun p => if S p && !(T p) then x else c (8 + p))
def rm1 (f : xCf) (c : Nat → Int32) (r : Nat) : Nat → Int32 :=
  if fH f r < cnt (psS (fN f) c r 2) 8 then posW c (psS (fN f) c r 2) (lf (fG f c) (psS (fN f) c r 2) (cnt (psS (fN f) c r 2) 8 - fH f r)) 1
  else posW c (psS (fN f) c r 1) (lf (fA f c) (psS (fN f) c r 1) (fH f r - cnt (psS (fN f) c r 2) 8)) 2
def asS (f : xCf) (c : Nat → Int32) (r : Nat) : Nat → Bool := fun p => psS (fN f) c r 1 p && decide (1 ≤ c (24 + p))
def giS (f : xCf) (c : Nat → Int32) (r : Nat) : Nat → Bool := fun p => psS (fN f) c r 2 p && decide (1 ≤ c (16 + p)) && decide (fK f p = 0)
def askR (f : xCf) (c : Nat → Int32) (r : Nat) : Option (Nat × Nat) := match pick (fA f c) (asS f c r) 8, pick (fG f c) (giS f c r) 8 with
  | some a, some b => some (a, b)
  | _, _ => none
/-- b gives its chair to a -/
def giv (c : Nat → Int32) (b a : Nat) : Nat → Int32 := upd (upd (upd (upd (upd c (8 + b) 1) (8 + a) 2) (56 + 8 * b + a) (c (56 + 8 * b + a) + 1)) (48 + b) (c (48 + b) + 1)) (48 + a) (c (48 + a) - 1)
def rmG (f : xCf) (c : Nat → Int32) (r : Nat) : Nat → Int32 := match askR f c r with
  | some (a, b) => giv c b a
  | none => c
def rms (f : xCf) (c : Nat → Int32) : Nat → Nat → Int32
  | 0 => c
  | r + 1 => rmG f (rm1 f (rms f c r) r) r
def rmA (f : xCf) (c : Nat → Int32) (r : Nat) : Option (Nat × Nat) := askR f (rm1 f (rms f c r) r) r
def nAsk (f : xCf) (c : Nat → Int32) : Nat → Nat := cnt (fun r => (rmA f c r).isSome)
def b01 (b : Prop) [Decidable b] : Int32 := if b then 1 else 0
def cntQn (c : Nat → Int32) (n : Nat) : Nat → Int32 := wr (wr (wr (wr c 16 n (fun p => if c (8 + p) = 2 then c (16 + p) + 1 else 0)) 24 n (fun p => if c (8 + p) = 1 then c (24 + p) + 1 else 0)) 32 n (fun p => c (32 + p) + b01 (c (8 + p) = 2))) 40 n (fun p => c (40 + p) + b01 (c (8 + p) = 1))
def cntQ (N : Nat) (c : Nat → Int32) : Nat → Int32 := upd (cntQn c N) 120 (c 120 + 1)
def qtr (f : xCf) (c : Nat → Int32) : Nat → Int32 := cntQ (fN f) (rms f (goP f c) (fR f))
def qAsk (f : xCf) (c : Nat → Int32) : Nat := nAsk f (goP f c) (fR f)
def qtrs (f : xCf) (c : Nat → Int32) : Nat → Nat → Int32
  | 0 => c
  | n + 1 => qtr f (qtrs f c n)
def qAsks (f : xCf) (c : Nat → Int32) : Nat → Nat
  | 0 => 0
  | n + 1 => qAsks f c n + qAsk f (qtrs f c n)
/-! how many are left -/
theorem cnt_rm {S : Nat → Bool} {b : Nat} : ∀ {n : Nat}, b < n → S b = true → cnt (fun p => S p && decide (p ≠ b)) n + 1 = cnt S n
  | n + 1, h, hs => by
    show cnt (fun p => S p && decide (p ≠ b)) n + (if (S n && decide (n ≠ b)) = true then 1 else 0) + 1 = cnt S n + (if S n = true then 1 else 0)
    by_cases e : n = b
    · subst e
      rw [hs, if_neg (by simp), if_pos rfl, cnt_congr (g := S) n (fun p hp => by rw [decide_eq_true (by omega : p ≠ n)]; simp)]
    · have ih := cnt_rm (n := n) (by omega) hs
      rw [decide_eq_true e, Bool.and_true]
      omega
theorem cnt_zero {S : Nat → Bool} : ∀ {n : Nat}, cnt S n = 0 → ∀ p, p < n → S p = false
  | n + 1, h, p, hp => by
    have h' : cnt S n + (if S n = true then 1 else 0) = 0 := h
    by_cases e : p = n
    · subst e
      by_cases q : S p = true
      · rw [if_pos q] at h'; omega
      · simpa using q
    · exact cnt_zero (n := n) (by omega) p (by omega)
theorem cnt_none {S : Nat → Bool} : ∀ {n : Nat}, (∀ p, p < n → S p = false) → cnt S n = 0
  | 0, _ => rfl
  | n + 1, h => by
    show cnt S n + (if S n = true then 1 else 0) = 0
    rw [cnt_none (n := n) (fun p hp => h p (by omega)), h n (by omega)]
    rfl
theorem lf_n {w : Nat → Int32} {S : Nat → Bool} {k : Nat} (e : pick w (lf w S k) 8 = none) : lf w S (k + 1) = lf w S k := by
  show (match pick w (lf w S k) 8 with | none => lf w S k | some b => fun p => lf w S k p && decide (p ≠ b)) = _
  rw [e]
theorem lf_s {w : Nat → Int32} {S : Nat → Bool} {k b : Nat} (e : pick w (lf w S k) 8 = some b) : lf w S (k + 1) = fun p => lf w S k p && decide (p ≠ b) := by
  show (match pick w (lf w S k) 8 with | none => lf w S k | some b => fun p => lf w S k p && decide (p ≠ b)) = _
  rw [e]
theorem lf_sub {w : Nat → Int32} {S : Nat → Bool} {p : Nat} : ∀ {k : Nat}, lf w S k p = true → S p = true
  | 0, h => h
  | k + 1, h => by
    cases e : pick w (lf w S k) 8 with
    | none => rw [lf_n e] at h; exact lf_sub h
    | some b =>
      rw [lf_s e] at h
      simp only [Bool.and_eq_true] at h
      exact lf_sub h.1
theorem lf_cnt {w : Nat → Int32} {S : Nat → Bool} : ∀ {k : Nat}, cnt (lf w S k) 8 = cnt S 8 - k
  | 0 => rfl
  | k + 1 => by
    have ih := lf_cnt (w := w) (S := S) (k := k)
    cases e : pick w (lf w S k) 8 with
    | none =>
      have := cnt_none (pick_none.mp e)
      rw [lf_n e]
      omega
    | some b =>
      have h := pick_in e
      have := cnt_rm h.1 h.2
      rw [lf_s e]
      omega
theorem lf_empty {w : Nat → Int32} {S : Nat → Bool} {k : Nat} (h : cnt S 8 ≤ k) : ∀ p, p < 8 → lf w S k p = false := cnt_zero (by rw [lf_cnt]; omega)
theorem lf_congr {w w' : Nat → Int32} {S S' : Nat → Bool} (h1 : ∀ p, p < 8 → S p = S' p) (h2 : ∀ p, p < 8 → S p = true → w p = w' p) : ∀ k p, p < 8 → lf w S k p = lf w' S' k p
  | 0, p, hp => h1 p hp
  | k + 1, p, hp => by
    have ih := lf_congr h1 h2 k
    have e : pick w (lf w S k) 8 = pick w' (lf w' S' k) 8 := pick_congr ih (fun q hq hs => h2 q hq (lf_sub hs))
    cases e' : pick w' (lf w' S' k) 8 with
    | none => rw [lf_n e', lf_n (e.trans e')]; exact ih p hp
    | some b =>
      rw [lf_s e', lf_s (e.trans e')]
      show (lf w S k p && _) = (lf w' S' k p && _)
      rw [ih p hp]
theorem posW_congr {c : Nat → Int32} {S S' T T' : Nat → Bool} {x : Int32} (h1 : ∀ p, p < 8 → S p = S' p) (h2 : ∀ p, p < 8 → S p = true → T p = T' p) : posW c S T x = posW c S' T' x := by
  unfold posW
  apply wr_congr
  intro p hp
  rw [← h1 p hp]
  by_cases hs : S p = true
  · rw [h2 p hp hs]
  · simp [hs]
