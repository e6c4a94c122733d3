/-! poses and places that can be; what a quarter keeps -/
def PV (N : Nat) (c : Nat → Int32) : Prop := ∀ p, p < N → (c p = -1 ∧ c (8 + p) = 0) ∨ (c p ≠ -1 ∧ (c (8 + p) = 1 ∨ c (8 + p) = 2))
theorem i12 : (1 : Int32) ≠ 2 := by decide
theorem i21 : (2 : Int32) ≠ 1 := by decide
theorem i01 : (0 : Int32) ≠ 1 := by decide
theorem i02 : (0 : Int32) ≠ 2 := by decide
theorem i10 : (1 : Int32) ≠ 0 := by decide
theorem i20 : (2 : Int32) ≠ 0 := by decide
theorem b01_t {p : Prop} [Decidable p] (h : p) : b01 p = 1 := if_pos h
theorem b01_f {p : Prop} [Decidable p] (h : ¬ p) : b01 p = 0 := if_neg h
theorem b01_0 {p : Prop} [Decidable p] : b01 p = 0 ↔ ¬ p := by
  by_cases h : p
  · rw [b01_t h]; exact ⟨fun q => absurd q i10, fun q => absurd h q⟩
  · rw [b01_f h]; exact ⟨fun _ => h, fun _ => rfl⟩
theorem b01_1 {p : Prop} [Decidable p] : b01 p = 1 ↔ p := by
  by_cases h : p
  · rw [b01_t h]; exact ⟨fun _ => h, fun _ => rfl⟩
  · rw [b01_f h]; exact ⟨fun q => absurd q i01, fun q => absurd q h⟩
theorem PV.p0 {N : Nat} {c : Nat → Int32} (h : PV N c) {p : Nat} (hp : p < N) (e : c p = -1) : c (8 + p) = 0 := by
  rcases h p hp with q | q
  · exact q.2
  · exact absurd e q.1
theorem PV.p12 {N : Nat} {c : Nat → Int32} (h : PV N c) {p : Nat} (hp : p < N) (e : c p ≠ -1) : c (8 + p) = 1 ∨ c (8 + p) = 2 := by
  rcases h p hp with q | q
  · exact absurd q.1 e
  · exact q.2
theorem psS_t {N : Nat} {c : Nat → Int32} {r p : Nat} {x : Int32} : psS N c r x p = true ↔ p < N ∧ c p = nI r ∧ c (8 + p) = x := by
  unfold psS
  simp only [Bool.and_eq_true, decide_eq_true_eq, and_assoc]
theorem posW_lo {c : Nat → Int32} {S T : Nat → Bool} {x : Int32} {i : Nat} (h : i < 8 ∨ 16 ≤ i) : posW c S T x i = c i := by unfold posW; rw [wr_ne (by omega)]
theorem posW_p {c : Nat → Int32} {S T : Nat → Bool} {x : Int32} {p : Nat} (h : p < 8) : posW c S T x (8 + p) = if S p && !(T p) then x else c (8 + p) := by unfold posW; rw [wr_at h]
theorem PV_posW {N : Nat} {c : Nat → Int32} {S T : Nat → Bool} {x : Int32} (hN : N ≤ 8) (h : PV N c) (hS : ∀ p, S p = true → c p ≠ -1) (hx : x = 1 ∨ x = 2) : PV N (posW c S T x) := fun p hp => by
  rw [posW_lo (by omega), posW_p (by omega)]
  by_cases q : (S p && !(T p)) = true
  · rw [if_pos q]
    simp only [Bool.and_eq_true] at q
    exact Or.inr ⟨hS p q.1, hx⟩
  · rw [if_neg q]
    exact h p hp
theorem nI_nm' {a : Nat} (h : a < 4) : nI a ≠ -1 := nI_nm (by omega)
theorem PV_rm1 {f : xCf} {c : Nat → Int32} {r : Nat} (hN : fN f ≤ 8) (hr : r < 4) (h : PV (fN f) c) : PV (fN f) (rm1 f c r) := by
  unfold rm1
  split
  · exact PV_posW hN h (fun p z => by rw [(psS_t.mp z).2.1]; exact nI_nm' hr) (Or.inl rfl)
  · exact PV_posW hN h (fun p z => by rw [(psS_t.mp z).2.1]; exact nI_nm' hr) (Or.inr rfl)
theorem rm1_lo {f : xCf} {c : Nat → Int32} {r i : Nat} (h : i < 8 ∨ 16 ≤ i) : rm1 f c r i = c i := by unfold rm1; split <;> rw [posW_lo h]
theorem giv_p {c : Nat → Int32} {b a p : Nat} (hb : b < 8) (ha : a < 8) (hp : p < 8) : giv c b a (8 + p) = if p = a then 2 else if p = b then 1 else c (8 + p) := by
  unfold giv
  rw [upd_ne (by omega), upd_ne (by omega), upd_ne (by omega)]
  unfold upd
  by_cases h : p = a
  · rw [if_pos (by omega), if_pos h]
  · rw [if_neg (by omega), if_neg h]
    by_cases h2 : p = b
    · rw [if_pos (by omega), if_pos h2]
    · rw [if_neg (by omega), if_neg h2]
theorem giv_lo {c : Nat → Int32} {b a i : Nat} (hb : b < 8) (ha : a < 8) (h : i < 8 ∨ (16 ≤ i ∧ i < 48) ∨ 120 ≤ i) : giv c b a i = c i := giv_o (by omega) (by omega) (by omega) hb ha
theorem PV_rmG {f : xCf} {c : Nat → Int32} {r : Nat} (hr : r < 4) (hN : fN f ≤ 8) (h : PV (fN f) c) : PV (fN f) (rmG f c r) := by
  unfold rmG
  cases e : askR f c r with
  | none => exact h
  | some ab =>
    obtain ⟨a, b⟩ := ab
    obtain ⟨ha, hb, h1, h2, -⟩ := askR_lt e
    intro p hp
    show (giv c b a p = -1 ∧ giv c b a (8 + p) = 0) ∨ (giv c b a p ≠ -1 ∧ (giv c b a (8 + p) = 1 ∨ giv c b a (8 + p) = 2))
    rw [giv_lo hb ha (by omega), giv_p hb ha (by omega)]
    by_cases q : p = a
    · rw [if_pos q, q, (asS_lt h1).2.1]
      exact Or.inr ⟨nI_nm' hr, Or.inr rfl⟩
    · rw [if_neg q]
      by_cases q2 : p = b
      · rw [if_pos q2, q2, (giS_lt h2).2.1]
        exact Or.inr ⟨nI_nm' hr, Or.inl rfl⟩
      · rw [if_neg q2]
        exact h p hp
theorem PV_rms {f : xCf} {c : Nat → Int32} (hN : fN f ≤ 8) (h : PV (fN f) c) : ∀ n, n ≤ 4 → PV (fN f) (rms f c n)
  | 0, _ => h
  | n + 1, hn => PV_rmG (by omega) hN (PV_rm1 hN (by omega) (PV_rms hN h n (by omega)))
theorem rmG_lo {f : xCf} {c : Nat → Int32} {r i : Nat} (h : i < 8 ∨ (16 ≤ i ∧ i < 48) ∨ 120 ≤ i) : rmG f c r i = c i := by
  unfold rmG
  cases e : askR f c r with
  | none => rfl
  | some ab =>
    obtain ⟨a, b⟩ := ab
    obtain ⟨ha, hb, -⟩ := askR_lt e
    exact giv_lo hb ha h
theorem rms_lo {f : xCf} {c : Nat → Int32} {i : Nat} (h : i < 8 ∨ (16 ≤ i ∧ i < 48) ∨ 120 ≤ i) : ∀ n, rms f c n i = c i
  | 0 => rfl
  | n + 1 => by
    show rmG f (rm1 f (rms f c n) n) n i = c i
    rw [rmG_lo h, rm1_lo (by omega), rms_lo h n]
/-- places at the end of a quarter -/
theorem goPn_p {f : xCf} {c : Nat → Int32} {n p : Nat} (h : p < n) (hn : n ≤ 8) : goPn f c n p = fP f (c 120) p := by
  unfold goPn
  have := wr_at (c := wr c 8 n (fun p => if fP f (c 120) p = -1 then 0 else if fP f (c 120) p ≠ c p then 1 else c (8 + p))) (k := 0) (g := fun p => fP f (c 120) p) h
  rw [Nat.zero_add] at this
  exact this
theorem goPn_8 {f : xCf} {c : Nat → Int32} {n p : Nat} (h : p < n) (hn : n ≤ 8) : goPn f c n (8 + p) = if fP f (c 120) p = -1 then 0 else if fP f (c 120) p ≠ c p then 1 else c (8 + p) := by
  unfold goPn
  rw [wr_ne (by omega), wr_at h]
theorem PV_goP {f : xCf} {c : Nat → Int32} (hN : fN f ≤ 8) (h : PV (fN f) c) : PV (fN f) (goP f c) := fun p hp => by
  unfold goP
  rw [goPn_p hp hN, goPn_8 hp hN]
  by_cases e : fP f (c 120) p = -1
  · rw [if_pos e]; exact Or.inl ⟨e, rfl⟩
  · rw [if_neg e]
    refine Or.inr ⟨e, ?_⟩
    by_cases e2 : fP f (c 120) p ≠ c p
    · rw [if_pos e2]; exact Or.inl rfl
    · rw [if_neg e2]
      have e2 := Decidable.not_not.mp e2
      exact h.p12 hp (by rw [← e2]; exact e)
theorem cntQn_lo {c : Nat → Int32} {n i : Nat} (hn : n ≤ 8) (h : i < 16 ∨ 48 ≤ i) : cntQn c n i = c i := by
  unfold cntQn
  rw [wr_ne (by omega), wr_ne (by omega), wr_ne (by omega), wr_ne (by omega)]
theorem cntQn_16 {c : Nat → Int32} {n p : Nat} (h : p < n) (hn : n ≤ 8) : cntQn c n (16 + p) = if c (8 + p) = 2 then c (16 + p) + 1 else 0 := by
  unfold cntQn
  rw [wr_ne (by omega), wr_ne (by omega), wr_ne (by omega), wr_at h]
theorem cntQn_24 {c : Nat → Int32} {n p : Nat} (h : p < n) (hn : n ≤ 8) : cntQn c n (24 + p) = if c (8 + p) = 1 then c (24 + p) + 1 else 0 := by
  unfold cntQn
  rw [wr_ne (by omega), wr_ne (by omega), wr_at h]
theorem cntQn_32 {c : Nat → Int32} {n p : Nat} (h : p < n) (hn : n ≤ 8) : cntQn c n (32 + p) = c (32 + p) + b01 (c (8 + p) = 2) := by
  unfold cntQn
  rw [wr_ne (by omega), wr_at h]
theorem cntQn_40 {c : Nat → Int32} {n p : Nat} (h : p < n) : cntQn c n (40 + p) = c (40 + p) + b01 (c (8 + p) = 1) := by
  unfold cntQn
  rw [wr_at h]
theorem cntQn_hi {c : Nat → Int32} {n k p : Nat} (hk : k = 16 ∨ k = 24 ∨ k = 32 ∨ k = 40) (hp : n ≤ p) (h8 : p < 8) : cntQn c n (k + p) = c (k + p) := by
  unfold cntQn
  rw [wr_ne (by omega), wr_ne (by omega), wr_ne (by omega), wr_ne (by omega)]
theorem envF_eq {ag ag' sk sk' c c' : Nat → Int32} {p : Nat} (h1 : ag p = ag' p) (h2 : sk p = sk' p) (h3 : ∀ i, 16 ≤ i → i < 56 → c i = c' i) (hp : p < 8) : envF ag sk c p = envF ag' sk' c' p := by
  funext l
  unfold envF
  rw [h1, h2, h3 (16 + p) (by omega) (by omega), h3 (24 + p) (by omega) (by omega), h3 (32 + p) (by omega) (by omega), h3 (40 + p) (by omega) (by omega), h3 (48 + p) (by omega) (by omega)]
theorem pick_ext {w : Nat → Int32} {S : Nat → Bool} {N : Nat} : ∀ {n : Nat}, N ≤ n → (∀ p, N ≤ p → p < n → S p = false) → pick w S n = pick w S N
  | 0, h, _ => by rw [show N = 0 by omega]
  | n + 1, h, hS => by
    by_cases e : N = n + 1
    · rw [e]
    · have ih := pick_ext (w := w) (S := S) (N := N) (n := n) (by omega) (fun p h1 h2 => hS p h1 (by omega))
      rw [pick_s, hS n (by omega) (by omega), ih]
      cases pick w S N <;> rfl
theorem cnt_ext {S : Nat → Bool} {N : Nat} : ∀ {n : Nat}, N ≤ n → (∀ p, N ≤ p → p < n → S p = false) → cnt S n = cnt S N
  | 0, h, _ => by rw [show N = 0 by omega]
  | n + 1, h, hS => by
    by_cases e : N = n + 1
    · rw [e]
    · have ih := cnt_ext (S := S) (N := N) (n := n) (by omega) (fun p h1 h2 => hS p h1 (by omega))
      show cnt S n + (if S n = true then 1 else 0) = _
      rw [hS n (by omega) (by omega), ih]
      rfl
theorem cnt_add {S : Nat → Bool} {b n : Nat} (hb : b < n) (hs : S b = false) : cnt (fun p => S p || decide (p = b)) n = cnt S n + 1 := by
  have h := cnt_rm (S := fun p => S p || decide (p = b)) hb (by simp)
  rw [← h, cnt_congr (g := S) n (fun p hp => ?_)]
  by_cases e : p = b
  · subst e; rw [hs]; simp
  · simp [e]
/-! the reference's arrays hold the state c -/
def MV (mem : Nat → Nat → Int32) (N : Nat) (c : Nat → Int32) : Prop :=
  (∀ p, p < N → mem 114 p = c p ∧ mem 115 p = b01 (c (8 + p) = 2) ∧ mem 116 p = c (16 + p) ∧ mem 117 p = c (24 + p) ∧ mem 118 p = c (32 + p) ∧ mem 119 p = c (40 + p) ∧ mem 120 p = c (48 + p)) ∧ (∀ g, g < 64 → mem 121 g = c (56 + g)) ∧ mem 108 15 = c 120
def mvC : List Nat := [114, 115, 116, 117, 118, 119, 120, 121]
theorem MV.ag {mem m' : Nat → Nat → Int32} {N : Nat} {c : Nat → Int32} {W V : List Nat} (h : MV mem N c) (hA : AgM W V mem m') (hW : ∀ x, x ∈ mvC → x ∉ W) (hV : 15 ∉ V) : MV m' N c := by
  unfold MV at h ⊢
  rw [hA.1 114 (hW _ (by decide)) (by decide), hA.1 115 (hW _ (by decide)) (by decide), hA.1 116 (hW _ (by decide)) (by decide), hA.1 117 (hW _ (by decide)) (by decide), hA.1 118 (hW _ (by decide)) (by decide), hA.1 119 (hW _ (by decide)) (by decide), hA.1 120 (hW _ (by decide)) (by decide), hA.1 121 (hW _ (by decide)) (by decide), hA.2 15 hV]
  exact h
theorem MV.pose {mem : Nat → Nat → Int32} {N b : Nat} {c : Nat → Int32} {x y : Int32} (h : MV mem N c) (hN : N ≤ 8) (hb : b < 8) (hx : y = b01 (x = 2)) : MV (xu2 mem 115 b y) N (upd c (8 + b) x) := by
  obtain ⟨h1, h2, h3⟩ := h
  refine ⟨fun p hp => ?_, fun g hg => ?_, ?_⟩
  · obtain ⟨e1, e2, e3, e4, e5, e6, e7⟩ := h1 p hp
    rw [xu2_ne (by decide), xu2_eq, xu2_ne (by decide), xu2_ne (by decide), xu2_ne (by decide), xu2_ne (by decide), xu2_ne (by decide), upd_ne (by omega), upd_ne (i := 8 + b) (j := 16 + p) (by omega), upd_ne (i := 8 + b) (j := 24 + p) (by omega), upd_ne (i := 8 + b) (j := 32 + p) (by omega), upd_ne (i := 8 + b) (j := 40 + p) (by omega), upd_ne (i := 8 + b) (j := 48 + p) (by omega)]
    refine ⟨e1, ?_, e3, e4, e5, e6, e7⟩
    by_cases e : p = b
    · rw [e, upd_at, upd_at, hx]
    · rw [upd_ne e, upd_ne (by omega)]
      exact e2
  · rw [xu2_ne (by decide), upd_ne (by omega)]; exact h2 g hg
  · rw [xu2_ne (by decide), upd_ne (by omega)]; exact h3
/-- the reference's town, as the configuration f -/
def goE (mem : Nat → Nat → Int32) (now p : Nat) : Int32 :=
  if mem 128 p ≠ nI 99 then mem 128 p else if mem 113 p = 0 then -1 else mem 112 (24 * p + (now + (mem 129 p).toNatClampNeg) % (mem 113 p).toNatClampNeg)
def goE2 (mem : Nat → Nat → Int32) (now p : Nat) : Int32 := if goE mem now p ≠ -1 ∧ goE mem now p = mem 108 32 then mem 108 33 else goE mem now p
def chE (mem : Nat → Nat → Int32) (r : Nat) : Int32 := if nI r = mem 108 32 then nI 0 else if mem 108 32 ≠ -1 ∧ nI r = mem 108 33 then mem 109 r + mem 109 (mem 108 32).toNatClampNeg else mem 109 r
def CfM (mem : Nat → Nat → Int32) (f : xCf) : Prop :=
  mem 108 0 = nI (fR f) ∧ fR f ≤ 4 ∧ mem 108 2 = nI (fN f) ∧ fN f ≤ 8 ∧ (∀ r, r < fR f → chE mem r = nI (fH f r) ∧ fH f r ≤ 16) ∧ (mem 108 32 = -1 ∨ ∃ s, s < 4 ∧ mem 108 32 = nI s) ∧
  (∀ p, p < fN f → mem 111 p = fK f p ∧ (fK f p = 0 ∨ fK f p = 1)) ∧ (∀ p, p < fN f → (∃ L, L ≤ 24 ∧ mem 113 p = nI L) ∧ ∃ F, F < 24 ∧ mem 129 p = nI F) ∧ (∀ now p, p < fN f → now < 1073741824 → goE2 mem now p = fP f (nI now) p) ∧
  ∃ xsA xsG, RuE mem 0 xsA ∧ RuE mem 1 xsG ∧ ∀ c p, p < fN f → fA f c p = rv (envF (mem 110) (mem 111) c p) xsA ∧ fG f c p = rv (envF (mem 110) (mem 111) c p) xsG
def cfCells : List Nat := [109, 110, 111, 112, 113, 125, 126, 127, 128, 129]
def cfSlots : List Nat := [0, 2, 29, 32, 33]
theorem CfM.ag {mem m' : Nat → Nat → Int32} {f : xCf} {W V : List Nat} (h : CfM mem f) (hA : AgM W V mem m') (hW : ∀ x, x ∈ cfCells → x ∉ W) (hV : ∀ x, x ∈ cfSlots → x ∉ V) : CfM m' f := by
  unfold CfM chE goE2 goE RuE RmT at h ⊢
  rw [hA.1 109 (hW _ (by decide)) (by decide), hA.1 110 (hW _ (by decide)) (by decide), hA.1 111 (hW _ (by decide)) (by decide), hA.1 112 (hW _ (by decide)) (by decide), hA.1 113 (hW _ (by decide)) (by decide), hA.1 127 (hW _ (by decide)) (by decide), hA.1 128 (hW _ (by decide)) (by decide), hA.1 129 (hW _ (by decide)) (by decide), hA.2 0 (hV _ (by decide)), hA.2 2 (hV _ (by decide)), hA.2 29 (hV _ (by decide)), hA.2 32 (hV _ (by decide)), hA.2 33 (hV _ (by decide))]
  rw [hA.1 (125 + 0) (hW _ (by decide)) (by decide), hA.1 (125 + 1) (hW _ (by decide)) (by decide)]
  exact h
theorem CfM.wf {mem : Nat → Nat → Int32} {f : xCf} (h : CfM mem f) {c c' : Nat → Int32} (hc : ∀ i, 16 ≤ i → i < 56 → c i = c' i) {p : Nat} (hp : p < fN f) : fA f c p = fA f c' p ∧ fG f c p = fG f c' p := by
  obtain ⟨-, -, -, hN, -, -, -, -, -, xsA, xsG, -, -, hx⟩ := h
  rw [(hx c p hp).1, (hx c p hp).2, (hx c' p hp).1, (hx c' p hp).2, envF_eq rfl rfl hc (by omega)]
  exact ⟨rfl, rfl⟩
