/-! states that can be, and that a quarter keeps them so -/
def sumZ (g : Nat → Int) : Nat → Int
  | 0 => 0
  | n + 1 => sumZ g n + g n
theorem sumZ_congr {g g' : Nat → Int} : ∀ {n : Nat}, (∀ p, p < n → g p = g' p) → sumZ g n = sumZ g' n
  | 0, _ => rfl
  | n + 1, h => by
    show sumZ g n + g n = sumZ g' n + g' n
    rw [sumZ_congr (fun p hp => h p (by omega)), h n (by omega)]
theorem sumZ_set {g : Nat → Int} {i : Nat} {x : Int} : ∀ {n : Nat}, i < n → sumZ (fun p => if p = i then x else g p) n = sumZ g n - g i + x
  | n + 1, h => by
    show sumZ _ n + (if n = i then x else g n) = sumZ g n + g n - g i + x
    by_cases e : n = i
    · rw [if_pos e, sumZ_congr (g' := g) (fun p hp => if_neg (by omega)), e]
      omega
    · rw [if_neg e, sumZ_set (n := n) (by omega)]
      omega
theorem toInt_add' {x y : Int32} (h1 : -2147483648 ≤ x.toInt + y.toInt) (h2 : x.toInt + y.toInt < 2147483648) : (x + y).toInt = x.toInt + y.toInt := by
  rw [Int32.toInt_add]
  exact Int.bmod_eq_of_le (by omega) (by omega)
theorem toInt_sub' {x y : Int32} (h1 : -2147483648 ≤ x.toInt - y.toInt) (h2 : x.toInt - y.toInt < 2147483648) : (x - y).toInt = x.toInt - y.toInt := by
  rw [Int32.toInt_sub]
  exact Int.bmod_eq_of_le (by omega) (by omega)
/-- credits are small and add up to nothing -/
def CB (B : Nat) (c : Nat → Int32) : Prop := (∀ p, p < 8 → -(B : Int) ≤ (c (48 + p)).toInt ∧ (c (48 + p)).toInt ≤ B) ∧ sumZ (fun p => (c (48 + p)).toInt) 8 = 0
theorem CB.mono {B B' : Nat} {c : Nat → Int32} (h : CB B c) (hb : B ≤ B') : CB B' c := ⟨fun p hp => by have := h.1 p hp; omega, h.2⟩
theorem CB.congr {B : Nat} {c c' : Nat → Int32} (h : CB B c) (e : ∀ p, p < 8 → c' (48 + p) = c (48 + p)) : CB B c' := ⟨fun p hp => by rw [e p hp]; exact h.1 p hp, by rw [sumZ_congr (g' := fun p => (c (48 + p)).toInt) (fun p hp => by rw [e p hp])]; exact h.2⟩
/-- n goes from a to b -/
theorem CB.pay {B a b : Nat} {n : Int32} {m : Nat} {c c' : Nat → Int32} (h : CB B c) (ha : a < 8) (hb : b < 8) (hab : a ≠ b) (hn : n.toInt = m) (hB : B + m < 2147483647)
    (e : ∀ p, p < 8 → c' (48 + p) = if p = a then c (48 + a) + n else if p = b then c (48 + b) - n else c (48 + p)) : CB (B + m) c' := by
  have h1 := h.1 a ha
  have h2 := h.1 b hb
  have ea : (c (48 + a) + n).toInt = (c (48 + a)).toInt + m := by rw [← hn]; exact toInt_add' (by omega) (by omega)
  have eb : (c (48 + b) - n).toInt = (c (48 + b)).toInt - m := by rw [← hn]; exact toInt_sub' (by omega) (by omega)
  have et : ∀ p, p < 8 → (c' (48 + p)).toInt = if p = a then (c (48 + a)).toInt + m else if p = b then (c (48 + b)).toInt - m else (c (48 + p)).toInt := fun p hp => by
    rw [e p hp]
    by_cases q : p = a
    · rw [if_pos q, if_pos q, ea]
    · rw [if_neg q, if_neg q]
      by_cases q2 : p = b
      · rw [if_pos q2, if_pos q2, eb]
      · rw [if_neg q2, if_neg q2]
  refine ⟨fun p hp => ?_, ?_⟩
  · rw [et p hp]
    have := h.1 p hp
    split
    · omega
    · split <;> omega
  · rw [sumZ_congr et, sumZ_set (g := fun p => if p = b then (c (48 + b)).toInt - m else (c (48 + p)).toInt) ha, sumZ_set (g := fun p => (c (48 + p)).toInt) hb, h.2]
    rw [if_neg hab]
    omega
theorem giv_c {c : Nat → Int32} {b a p : Nat} (hb : b < 8) (ha : a < 8) (hab : b ≠ a) (hp : p < 8) : giv c b a (48 + p) = if p = b then c (48 + b) + 1 else if p = a then c (48 + a) - 1 else c (48 + p) := by
  unfold giv
  by_cases q : p = b
  · subst q
    rw [if_pos rfl, upd_ne (by omega), upd_at]
  · rw [if_neg q]
    by_cases q2 : p = a
    · subst q2
      rw [if_pos rfl, upd_at]
    · rw [if_neg q2, upd_ne (by omega), upd_ne (by omega), upd_ne (by omega), upd_ne (by omega), upd_ne (by omega)]
theorem giv_g {c : Nat → Int32} {b a g : Nat} (hb : b < 8) (ha : a < 8) (hg : g < 64) (h : g ≠ 8 * b + a) : giv c b a (56 + g) = c (56 + g) := by
  unfold giv
  rw [upd_ne (by omega), upd_ne (by omega), upd_ne (by omega), upd_ne (by omega), upd_ne (by omega)]
/-- who gives, who asks: two of N -/
theorem askR_N {f : xCf} {c : Nat → Int32} {r a b : Nat} (h : askR f c r = some (a, b)) : a < fN f ∧ b < fN f ∧ a < 8 ∧ b < 8 ∧ b ≠ a := by
  obtain ⟨ha, hb, h1, h2, -⟩ := askR_lt h
  refine ⟨(asS_lt h1).1, (giS_lt h2).1, ha, hb, fun q => ?_⟩
  have q1 := (asS_lt h1).2.2.1
  have q2 := (giS_lt h2).2.2.1
  rw [q, q1] at q2
  exact i12 q2
/-- what nobody changes -/
theorem rm1_hi {f : xCf} {c : Nat → Int32} {r p : Nat} (h : fN f ≤ p) (hp : p < 8) : rm1 f c r (8 + p) = c (8 + p) := by
  have no : ∀ x, psS (fN f) c r x p = false := fun x => bfalse fun q => by have := psS_lt q; omega
  unfold rm1
  split <;> rw [posW_p hp, no, if_neg (by simp)]
theorem rmG_hi {f : xCf} {c : Nat → Int32} {r p : Nat} (h : fN f ≤ p) (hp : p < 8) : rmG f c r (8 + p) = c (8 + p) ∧ rmG f c r (48 + p) = c (48 + p) := by
  unfold rmG
  cases e : askR f c r with
  | none => exact ⟨rfl, rfl⟩
  | some ab =>
    obtain ⟨a, b⟩ := ab
    obtain ⟨h1, h2, ha, hb, hab⟩ := askR_N e
    refine ⟨?_, ?_⟩
    · show giv c b a (8 + p) = _
      rw [giv_p hb ha hp, if_neg (by omega), if_neg (by omega)]
    · show giv c b a (48 + p) = _
      rw [giv_c hb ha hab hp, if_neg (by omega), if_neg (by omega)]
theorem rms_hi {f : xCf} {c : Nat → Int32} {p : Nat} (h : fN f ≤ p) (hp : p < 8) : ∀ n, rms f c n (8 + p) = c (8 + p) ∧ rms f c n (48 + p) = c (48 + p)
  | 0 => ⟨rfl, rfl⟩
  | n + 1 => by
    obtain ⟨e1, e2⟩ := rms_hi (f := f) (c := c) h hp n
    refine ⟨?_, ?_⟩
    · show rmG f (rm1 f (rms f c n) n) n (8 + p) = _
      rw [(rmG_hi h hp).1, rm1_hi h hp, e1]
    · show rmG f (rm1 f (rms f c n) n) n (48 + p) = _
      rw [(rmG_hi h hp).2, rm1_lo (by omega), e2]
theorem rms_g {f : xCf} {c : Nat → Int32} {x y : Nat} (hx : x < 8) (hy : y < 8) (h : fN f ≤ x ∨ fN f ≤ y) : ∀ n, rms f c n (56 + (8 * x + y)) = c (56 + (8 * x + y))
  | 0 => rfl
  | n + 1 => by
    show rmG f (rm1 f (rms f c n) n) n (56 + (8 * x + y)) = _
    have e : rmG f (rm1 f (rms f c n) n) n (56 + (8 * x + y)) = rm1 f (rms f c n) n (56 + (8 * x + y)) := by
      unfold rmG
      cases q : askR f (rm1 f (rms f c n) n) n with
      | none => rfl
      | some ab =>
        obtain ⟨a, b⟩ := ab
        obtain ⟨h1, h2, ha, hb, hab⟩ := askR_N q
        exact giv_g hb ha (by omega) (by omega)
    rw [e, rm1_lo (by omega), rms_g hx hy h n]
theorem rms_CB {f : xCf} {c : Nat → Int32} {B : Nat} (h : CB B c) (hB : B < 1000000000) : ∀ n, n ≤ 4 → CB (B + n) (rms f c n)
  | 0, _ => h
  | n + 1, hn => by
    have ih := rms_CB (f := f) h hB n (by omega)
    show CB (B + (n + 1)) (rmG f (rm1 f (rms f c n) n) n)
    have h1 : CB (B + n) (rm1 f (rms f c n) n) := ih.congr (fun p hp => rm1_lo (by omega))
    unfold rmG
    cases q : askR f (rm1 f (rms f c n) n) n with
    | none => exact h1.mono (by omega)
    | some ab =>
      obtain ⟨a, b⟩ := ab
      obtain ⟨-, -, ha, hb, hab⟩ := askR_N q
      exact h1.pay (n := 1) (m := 1) hb ha hab (by decide) (by omega) (fun p hp => giv_c hb ha hab hp)
section Q
variable {f : xCf} {c : Nat → Int32}
theorem goPn_hi {n i : Nat} (h : (n ≤ i ∧ i < 8) ∨ 8 + n ≤ i) : goPn f c n i = c i := goPn_ne (by omega) (by omega)
def qc2 (f : xCf) (c : Nat → Int32) : Nat → Int32 := rms f (goP f c) (fR f)
theorem qtr_eq : qtr f c = upd (cntQn (qc2 f c) (fN f)) 120 (qc2 f c 120 + 1) := rfl
theorem qc2_lo {i : Nat} (h : (16 ≤ i ∧ i < 48) ∨ 120 ≤ i) (hN : fN f ≤ 8) : qc2 f c i = c i := by
  unfold qc2 goP
  rw [rms_lo (by omega), goPn_hi (by omega)]
theorem qc2_p {p : Nat} (hp : p < fN f) (hN : fN f ≤ 8) : qc2 f c p = fP f (c 120) p := by
  unfold qc2 goP
  rw [rms_lo (by omega), goPn_p hp hN]
theorem qtr_p {p : Nat} (hp : p < fN f) (hN : fN f ≤ 8) : qtr f c p = fP f (c 120) p := by
  rw [qtr_eq, upd_ne (by omega), cntQn_lo hN (by omega), qc2_p hp hN]
theorem qtr_8 {p : Nat} (hp : p < 8) (hN : fN f ≤ 8) : qtr f c (8 + p) = qc2 f c (8 + p) := by
  rw [qtr_eq, upd_ne (by omega), cntQn_lo hN (by omega)]
theorem qtr_16 {p : Nat} (hp : p < fN f) (hN : fN f ≤ 8) : qtr f c (16 + p) = if qtr f c (8 + p) = 2 then c (16 + p) + 1 else 0 := by
  rw [qtr_8 (by omega) hN, qtr_eq, upd_ne (by omega), cntQn_16 hp hN, qc2_lo (i := 16 + p) (by omega) hN]
theorem qtr_24 {p : Nat} (hp : p < fN f) (hN : fN f ≤ 8) : qtr f c (24 + p) = if qtr f c (8 + p) = 1 then c (24 + p) + 1 else 0 := by
  rw [qtr_8 (by omega) hN, qtr_eq, upd_ne (by omega), cntQn_24 hp hN, qc2_lo (i := 24 + p) (by omega) hN]
theorem qtr_40 {p : Nat} (hp : p < fN f) (hN : fN f ≤ 8) : qtr f c (40 + p) = c (40 + p) + b01 (qtr f c (8 + p) = 1) := by
  rw [qtr_8 (by omega) hN, qtr_eq, upd_ne (by omega), cntQn_40 hp, qc2_lo (i := 40 + p) (by omega) hN]
theorem qtr_120 (hN : fN f ≤ 8) : qtr f c 120 = c 120 + 1 := by rw [qtr_eq, upd_at, qc2_lo (by omega) hN]
theorem qtr_121 {i : Nat} (h : 121 ≤ i) (hN : fN f ≤ 8) : qtr f c i = c i := by
  rw [qtr_eq, upd_ne (by omega), cntQn_lo hN (by omega), qc2_lo (by omega) hN]
theorem qtr_48 {i : Nat} (h : 48 ≤ i) (h2 : i < 120) (hN : fN f ≤ 8) : qtr f c i = rms f (goP f c) (fR f) i := by
  rw [qtr_eq, upd_ne (by omega), cntQn_lo hN (by omega)]
  rfl
theorem qtr_hi {p : Nat} (h : fN f ≤ p) (hp : p < 8) (hN : fN f ≤ 8) : qtr f c p = c p ∧ ∀ t, 1 ≤ t → t < 7 → qtr f c (8 * t + p) = c (8 * t + p) := by
  refine ⟨?_, fun t h1 h2 => ?_⟩
  · rw [qtr_eq, upd_ne (by omega), cntQn_lo hN (by omega)]
    unfold qc2 goP
    rw [rms_lo (by omega), goPn_hi (by omega)]
  · match t, h1, h2 with
    | 1, _, _ =>
      show qtr f c (8 + p) = c (8 + p)
      rw [qtr_8 hp hN]
      unfold qc2 goP
      rw [(rms_hi h hp _).1, goPn_hi (by omega)]
    | 2, _, _ => show qtr f c (16 + p) = c (16 + p); rw [qtr_eq, upd_ne (by omega), cntQn_hi (Or.inl rfl) h hp, qc2_lo (by omega) hN]
    | 3, _, _ => show qtr f c (24 + p) = c (24 + p); rw [qtr_eq, upd_ne (by omega), cntQn_hi (Or.inr (Or.inl rfl)) h hp, qc2_lo (by omega) hN]
    | 4, _, _ => show qtr f c (32 + p) = c (32 + p); rw [qtr_eq, upd_ne (by omega), cntQn_hi (Or.inr (Or.inr (Or.inl rfl))) h hp, qc2_lo (by omega) hN]
    | 5, _, _ => show qtr f c (40 + p) = c (40 + p); rw [qtr_eq, upd_ne (by omega), cntQn_hi (Or.inr (Or.inr (Or.inr rfl))) h hp, qc2_lo (by omega) hN]
    | 6, _, _ =>
      show qtr f c (48 + p) = c (48 + p)
      rw [qtr_48 (by omega) (by omega) hN, (rms_hi h hp _).2]
      unfold goP
      rw [goPn_hi (by omega)]
theorem qtr_PV (hN : fN f ≤ 8) (hR : fR f ≤ 4) (h : PV (fN f) c) : PV (fN f) (qtr f c) := fun p hp => by
  rw [qtr_8 (by omega) hN, qtr_p hp hN, ← qc2_p hp hN]
  exact PV_rms hN (PV_goP hN h) (fR f) hR p hp
end Q
/-- a state as it can be: N of PEOPLE, R ROOMS, B: a bound -/
def SV (N R B : Nat) (c : Nat → Int32) : Prop :=
  PV N c ∧ N ≤ 8 ∧ (∀ p, p < N → c p ≠ -1 → ∃ rm, rm < R ∧ c p = nI rm) ∧ (∀ p, N ≤ p → p < 8 → c p = -1 ∧ ∀ t, 1 ≤ t → t < 7 → c (8 * t + p) = 0) ∧
  (∀ x y, x < 8 → y < 8 → (N ≤ x ∨ N ≤ y) → c (56 + (8 * x + y)) = 0) ∧ (∀ i, 121 ≤ i → c i = 0) ∧ (∃ now, now ≤ B ∧ c 120 = nI now) ∧
  (∀ p, p < N → ∃ s t, s ≤ B ∧ t ≤ B ∧ c (16 + p) = nI s ∧ c (24 + p) = nI t ∧ (c (8 + p) ≠ 2 → s = 0) ∧ (c (8 + p) ≠ 1 → t = 0)) ∧ CB B c
theorem SV.mono {N R B R' B' : Nat} {c : Nat → Int32} (h : SV N R B c) (hR : R ≤ R') (hB : B ≤ B') : SV N R' B' c := by
  obtain ⟨h1, h2, h3, h4, h5, h6, ⟨now, h7, h7'⟩, h8, h9⟩ := h
  refine ⟨h1, h2, fun p hp q => ?_, h4, h5, h6, ⟨now, by omega, h7'⟩, fun p hp => ?_, h9.mono hB⟩
  · obtain ⟨rm, q1, q2⟩ := h3 p hp q
    exact ⟨rm, by omega, q2⟩
  · obtain ⟨s, t, q1, q2, q3⟩ := h8 p hp
    exact ⟨s, t, by omega, by omega, q3⟩
theorem SV.more {N N' R B : Nat} {c : Nat → Int32} (h : SV N R B c) (hN : N ≤ N') (hN' : N' ≤ 8) : SV N' R B c := by
  obtain ⟨h1, h2, h3, h4, h5, h6, h7, h8, h9⟩ := h
  refine ⟨fun p hp => ?_, hN', fun p hp q => ?_, fun p hp => h4 p (by omega), fun x y hx hy hq => h5 x y hx hy (by omega), h6, h7, fun p hp => ?_, h9⟩
  · by_cases q : p < N
    · exact h1 p q
    · have := h4 p (by omega) (by omega)
      exact Or.inl ⟨this.1, this.2 1 (by decide) (by decide)⟩
  · by_cases q2 : p < N
    · exact h3 p q2 q
    · exact absurd (h4 p (by omega) (by omega)).1 q
  · by_cases q : p < N
    · exact h8 p q
    · have := h4 p (by omega) (by omega)
      exact ⟨0, 0, by omega, by omega, this.2 2 (by decide) (by decide), this.2 3 (by decide) (by decide), fun _ => rfl, fun _ => rfl⟩
theorem SV.ok {N R B : Nat} {c : Nat → Int32} (h : SV N R B c) : OKc N c := fun p h1 h2 => (h.2.2.2.1 p h1 h2).2 1 (by decide) (by decide)
def fPok (f : xCf) (R : Nat) : Prop := ∀ now p, p < fN f → now < 1073741824 → fP f (nI now) p = -1 ∨ ∃ rm, rm < R ∧ fP f (nI now) p = nI rm
theorem SV_q {f : xCf} {R B : Nat} {c : Nat → Int32} (h : SV (fN f) R B c) (hR : fR f ≤ 4) (hB : B < 1000000000) (hP : fPok f R) : SV (fN f) R (B + 4) (qtr f c) := by
  obtain ⟨h1, hN, h3, h4, h5, h6, ⟨now, h7, h7'⟩, h8, h9⟩ := h
  refine ⟨qtr_PV hN hR h1, hN, fun p hp q => ?_, fun p hp hp8 => ?_, fun x y hx hy hq => ?_, fun i hi => by rw [qtr_121 hi hN]; exact h6 i hi, ⟨now + 1, by omega, by rw [qtr_120 hN, h7', ← n1, nIs]⟩, fun p hp => ?_, ?_⟩
  · rw [qtr_p hp hN, h7'] at q ⊢
    exact (hP now p hp (by omega)).resolve_left q
  · obtain ⟨e1, e2⟩ := qtr_hi (f := f) (c := c) hp hp8 hN
    obtain ⟨g1, g2⟩ := h4 p hp hp8
    exact ⟨by rw [e1, g1], fun t t1 t2 => by rw [e2 t t1 t2, g2 t t1 t2]⟩
  · rw [qtr_48 (by omega) (by omega) hN, rms_g hx hy hq]
    unfold goP
    rw [goPn_hi (by omega)]
    exact h5 x y hx hy hq
  · obtain ⟨s, t, q1, q2, q3, q4, q5, q6⟩ := h8 p hp
    rw [qtr_16 hp hN, qtr_24 hp hN]
    refine ⟨if qtr f c (8 + p) = 2 then s + 1 else 0, if qtr f c (8 + p) = 1 then t + 1 else 0, ?_, ?_, ?_, ?_, fun z => if_neg z, fun z => if_neg z⟩
    · split <;> omega
    · split <;> omega
    · split
      · rw [q3, ← n1, nIs]
      · rfl
    · split
      · rw [q4, ← n1, nIs]
      · rfl
  · have hg : CB B (goP f c) := h9.congr (fun p hp => by unfold goP; rw [goPn_hi (by omega)])
    exact (rms_CB hg hB (fR f) hR).mono (by omega) |>.congr (fun p hp => qtr_48 (by omega) (by omega) hN)
theorem SV_qs {f : xCf} {R B : Nat} {c : Nat → Int32} (h : SV (fN f) R B c) (hR : fR f ≤ 4) (hP : fPok f R) : ∀ n, B + 4 * n < 1000000000 → SV (fN f) R (B + 4 * n) (qtrs f c n)
  | 0, _ => h
  | n + 1, hn => SV_q (B := B + 4 * n) (SV_qs h hR hP n (by omega)) hR (by omega) hP
theorem qtrs_120 {f : xCf} {c : Nat → Int32} {now : Nat} (hN : fN f ≤ 8) (h : c 120 = nI now) : ∀ n, qtrs f c n 120 = nI (now + n)
  | 0 => h
  | n + 1 => by
    show qtr f (qtrs f c n) 120 = _
    rw [qtr_120 hN, qtrs_120 hN h n, ← n1, nIs]
    rfl
theorem qtrs_PV {f : xCf} {c : Nat → Int32} (hN : fN f ≤ 8) (hR : fR f ≤ 4) (h : PV (fN f) c) : ∀ n, PV (fN f) (qtrs f c n)
  | 0 => h
  | n + 1 => qtr_PV hN hR (qtrs_PV hN hR h n)
theorem qtrs_121 {f : xCf} {c : Nat → Int32} {i : Nat} (hN : fN f ≤ 8) (h : 121 ≤ i) : ∀ n, qtrs f c n i = c i
  | 0 => rfl
  | n + 1 => by
    show qtr f (qtrs f c n) i = _
    rw [qtr_121 h hN, qtrs_121 hN h n]
/-- how much longer one stood -/
theorem qtrs_st {f : xCf} {c : Nat → Int32} {p : Nat} (hp : p < 8) (hN : fN f ≤ 8) : ∀ n, ∃ m, m ≤ n ∧ qtrs f c n (40 + p) = c (40 + p) + nI m ∧ (fN f ≤ p → m = 0)
  | 0 => ⟨0, Nat.le_refl _, (Int32.add_zero _).symm, fun _ => rfl⟩
  | n + 1 => by
    obtain ⟨m, h1, h2, h3⟩ := qtrs_st (f := f) (c := c) hp hN n
    show ∃ m, m ≤ n + 1 ∧ qtr f (qtrs f c n) (40 + p) = _ ∧ _
    by_cases q : p < fN f
    · rw [qtr_40 q hN, h2]
      by_cases q2 : qtr f (qtrs f c n) (8 + p) = 1
      · exact ⟨m + 1, by omega, by rw [b01_t q2, Int32.add_assoc, ← n1, nIs], fun z => absurd q (by omega)⟩
      · exact ⟨m, by omega, by rw [b01_f q2, Int32.add_zero], h3⟩
    · have := (qtr_hi (f := f) (c := qtrs f c n) (by omega) hp hN).2 5 (by decide) (by decide)
      exact ⟨m, by omega, by rw [← h2]; exact this, h3⟩
def stD (f : xCf) (c : Nat → Int32) (n p : Nat) : Int32 := qtrs f c n (40 + p) - c (40 + p)
theorem stD_nI {f : xCf} {c : Nat → Int32} {p : Nat} (hp : p < 8) (hN : fN f ≤ 8) (n : Nat) : ∃ m, m ≤ n ∧ stD f c n p = nI m ∧ (fN f ≤ p → m = 0) := by
  obtain ⟨m, h1, h2, h3⟩ := qtrs_st (f := f) (c := c) hp hN n
  exact ⟨m, h1, by unfold stD; rw [h2, Int32.add_comm, Int32.add_sub_cancel], h3⟩
theorem sumI_ext {g : Nat → Int32} {N : Nat} : ∀ {n : Nat}, N ≤ n → (∀ p, N ≤ p → p < n → g p = 0) → sumI g n = sumI g N
  | 0, h, _ => by rw [show N = 0 by omega]
  | n + 1, h, hg => by
    by_cases e : N = n + 1
    · rw [e]
    · show sumI g n + g n = _
      rw [hg n (by omega) (by omega), Int32.add_zero, sumI_ext (n := n) (by omega) (fun p h1 h2 => hg p h1 (by omega))]
theorem sumI_congr {g g' : Nat → Int32} : ∀ {n : Nat}, (∀ p, p < n → g p = g' p) → sumI g n = sumI g' n
  | 0, _ => rfl
  | n + 1, h => by
    show sumI g n + g n = sumI g' n + g' n
    rw [sumI_congr (fun p hp => h p (by omega)), h n (by omega)]
theorem sumI_sub {g g' : Nat → Int32} : ∀ {n : Nat}, sumI (fun p => g p - g' p) n = sumI g n - sumI g' n
  | 0 => (show nI 0 = nI 0 - nI 0 by decide)
  | n + 1 => by
    show sumI (fun p => g p - g' p) n + (g n - g' n) = sumI g n + g n - (sumI g' n + g' n)
    rw [sumI_sub]
    generalize sumI g n = a
    generalize sumI g' n = b
    generalize g n = x
    generalize g' n = y
    rw [Int32.sub_eq_add_neg, Int32.sub_eq_add_neg, Int32.sub_eq_add_neg, Int32.neg_add, Int32.sub_eq_add_neg]
    ac_rfl
/-- by all -/
def stA (f : xCf) (c : Nat → Int32) (n : Nat) : Int32 := sumI (stD f c n) (fN f)
theorem sum_nI {g : Nat → Int32} {b : Nat} : ∀ {n : Nat}, (∀ p, p < n → ∃ m, m ≤ b ∧ g p = nI m) → ∃ m, m ≤ n * b ∧ sumI g n = nI m
  | 0, _ => ⟨0, by omega, rfl⟩
  | n + 1, h => by
    obtain ⟨m, h1, h2⟩ := sum_nI (n := n) (fun p hp => h p (by omega))
    obtain ⟨m', h3, h4⟩ := h n (by omega)
    refine ⟨m + m', by rw [Nat.succ_mul]; omega, ?_⟩
    show sumI g n + g n = _
    rw [h2, h4, nI_add]
theorem stA_nI {f : xCf} {c : Nat → Int32} {n : Nat} (hN : fN f ≤ 8) : ∃ m, m ≤ 8 * n ∧ stA f c n = nI m := by
  obtain ⟨m, h1, h2⟩ := sum_nI (g := stD f c n) (b := n) (n := fN f) (fun p hp => by obtain ⟨m, q1, q2, -⟩ := stD_nI (f := f) (c := c) (p := p) (by omega) hN n; exact ⟨m, q1, q2⟩)
  exact ⟨m, Nat.le_trans h1 (Nat.mul_le_mul_right n hN), h2⟩
/-- as the class adds it up -/
theorem stA_8 {f : xCf} {c : Nat → Int32} {n : Nat} (hN : fN f ≤ 8) : sumI (fun p => qtrs f c n (40 + p)) 8 - sumI (fun p => c (40 + p)) 8 = stA f c n := by
  rw [← sumI_sub]
  exact sumI_ext (g := stD f c n) hN (fun p h1 h2 => by obtain ⟨m, -, q2, q3⟩ := stD_nI (f := f) (c := c) (p := p) h2 hN n; rw [q2, q3 h1]; rfl)
