/-! what is tried out: other data -/
def dsH (D : xD) (H : Nat → Nat) : xD := (dR D, dN D, H, dg D, dK D, dL D, dF D, dP D, dA D, dG D)
def dsK (D : xD) (K : Nat → Int32) : xD := (dR D, dN D, dH D, dg D, K, dL D, dF D, dP D, dA D, dG D)
def dsF (D : xD) (F : Nat → Nat) : xD := (dR D, dN D, dH D, dg D, dK D, dL D, F, dP D, dA D, dG D)
def dsL (D : xD) (L : Nat → Nat) (P : Nat → Nat → Int32) : xD := (dR D, dN D, dH D, dg D, dK D, L, dF D, P, dA D, dG D)
def dsA (D : xD) (A : List Int32) : xD := (dR D, dN D, dH D, dg D, dK D, dL D, dF D, dP D, A, dG D)
def swp (a b p : Nat) : Nat := if p = a then b else if p = b then a else p
theorem swp_lt {a b p n : Nat} (ha : a < n) (hb : b < n) (hp : p < n) : swp a b p < n := by
  unfold swp
  split
  · exact hb
  · split
    · exact ha
    · exact hp
theorem swp_swp {a b p : Nat} : swp a b (swp a b p) = p := by
  unfold swp
  by_cases h : p = a
  · rw [if_pos h]
    by_cases h2 : b = a
    · rw [if_pos h2]; omega
    · rw [if_neg h2, if_pos rfl]; exact h.symm
  · rw [if_neg h]
    by_cases h2 : p = b
    · rw [if_pos h2, if_pos rfl]; exact h2.symm
    · rw [if_neg h2, if_neg h, if_neg h2]
section K
variable {m m' : Nat → Nat → Int32} {t : Nat} {D : xD}
theorem TwD_mv (hN : dN D ≤ 8) (h : TwD m t D) (e : ∀ k, k ∈ tCells → m' (t + k) = m (t + k)) : TwD m' t D := by
  obtain ⟨h1, h2, h3, h4, h5, h6, h7, h8⟩ := h
  have e0 : m' t = m t := e 0 (by decide)
  have e16 : m' (t + 15 + 1) = m (t + 15 + 1) := e 16 (by decide)
  have e19 : m' (t + 18 + 1) = m (t + 18 + 1) := e 19 (by decide)
  have ep : ∀ p, p < 8 → m' (t + 5 + p) = m (t + 5 + p) := fun p hp => by
    have : ∀ p < 8, 5 + p ∈ tCells := by decide
    have := e (5 + p) (this p hp)
    rw [← Nat.add_assoc] at this
    exact this
  refine ⟨by rw [e0]; exact h1, by rw [e0]; exact h2, by rw [e 1 (by decide)]; exact h3, by rw [e 2 (by decide), e 3 (by decide)]; exact h4, by rw [e 13 (by decide), e 14 (by decide)]; exact h5, fun p hp k hk => ?_, ?_, ?_⟩
  · rw [ep p (by omega)]; exact h6 p hp k hk
  · unfold RuL
    rw [e 15 (by decide), e16]
    exact h7
  · unfold RuL
    rw [e 18 (by decide), e19]
    exact h8
theorem TwD_H (h : TwD m 26 D) {r v : Nat} : TwD (xu2 m 27 r (nI v)) 26 (dsH D (fun x => if x = r then v else dH D x)) := by
  obtain ⟨h1, h2, h3, h4, h5, h6, h7, h8⟩ := h
  refine ⟨by rw [xu2_ne (by decide)]; exact h1, by rw [xu2_ne (by decide)]; exact h2, fun x hx => ?_, by rw [xu2_ne (by decide), xu2_ne (by decide)]; exact h4, by rw [xu2_ne (by decide), xu2_ne (by decide)]; exact h5, fun p hp k hk => by rw [xu2_ne (by omega)]; exact h6 p hp k hk, ?_, ?_⟩
  · show xu2 m 27 r (nI v) 27 x = nI (if x = r then v else dH D x)
    rw [xu2_eq]
    by_cases q : x = r
    · rw [if_pos q, q, upd_at]
    · rw [if_neg q, upd_ne q]; exact h3 x hx
  · unfold RuL
    rw [xu2_ne (by decide), xu2_ne (by decide)]
    exact h7
  · unfold RuL
    rw [xu2_ne (by decide), xu2_ne (by decide)]
    exact h8
theorem TwD_K (h : TwD m 26 D) {r : Nat} {v : Int32} : TwD (xu2 m 29 r v) 26 (dsK D (fun x => if x = r then v else dK D x)) := by
  obtain ⟨h1, h2, h3, h4, h5, h6, h7, h8⟩ := h
  refine ⟨by rw [xu2_ne (by decide)]; exact h1, by rw [xu2_ne (by decide)]; exact h2, by rw [xu2_ne (by decide)]; exact h3, fun p hp => ?_, by rw [xu2_ne (by decide), xu2_ne (by decide)]; exact h5, fun p hp k hk => by rw [xu2_ne (by omega)]; exact h6 p hp k hk, ?_, ?_⟩
  · show xu2 m 29 r v 28 p = dg D p ∧ xu2 m 29 r v 29 p = if p = r then v else dK D p
    rw [xu2_eq, xu2_ne (by decide)]
    refine ⟨(h4 p hp).1, ?_⟩
    by_cases q : p = r
    · rw [if_pos q, q, upd_at]
    · rw [if_neg q, upd_ne q]; exact (h4 p hp).2
  · unfold RuL
    rw [xu2_ne (by decide), xu2_ne (by decide)]
    exact h7
  · unfold RuL
    rw [xu2_ne (by decide), xu2_ne (by decide)]
    exact h8
theorem TwD_F (hN : dN D ≤ 8) (h : TwD m 26 D) {r v : Nat} : TwD (xu2 m 40 r (nI v)) 26 (dsF D (fun x => if x = r then v else dF D x)) := by
  obtain ⟨h1, h2, h3, h4, h5, h6, h7, h8⟩ := h
  refine ⟨by rw [xu2_ne (by decide)]; exact h1, by rw [xu2_ne (by decide)]; exact h2, by rw [xu2_ne (by decide)]; exact h3, by rw [xu2_ne (by decide), xu2_ne (by decide)]; exact h4, fun p hp => ?_, fun p hp k hk => ?_, ?_, ?_⟩
  · show xu2 m 40 r (nI v) 39 p = nI (dL D p) ∧ xu2 m 40 r (nI v) 40 p = nI (if p = r then v else dF D p)
    rw [xu2_eq, xu2_ne (by decide)]
    refine ⟨(h5 p hp).1, ?_⟩
    by_cases q : p = r
    · rw [if_pos q, q, upd_at]
    · rw [if_neg q, upd_ne q]; exact (h5 p hp).2
  · have hp : p < dN D := hp
    rw [xu2_ne (by omega)]; exact h6 p hp k hk
  · unfold RuL
    rw [xu2_ne (by decide), xu2_ne (by decide)]
    exact h7
  · unfold RuL
    rw [xu2_ne (by decide), xu2_ne (by decide)]
    exact h8
theorem TwD_A (h : TwD m 26 D) {xs : List Int32} (hA : Ag [41, 42] m m') (hr : RuL m' 41 xs) (hN : dN D ≤ 8) : TwD m' 26 (dsA D xs) := by
  obtain ⟨h1, h2, h3, h4, h5, h6, h7, h8⟩ := h
  have e : ∀ x, x ≠ 41 → x ≠ 42 → m' x = m x := fun x a b => hA x (by simp; exact ⟨a, b⟩)
  refine ⟨by rw [e 26 (by decide) (by decide)]; exact h1, by rw [e 26 (by decide) (by decide)]; exact h2, by rw [e _ (by decide) (by decide)]; exact h3, by rw [e _ (by decide) (by decide), e (26 + 3) (by decide) (by decide)]; exact h4, by rw [e _ (by decide) (by decide), e (26 + 14) (by decide) (by decide)]; exact h5, fun p hp k hk => ?_, hr, ?_⟩
  · have hp : p < dN D := hp
    rw [e _ (by omega) (by omega)]; exact h6 p hp k hk
  · unfold RuL
    rw [e _ (by decide) (by decide), e (26 + 18 + 1) (by decide) (by decide)]
    exact h8
/-- plans exchanged -/
def dsW (D : xD) (a b : Nat) : xD := dsL D (fun p => dL D (swp a b p)) (fun p => dP D (swp a b p))
theorem TwD_W (h : TwD m t D) {a b : Nat} (ha : a < dN D) (hb : b < dN D) (hN : dN D ≤ 8) (hL : ∀ p, dL D p ≤ 24) (hA : Ag [t + 13, t + 5 + a, t + 5 + b] m m') (e1 : ∀ p, p < 8 → m' (t + 13) p = m (t + 13) (swp a b p)) (e2 : ∀ p, p < 8 → ∀ k, k < 24 → m' (t + 5 + p) k = m (t + 5 + swp a b p) k) : TwD m' t (dsW D a b) := by
  obtain ⟨h1, h2, h3, h4, h5, h6, h7, h8⟩ := h
  have e : ∀ x, (x < t + 5 ∨ t + 13 < x) → m' x = m x := fun x hx => hA x (by simp; omega)
  refine ⟨by rw [e t (by omega)]; exact h1, by rw [e t (by omega)]; exact h2, by rw [e _ (by omega)]; exact h3, by rw [e (t + 2) (by omega), e (t + 3) (by omega)]; exact h4, fun p hp => ?_, fun p hp k hk => ?_, ?_, ?_⟩
  · rw [e (t + 14) (by omega), e1 p hp]
    exact ⟨(h5 _ (swp_lt (by omega) (by omega) hp)).1, (h5 p hp).2⟩
  · have hp : p < dN D := hp
    have hk : k < dL D (swp a b p) := hk
    rw [e2 p (by omega) k (by have := hL (swp a b p); omega)]
    exact h6 _ (swp_lt ha hb hp) k hk
  · unfold RuL
    rw [e (t + 15) (by omega), e (t + 15 + 1) (by omega)]
    exact h7
  · unfold RuL
    rw [e (t + 18) (by omega), e (t + 18 + 1) (by omega)]
    exact h8
end K
section C
variable {d r t N R B : Nat} {mem m' m1 m2 : Nat → Nat → Int32} {Q : xQr} {g : xCf} {c : Nat → Int32} {D : xD}
theorem c92 {a b : Nat} (ht : isTown t) (ha : a < 8) (hb : b < 8) (hne : a ≠ b)
    (k : ∀ m', Ag [t + 13, t + 5 + a, t + 5 + b] mem m' → (∀ p, p < 8 → m' (t + 13) p = mem (t + 13) (swp a b p)) → (∀ p, p < 8 → ∀ k, k < 24 → m' (t + 5 + p) k = mem (t + 5 + swp a b p) k) → Q none (LAY, RFu r, m')) : xCall (d + 1) 92 [.ref t, .int (nI a), .int (nI b)] (LAY, RFu r, mem) Q := by
  have va : vp_in (nI a) 8 := vpn ha (by decide)
  have vb : vp_in (nI b) 8 := vpn hb (by decide)
  refine c_in rfl rfl rfl fun P hP => b92_0 hP ht va vb va vb ?_
  rw [nIc (by omega), nIc (by omega)]
  generalize hm0 : xu2 (xu2 mem (t + 13) a (mem (t + 13) b)) (t + 13) b (mem (t + 13) a) = m0
  have a0 : Ag [t + 13] mem m0 := by rw [← hm0]; exact (Ag.rfl'.u2 (by simp)).u2 (by simp)
  have e0 : ∀ p, p < 8 → m0 (t + 13) p = mem (t + 13) (swp a b p) := fun p hp => by
    rw [← hm0, xu2_eq, xu2_eq]
    unfold swp
    by_cases q : p = a
    · rw [if_pos q, q, upd_ne hne, upd_at]
    · rw [if_neg q]
      by_cases q2 : p = b
      · rw [if_pos q2, q2, upd_at]
      · rw [if_neg q2, upd_ne q2, upd_ne q]
  have key := xloop (N := 24) (G := fun j => ∀ m' v5, Ag [t + 5 + a, t + 5 + b] m0 m' → (∀ k, k < j → m' (t + 5 + a) k = mem (t + 5 + b) k ∧ m' (t + 5 + b) k = mem (t + 5 + a) k) → (∀ k, j ≤ k → m' (t + 5 + a) k = mem (t + 5 + a) k ∧ m' (t + 5 + b) k = mem (t + 5 + b) k) → P 29 [.ref t, .int (nI a), .int (nI b), .int (mem (t + 13) a), .int (nI j), v5] [] (0, 0) (LAY, RFu r, m')) ?_ ?_
  · refine key m0 _ Ag.rfl' (fun k hk => absurd hk (Nat.not_lt_zero k)) (fun k _ => ?_)
    rw [a0 (t + 5 + a) (by simp; omega), a0 (t + 5 + b) (by simp; omega)]
    exact ⟨rfl, rfl⟩
  · intro m' v5 hA h1 _
    refine b92_29 hP ht (fun _ => b92_82 hP ht (k m' ((a0.mono (by simp)).trans (hA.mono (by simp))) (fun p hp => ?_) (fun p hp k hk => ?_))) (fun z => absurd (Int32.le_refl _) z)
    · rw [hA (t + 13) (by simp; omega)]; exact e0 p hp
    · unfold swp
      by_cases q : p = a
      · rw [if_pos q, q]; exact (h1 k hk).1
      · rw [if_neg q]
        by_cases q2 : p = b
        · rw [if_pos q2, q2]; exact (h1 k hk).2
        · rw [if_neg q2, hA _ (by simp; omega), a0 _ (by simp; omega)]
  · intro j hj ih m' v5 hA h1 h2
    have vj : vp_in (nI j) 24 := vpn hj (by decide)
    refine b92_29 hP ht (fun z => absurd z (nI_ge hj (by decide))) (fun _ => b92_36 hP ht va vj va vb vj vj vb vj ?_)
    rw [nIc (by omega), nIc (by omega), nIc (by omega), nIs, (h2 j (Nat.le_refl j)).1, (h2 j (Nat.le_refl j)).2]
    refine ih _ _ ((hA.u2 (by simp)).u2 (by simp)) (fun k hk => ?_) (fun k hk => ?_)
    · rw [xu2_ne (c := t + 5 + a) (by omega), xu2_eq, xu2_eq, xu2_ne (c := t + 5 + b) (by omega)]
      by_cases q : k = j
      · rw [q, upd_at, upd_at]; exact ⟨rfl, rfl⟩
      · rw [upd_ne q, upd_ne q]; exact h1 k (by omega)
    · rw [xu2_ne (c := t + 5 + a) (by omega), xu2_eq, xu2_eq, xu2_ne (c := t + 5 + b) (by omega), upd_ne (by omega), upd_ne (by omega)]
      exact h2 k (by omega)
theorem c216 {a b : Nat} (ha : a < 8) (hb : b < 8) (hne : a ≠ b)
    (k : ∀ m', AgM [112, 113] [] mem m' → (∀ p, p < 8 → m' 113 p = mem 113 (swp a b p)) → (∀ p, 8 ≤ p → m' 113 p = mem 113 p) → (∀ p, p < 8 → ∀ k, k < 24 → m' 112 (24 * p + k) = mem 112 (24 * swp a b p + k)) → (∀ i, 192 ≤ i → m' 112 i = mem 112 i) → Q none (LAY, RFu r, m')) : xCall (d + 1) 216 [.ref 108, .int (nI a), .int (nI b)] (LAY, RFu r, mem) Q := by
  have va : vp_in (nI a) 8 := vpn ha (by decide)
  have vb : vp_in (nI b) 8 := vpn hb (by decide)
  refine c_in rfl rfl rfl fun P hP => b216_0 hP ?_
  have key := xloop (N := 24) (G := fun j => ∀ m' v4, AgM [112] [] mem m' → (∀ k, k < j → m' 112 (24 * a + k) = mem 112 (24 * b + k) ∧ m' 112 (24 * b + k) = mem 112 (24 * a + k)) → (∀ i, (∀ k, k < j → i ≠ 24 * a + k ∧ i ≠ 24 * b + k) → m' 112 i = mem 112 i) → P 2 [.ref 108, .int (nI a), .int (nI b), .int (nI j), v4] [] (0, 0) (LAY, RFu r, m')) ?_ ?_
  · exact key mem _ AgM.rfl' (fun k hk => absurd hk (Nat.not_lt_zero k)) (fun i _ => rfl)
  · intro m' v4 hA h1 h2
    refine b216_2 hP (fun _ => b216_62 hP va vb va vb ?_) (fun z => absurd (Int32.le_refl _) z)
    rw [nIc (by omega), nIc (by omega)]
    have e113 : m' 113 = mem 113 := hA.1 113 (by simp) (by decide)
    refine k _ (((hA.mono (by simp) (by simp)).u2 (by simp) (by decide)).u2 (by simp) (by decide)) (fun p hp => ?_) (fun p hp => ?_) (fun p hp k hk => ?_) (fun i hi => ?_)
    · rw [xu2_eq, xu2_eq, e113]
      unfold swp
      by_cases q : p = a
      · rw [if_pos q, q, upd_ne hne, upd_at]
      · rw [if_neg q]
        by_cases q2 : p = b
        · rw [if_pos q2, q2, upd_at]
        · rw [if_neg q2, upd_ne q2, upd_ne q]
    · rw [xu2_eq, xu2_eq, e113, upd_ne (by omega), upd_ne (by omega)]
    · rw [xu2_ne (by decide), xu2_ne (by decide)]
      unfold swp
      by_cases q : p = a
      · rw [if_pos q, q]; exact (h1 k hk).1
      · rw [if_neg q]
        by_cases q2 : p = b
        · rw [if_pos q2, q2]; exact (h1 k hk).2
        · rw [if_neg q2]; exact h2 _ (fun k' hk' => by omega)
    · rw [xu2_ne (by decide), xu2_ne (by decide)]
      exact h2 i (fun k' hk' => by omega)
  · intro j hj ih m' v4 hA h1 h2
    have v1 : vp_in (nI 24 * nI a + nI j) 192 := by rw [nI_mul, nI_add]; exact vpn (by omega) (by decide)
    have v2 : vp_in (nI 24 * nI b + nI j) 192 := by rw [nI_mul, nI_add]; exact vpn (by omega) (by decide)
    refine b216_2 hP (fun z => absurd z (nI_ge hj (by decide))) (fun _ => b216_8 hP v1 v2 v1 v2 ?_)
    have w1 : nI 24 * nI a + nI j = nI (24 * a + j) := by rw [nI_mul, nI_add]
    have w2 : nI 24 * nI b + nI j = nI (24 * b + j) := by rw [nI_mul, nI_add]
    have w3 : nI j + nI 1 = nI (j + 1) := nIs j
    rw [w1, w2, w3, nIc (by omega), nIc (by omega), h2 (24 * a + j) (fun k hk => by omega), h2 (24 * b + j) (fun k hk => by omega)]
    refine ih _ _ ((hA.u2 (by simp) (by decide)).u2 (by simp) (by decide)) (fun k hk => ?_) (fun i hi => ?_)
    · rw [xu2_eq, xu2_eq]
      by_cases q : k = j
      · rw [q, upd_at, upd_ne (by omega), upd_at]; exact ⟨rfl, rfl⟩
      · rw [upd_ne (by omega), upd_ne (by omega), upd_ne (by omega), upd_ne (by omega)]; exact h1 k (by omega)
    · have := hi j (by omega)
      rw [xu2_eq, xu2_eq, upd_ne this.2, upd_ne this.1]
      exact h2 i (fun k hk => hi k (by omega))
theorem swap2 {f f' f'' : Nat → Int32} {a b : Nat} (ha : a < 8) (hb : b < 8) (h1 : ∀ p, p < 8 → f' p = f (swp a b p)) (h2 : ∀ p, 8 ≤ p → f' p = f p) (h3 : ∀ p, p < 8 → f'' p = f' (swp a b p)) (h4 : ∀ p, 8 ≤ p → f'' p = f' p) : f'' = f := by
  funext p
  by_cases q : p < 8
  · rw [h3 p q, h1 _ (swp_lt ha hb q), swp_swp]
  · rw [h4 p (by omega), h2 p (by omega)]
theorem swap24 {f f' f'' : Nat → Int32} {a b : Nat} (ha : a < 8) (hb : b < 8) (h1 : ∀ p, p < 8 → ∀ k, k < 24 → f' (24 * p + k) = f (24 * swp a b p + k)) (h2 : ∀ p, 192 ≤ p → f' p = f p) (h3 : ∀ p, p < 8 → ∀ k, k < 24 → f'' (24 * p + k) = f' (24 * swp a b p + k)) (h4 : ∀ p, 192 ≤ p → f'' p = f' p) : f'' = f := by
  funext i
  by_cases q : i < 192
  · have e : i = 24 * (i / 24) + i % 24 := (Nat.div_add_mod i 24).symm
    have hd : i / 24 < 8 := by omega
    have hm : i % 24 < 24 := Nat.mod_lt _ (by decide)
    rw [e, h3 _ hd _ hm, h1 _ (swp_lt ha hb hd) _ hm, swp_swp]
  · rw [h4 i (by omega), h2 i (by omega)]
/-! the class's trying -/
def tfW : List Nat := [3, 4, 22, 25, 26, 27, 28, 29, 30, 31, 32, 33, 34, 35, 36, 37, 38, 39, 40, 41, 42, 43, 44, 45, 46, 50, 52, 53, 54, 106]
def TI (mem m' : Nat → Nat → Int32) : Prop := Ag tfW mem m' ∧ ∀ i, 121 ≤ i → m' 50 i = 0
theorem TI0 (h : RRc mem N R B) : TI mem mem := ⟨Ag.rfl', fun i hi => h.2.2.2.2.2.2.2 50 (by decide) i hi⟩
theorem TI.ag {W : List Nat} (h : TI mem m') (a : Ag W m' m2) (d : W.all (fun c => decide (c ∈ tfW) && decide (c ≠ 50)) = true) : TI mem m2 := by
  have d := List.all_eq_true.mp d
  refine ⟨h.1.trans (a.mono fun c hc => ?_), fun i hi => ?_⟩
  · have := d c hc
    simp only [Bool.and_eq_true, decide_eq_true_eq] at this
    exact this.1
  · rw [a 50 (fun hc => ?_)]
    · exact h.2 i hi
    · have := d 50 hc
      simp only [Bool.and_eq_true, decide_eq_true_eq] at this
      exact this.2 rfl
theorem TI_Z (h : RRc mem N R B) (f : TI mem m') : RZe m' := h.2.2.2.2.2.2.2.mv fun c hc => by
  by_cases q : c = 50
  · rw [q]; exact Or.inr f.2
  · refine Or.inl (f.1 c ?_)
    have : ∀ c ∈ zC, c ∉ tfW ∨ c = 50 := by decide
    exact (this c hc).resolve_right q
theorem TI_5 (h : RRc mem N R B) (f : TI mem m') : TwD m' 5 (D0 mem) := by
  obtain ⟨g1, -, -, -, -, -, g7, g8, -⟩ := RRc_g h
  refine TwD_mv g7.2.1 g8 fun k hk => f.1 _ ?_
  have : ∀ k ∈ tCells, 5 + k ∉ tfW := by decide
  exact this k hk
theorem c153T {n : Nat} (ht : isTown t) (h : RRc mem N R B) (hB : B < 500000000) (f : TI mem m') (hT : TwD m' t D) (hD : DOk D) (hN : dN D = N) (hn : n ≤ 1000)
    (k : ∀ m2, TI mem m2 → Ag [50, 52, 53, 54, t + 17, t + 20] m' m2 → m2 50 = qtrs (cfD D) (m2 48) n → m2 48 = mem 48 → Q none (LAY, RFu r, m2)) : xCall (d + 6) 153 [.ref 0, .ref t, .int (nI n)] (LAY, RFu r, m') Q := by
  obtain ⟨q1, q2⟩ := TwD_TC hT hD
  obtain ⟨now, w1, w2⟩ := h.2.2.2.1.2.now
  have e48 : m' 48 = mem 48 := f.1 48 (by decide)
  have hO := h.2.2.2.1.2.ok
  refine c153 (now := now) (g := cfD D) ht q1 q2 (by rw [e48]; show OKc (dN D) _; rw [hN]; exact hO) (by rw [e48]; exact w2) (by omega) (fun i hi => by rw [e48]; exact h.2.2.2.2.2.2.2 48 (by decide) i hi) f.2 fun m2 a e _ => ?_
  have e482 : m2 48 = m' 48 := a 48 (by unfold isTown at ht; simp; omega)
  refine k m2 ⟨f.1.trans (a.mono fun c hc => ?_), fun i hi => ?_⟩ a (by rw [e482]; exact e) (by rw [e482, e48])
  · rcases ht with rfl | rfl
    · have : ∀ c ∈ [50, 52, 53, 54, 5 + 17, 5 + 20], c ∈ tfW := by decide
      exact this c hc
    · have : ∀ c ∈ [50, 52, 53, 54, 26 + 17, 26 + 20], c ∈ tfW := by decide
      exact this c hc
  · rw [e, qtrs_121 (f := cfD D) (show fN (cfD D) ≤ 8 from hD.2.1) hi, e48]
    exact h.2.2.2.2.2.2.2 48 (by decide) i hi
theorem c88T (h : RRc mem N R B) (f : TI mem m') (k : ∀ m2, TI mem m2 → Ag trC m' m2 → TwD m2 26 (D0 mem) → Q none (LAY, RFu r, m2)) : xCall (d + 2) 88 [.ref 26, .ref 5] (LAY, RFu r, m') Q := by
  obtain ⟨g1, -, -, -, -, -, g7, -⟩ := RRc_g h
  exact c88 (TI_5 h f) g7 fun m2 a t2 => k m2 (f.ag a (by decide)) a t2
/-- the tried town, behind quarters -/
theorem TwD_26 (hN : dN D ≤ 8) (hT : TwD m' 26 D) (a : Ag [50, 52, 53, 54, 26 + 17, 26 + 20] m' m2) : TwD m2 26 D := TwD_mv hN hT fun k hk => a _ (by
  have : ∀ k ∈ tCells, 26 + k ∉ [50, 52, 53, 54, 26 + 17, 26 + 20] := by decide
  exact this k hk)
/-! the reference's trying -/
theorem MwD_ag {W V : List Nat} (h : MwD m1 D) (a : AgM W V m1 m2) (d : ∀ x, x ∈ cfCells → x ∉ W) (d2 : ∀ x, x ∈ cfSlots → x ∉ V) : MwD m2 D := by
  unfold MwD RuE RmT at h ⊢
  rw [a.1 109 (d _ (by decide)) (by decide), a.1 110 (d _ (by decide)) (by decide), a.1 111 (d _ (by decide)) (by decide), a.1 112 (d _ (by decide)) (by decide), a.1 113 (d _ (by decide)) (by decide), a.1 127 (d _ (by decide)) (by decide), a.1 128 (d _ (by decide)) (by decide), a.1 129 (d _ (by decide)) (by decide), a.2 0 (d2 _ (by decide)), a.2 2 (d2 _ (by decide)), a.2 29 (d2 _ (by decide)), a.2 32 (d2 _ (by decide)), a.1 (125 + 0) (d _ (by decide)) (by decide), a.1 (125 + 1) (d _ (by decide)) (by decide)]
  exact h
def mtW : List Nat := [114, 115, 116, 117, 118, 119, 120, 121, 130, 131, 133, 136, 137]
theorem m222 {n q0 : Nat} (hq : q0 = 136 ∨ q0 = 137) (hC : CfM m1 g) (hPV : PV (fN g) c) (hM : MV m1 (fN g) c) (hw : ∃ now, now < 500000000 ∧ c 120 = nI now) (hn : n ≤ 1000)
    (k : ∀ r' m2, AgM mtW mqV m1 m2 → MV m2 (fN g) c → (∀ p, p < fN g → m2 q0 p = stD g c n p) → (∀ q1, (q1 = 136 ∨ q1 = 137) → q1 ≠ q0 → m2 q1 = m1 q1) → Q (some (.int (stA g c n))) (LAY, RFu r', m2)) :
    xCall (d + 74) 222 [.ref 108, .int (nI n), .ref q0] (LAY, RFu r, m1) Q := by
  obtain ⟨now, w1, w2⟩ := hw
  refine c222 hq hC hPV hM w2 (by omega) fun r' m2 a v e => k r' m2 (a.mono (fun c hc => ?_) (fun _ h => h)) v e (fun q1 h1 h2 => a.1 q1 (by simp; omega) (by omega))
  rcases hq with rfl | rfl
  · have : ∀ c ∈ [114, 115, 116, 117, 118, 119, 120, 121, 130, 131, 133, 136], c ∈ mtW := by decide
    exact this c hc
  · have : ∀ c ∈ [114, 115, 116, 117, 118, 119, 120, 121, 130, 131, 133, 137], c ∈ mtW := by decide
    exact this c hc
/-- the end of a call that tried out -/
theorem kT1 {m0 : Nat → Nat → Int32} {xs : List Int32} (h : RRc mem N R B) (f : TI mem m0) (a1 : Ag [3, 4] m0 m1) (w : RwC m1 xs) (a2 : AgM (123 :: mtW) (20 :: 19 :: mqV) m1 m2) (v : MV m2 N (mem 48)) (w2 : RwM m2 xs) : RRc m2 N R B :=
  RR_ro (xs := xs) h ((f.1.mono (by decide)).trans (a1.mono (by decide))) (RZe_ag (TI_Z h f) a1 (by decide)) w (a2.mono (by decide) (by decide)) v w2
end C
