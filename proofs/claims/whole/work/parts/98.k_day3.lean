/-! day: what is done -/
abbrev dyS : Type := xD × (Nat → Int32) × Nat × (Nat → Nat → Int32)
def dyC (c : Nat → Int32) (a b n : Nat) : Nat → Int32 := upd (upd c (48 + a) (c (48 + a) + nI n)) (48 + b) (c (48 + b) - nI n)
def dyOk (s : dyS) (c : xAcT) : Bool := decide (c.1 = 113 ∨ (c.1 = 99 ∧ c.2.1 < dR s.1) ∨ (c.1 = 108 ∧ c.2.1 < dN s.1 ∧ c.2.2.1 < dN s.1 ∧ c.2.1 ≠ c.2.2.1 ∧ 1 ≤ c.2.2.2) ∨ ((c.1 = 115 ∨ c.1 = 119) ∧ c.2.1 < dN s.1))
def dyX (s : dyS) (c : xAcT) : dyS :=
  if c.1 = 113 then (s.1, qtrs (cfD s.1) s.2.1 c.2.2.2, (if c.2.2.2 = 0 then s.2.2.1 else puN s.2.2.1), (if c.2.2.2 = 0 then s.2.2.2 else puU s.2.2.1 s.2.2.2 s.2.1))
  else if c.1 = 99 then (dsH s.1 (fun x => if x = c.2.1 then c.2.2.2 else dH s.1 x), s.2)
  else if c.1 = 108 then (s.1, dyC s.2.1 c.2.1 c.2.2.1 c.2.2.2, 0, s.2.2.2)
  else (dsK s.1 (fun x => if x = c.2.1 then (if c.1 = 115 then nI 1 else nI 0) else dK s.1 x), s.2)
def dyP (c : xAcT) : Nat := if c.1 = 113 then c.2.2.2 else 0
def dyA (s : dyS) (c : xAcT) : Nat := if c.1 = 113 then qAsks (cfD s.1) s.2.1 c.2.2.2 else 0
def dyL : List xAcT → dyS → Nat → Nat → Nat → dyS × Nat × Nat × Nat × Bool
  | [], s, p, q, k => (s, p, q, k, false)
  | c :: t, s, p, q, k => if dyOk s c = true then dyL t (dyX s c) (p + dyP c) (q + dyA s c) (k + 1) else (s, p, q, k, true)
theorem dyL_k : ∀ {t : List xAcT} {s : dyS} {p q k : Nat} {s' : dyS} {p' q' k' : Nat} {f : Bool}, dyL t s p q k = (s', p', q', k', f) → k' ≤ k + t.length ∧ (f = true ↔ k' < k + t.length)
  | [], s, p, q, k, s', p', q', k', f, h => by
    have h : (s, p, q, k, false) = (s', p', q', k', f) := h
    simp only [Prod.mk.injEq] at h
    obtain ⟨-, -, -, rfl, rfl⟩ := h
    exact ⟨Nat.le_refl _, fun z => absurd z (by decide), fun z => absurd z (by simp)⟩
  | c :: t, s, p, q, k, s', p', q', k', f, h => by
    unfold dyL at h
    have e : (c :: t).length = t.length + 1 := rfl
    split at h
    · obtain ⟨h1, h2⟩ := dyL_k h
      rw [e]
      exact ⟨by omega, by rw [h2]; omega⟩
    · simp only [Prod.mk.injEq] at h
      obtain ⟨-, -, -, rfl, rfl⟩ := h
      rw [e]
      exact ⟨by omega, fun _ => by omega, fun _ => rfl⟩
def dyI (N R B : Nat) (s : dyS) : Prop := dN s.1 = N ∧ dR s.1 = R ∧ DOk s.1 ∧ (∀ r, r < 4 → dH s.1 r ≤ 8) ∧ SV N R B s.2.1 ∧ s.2.2.1 ≤ 10 ∧ ∀ k, k < s.2.2.1 → SV N R B (s.2.2.2 k)
theorem dyC_o {c : Nat → Int32} {a b n i : Nat} (ha : a < 8) (hb : b < 8) (h : i < 48 ∨ 56 ≤ i) : dyC c a b n i = c i := by
  unfold dyC
  rw [upd_ne (by omega), upd_ne (by omega)]
theorem dyC_p {c : Nat → Int32} {a b n p : Nat} (hab : a ≠ b) : dyC c a b n (48 + p) = if p = a then c (48 + a) + nI n else if p = b then c (48 + b) - nI n else c (48 + p) := by
  unfold dyC
  by_cases q : p = a
  · subst q; rw [if_pos rfl, upd_ne (by omega), upd_at]
  · rw [if_neg q]
    by_cases q2 : p = b
    · subst q2; rw [if_pos rfl, upd_at]
    · rw [if_neg q2, upd_ne (by omega), upd_ne (by omega)]
theorem dyI_X {N R B : Nat} {s : dyS} {c : xAcT} (h : dyI N R B s) (hc : AcOk c) (ho : dyOk s c = true) (hB : B + 400 < 500000000) : dyI N R (B + 400) (dyX s c) := by
  obtain ⟨h1, h2, h3, h4, h5, h6, h7⟩ := h
  obtain ⟨k1, k2, k3, k4, k5⟩ := hc
  have ho := of_decide_eq_true ho
  have h7' : ∀ k, k < s.2.2.1 → SV N R (B + 400) (s.2.2.2 k) := fun k hk => (h7 k hk).mono (Nat.le_refl _) (by omega)
  unfold dyX
  by_cases c1 : c.1 = 113
  · rw [if_pos c1]
    have hS : SV N R (B + 400) (qtrs (cfD s.1) s.2.1 c.2.2.2) := by
      have := SV_qs (f := cfD s.1) (R := R) (B := B) (c := s.2.1) (by show SV (dN s.1) R B s.2.1; rw [h1]; exact h5) h3.1 (by rw [← h2]; exact fPok_D h3) c.2.2.2 (by omega)
      have this : SV (dN s.1) R (B + 4 * c.2.2.2) (qtrs (cfD s.1) s.2.1 c.2.2.2) := this
      rw [h1] at this
      exact this.mono (Nat.le_refl _) (by omega)
    refine ⟨h1, h2, h3, h4, hS, ?_, fun k hk => ?_⟩
    · show (if c.2.2.2 = 0 then s.2.2.1 else puN s.2.2.1) ≤ 10
      split
      · exact h6
      · unfold puN; split <;> omega
    · have hk : k < if c.2.2.2 = 0 then s.2.2.1 else puN s.2.2.1 := hk
      show SV N R (B + 400) ((if c.2.2.2 = 0 then s.2.2.2 else puU s.2.2.1 s.2.2.2 s.2.1) k)
      have hs0 : SV N R (B + 400) s.2.1 := h5.mono (Nat.le_refl _) (by omega)
      by_cases q : c.2.2.2 = 0
      · rw [if_pos q] at hk ⊢
        exact h7' k hk
      · rw [if_neg q] at hk ⊢
        unfold puN at hk
        unfold puU
        split at hk
        · rename_i q2
          rw [if_pos q2]
          split
          · exact h7' _ (by omega)
          · exact hs0
        · rename_i q2
          rw [if_neg q2]
          split
          · exact h7' _ (by omega)
          · exact hs0
  · rw [if_neg c1]
    by_cases c2 : c.1 = 99
    · rw [if_pos c2]
      have hf : ∀ r, r < 4 → (fun x => if x = c.2.1 then c.2.2.2 else dH s.1 x) r ≤ 8 := fun r hr => by
        show (if r = c.2.1 then c.2.2.2 else dH s.1 r) ≤ 8
        split
        · exact k5 c2
        · exact h4 r hr
      exact ⟨h1, h2, DOk_H h3 (fun r hr => Nat.le_trans (hf r hr) (by decide)), hf, h5.mono (Nat.le_refl _) (by omega), h6, h7'⟩
    · rw [if_neg c2]
      by_cases c3 : c.1 = 108
      · rw [if_pos c3]
        have hN8 := h5.2.1
        have ho2 : c.2.1 < dN s.1 ∧ c.2.2.1 < dN s.1 ∧ c.2.1 ≠ c.2.2.1 ∧ 1 ≤ c.2.2.2 := by
          rcases ho with w | w | w | w
          · exact absurd w c1
          · exact absurd w.1 c2
          · exact w.2
          · omega
        obtain ⟨o1, o2, o3, o4⟩ := ho2
        rw [h1] at o1 o2
        refine ⟨h1, h2, h3, h4, ?_, by show 0 ≤ 10; decide, fun k hk => absurd hk (Nat.not_lt_zero k)⟩
        exact SV_cred h5 (fun i hi => dyC_o (by omega) (by omega) hi) (fun p hp1 hp2 => by
          show dyC s.2.1 c.2.1 c.2.2.1 c.2.2.2 (48 + p) = 0
          rw [dyC_p o3, if_neg (by omega), if_neg (by omega)]
          exact (h5.2.2.2.1 p hp1 hp2).2 6 (by decide) (by decide)) ((h5.2.2.2.2.2.2.2.2.pay (by omega) (by omega) o3 (nI_toInt (by omega)) (by omega) (fun p hp => dyC_p o3)).mono (by omega)) (by omega)
      · rw [if_neg c3]
        refine ⟨h1, h2, DOk_K h3 (fun p hp => ?_), h4, h5.mono (Nat.le_refl _) (by omega), h6, h7'⟩
        show (if p = c.2.1 then (if c.1 = 115 then nI 1 else nI 0) else dK s.1 p) = 0 ∨ (if p = c.2.1 then (if c.1 = 115 then nI 1 else nI 0) else dK s.1 p) = 1
        split
        · split
          · exact Or.inr rfl
          · exact Or.inl rfl
        · exact h3.2.2.2.1 p hp
def dyCS (m : Nat → Nat → Int32) (s : dyS) : Prop := TwD m 5 s.1 ∧ m 48 = s.2.1 ∧ UC m s.2.2.1 s.2.2.2 ∧ RZe m
def dyMS (m : Nat → Nat → Int32) (s : dyS) : Prop := MwD m s.1 ∧ MV m (dN s.1) s.2.1 ∧ UM m (dN s.1) s.2.2.1 s.2.2.2
def dyW : List Nat := [6, 8] ++ (unC ++ paW)
def dyMW : List Nat := [109, 111, 120] ++ qrW
section K
variable {N R B r d : Nat} {mem m m' m0 m1 m2 m3 m4 m5 : Nat → Nat → Int32} {Q : xQr} {D : xD} {s : dyS} {c : xAcT}
theorem TwD_H5 (h : TwD m 5 D) {r v : Nat} : TwD (xu2 m 6 r (nI v)) 5 (dsH D (fun x => if x = r then v else dH D x)) := by
  obtain ⟨h1, h2, h3, h4, h5, h6, h7, h8⟩ := h
  refine ⟨by rw [xu2_ne (by decide)]; exact h1, by rw [xu2_ne (by decide)]; exact h2, fun x hx => ?_, by rw [xu2_ne (by decide), xu2_ne (by decide)]; exact h4, by rw [xu2_ne (by decide), xu2_ne (by decide)]; exact h5, fun p hp k hk => by rw [xu2_ne (by omega)]; exact h6 p hp k hk, ?_, ?_⟩
  · show xu2 m 6 r (nI v) 6 x = nI (if x = r then v else dH D x)
    rw [xu2_eq]
    by_cases q : x = r
    · rw [if_pos q, q, upd_at]
    · rw [if_neg q, upd_ne q]; exact h3 x hx
  · unfold RuL
    rw [xu2_ne (by decide), xu2_ne (by decide)]
    exact h7
  · unfold RuL
    rw [xu2_ne (by decide), xu2_ne (by decide)]
    exact h8
theorem TwD_K5 (h : TwD m 5 D) {r : Nat} {v : Int32} : TwD (xu2 m 8 r v) 5 (dsK D (fun x => if x = r then v else dK D x)) := by
  obtain ⟨h1, h2, h3, h4, h5, h6, h7, h8⟩ := h
  refine ⟨by rw [xu2_ne (by decide)]; exact h1, by rw [xu2_ne (by decide)]; exact h2, by rw [xu2_ne (by decide)]; exact h3, fun p hp => ?_, by rw [xu2_ne (by decide), xu2_ne (by decide)]; exact h5, fun p hp k hk => by rw [xu2_ne (by omega)]; exact h6 p hp k hk, ?_, ?_⟩
  · show xu2 m 8 r v 7 p = dg D p ∧ xu2 m 8 r v 8 p = if p = r then v else dK D p
    rw [xu2_eq, xu2_ne (by decide)]
    refine ⟨(h4 p hp).1, ?_⟩
    by_cases q : p = r
    · rw [if_pos q, q, upd_at]
    · rw [if_neg q, upd_ne q]; exact (h4 p hp).2
  · unfold RuL
    rw [xu2_ne (by decide), xu2_ne (by decide)]
    exact h7
  · unfold RuL
    rw [xu2_ne (by decide), xu2_ne (by decide)]
    exact h8
theorem dyCS.rz {x : Nat} (hz : RZe m) (hx : x = 6 ∨ x = 8) {i : Nat} {v : Int32} : RZe (xu2 m x i v) := hz.mv fun c hc => Or.inl (xu2_ne (by
  have : ∀ c ∈ zC, c ≠ 6 ∧ c ≠ 8 := by decide
  have := this c hc
  omega))
theorem dyCS.uc {x u : Nat} {U : Nat → Nat → Int32} (h : UC m u U) (hx : x = 6 ∨ x = 8) {i : Nat} {v : Int32} : UC (xu2 m x i v) u U := h.mv fun c hc => xu2_ne (by
  have : ∀ c ∈ unC, c ≠ 6 ∧ c ≠ 8 := by decide
  have := this c hc
  omega)
/-- an act that isn't quarters, in the class -/
theorem c117 {p1 p2 p3 : Int32} (hs : dyCS m s) (hi : dyI N R B s) (hc : AcOk c) (h113 : c.1 ≠ 113) (e99 : c.1 = 99 → p1 = nI c.2.1 ∧ p3 = nI c.2.2.2) (esw : c.1 = 115 ∨ c.1 = 119 → p1 = nI c.2.1) (e108 : c.1 = 108 → p1 = nI c.2.1 ∧ p2 = nI c.2.2.1 ∧ p3 = nI c.2.2.2)
    (k0 : dyOk s c = false → Q (some (.int (nI 0))) (LAY, RFu r, m)) (k1 : dyOk s c = true → ∀ m', Ag dyW m m' → dyCS m' (dyX s c) → Q (some (.int (nI 1))) (LAY, RFu r, m')) : xCall (d + 8) 117 [.ref 0, .int (nI c.1), .int p1, .int p2, .int p3] (LAY, RFu r, m) Q := by
  obtain ⟨hT, h48, hU, hZ⟩ := id hs
  obtain ⟨i1, i2, i3, i4, i5, i6, i7⟩ := id hi
  obtain ⟨kk, kx, ky, kn, k8⟩ := hc
  obtain ⟨d1, d2, -⟩ := id i3
  have hR : m 5 0 = nI (dR s.1) := hT.1
  have hN : m 5 1 = nI (dN s.1) := hT.2.1
  have ti : (nI c.1).toInt = (c.1 : Int) := nI_toInt (by omega)
  refine c_in rfl rfl rfl fun P hP => ?_
  have key := b117_0 (d := d + 7) (Q := Q) (r := r) (mem := m) (p0 := nI c.1) (p1 := p1) (p2 := p2) (p3 := p3) hP
  rw [ti] at key
  have sick : ∀ y : Int32, (c.1 = 115 ∨ c.1 = 119) → y = (if c.1 = 115 then nI 1 else nI 0) → ∀ Q' : xQr, (dyOk s c = false → Q' (some (.int (nI 0))) (LAY, RFu r, m)) → (dyOk s c = true → ∀ m', Ag dyW m m' → dyCS m' (dyX s c) → Q' (some (.int (nI 1))) (LAY, RFu r, m')) → xCall (d + 7) 106 [.ref 0, .int p1, .int y] (LAY, RFu r, m) Q' := fun y hk hy Q' q0 q1 => by
    rw [esw hk]
    have v8 : c.2.1 < 8 → vp_in (nI c.2.1) 8 := fun h => vpn h (by decide)
    refine c_in rfl rfl rfl fun P hP => b106_0 hP (c83 (Or.inl rfl) hN (by omega) (fun hp => Bk.i (b106_8 hP (fun z => absurd rfl z) (fun _ => b106_11 hP (Or.inl rfl) (q0 (decide_eq_false ?_))))) (fun p hp ep => Bk.i (b106_8 hP (fun _ => ?_) (fun z => absurd z (by decide)))))
    · rintro (w | w | w | w)
      · omega
      · omega
      · omega
      · exact hp _ w.2 rfl
    · have ep : c.2.1 = p := nI_inj ep (by omega) (by omega)
      have hok : dyOk s c = true := decide_eq_true (Or.inr (Or.inr (Or.inr ⟨hk, by omega⟩)))
      have fin : Q' (some (.int (nI 1))) (LAY, RFu r, xu2 m 8 c.2.1 y) := by
        refine q1 hok _ (Ag.rfl'.u2 (by decide)) ?_
        unfold dyX
        rw [if_neg h113, if_neg (by omega), if_neg (by omega), ← hy]
        exact ⟨TwD_K5 hT, by rw [xu2_ne (by decide)]; exact h48, dyCS.uc hU (Or.inr rfl), dyCS.rz hZ (Or.inr rfl)⟩
      have y01 : y = 0 ∨ y = 1 := by
        rw [hy]
        split
        · exact Or.inr rfl
        · exact Or.inl rfl
      refine b106_13 hP (fun z => b106_29 hP (b106_30 hP (v8 (by omega)) (Or.inr rfl) ?_)) (fun z => b106_25 hP (b106_30 hP (v8 (by omega)) (Or.inr rfl) ?_))
      · rw [nIc (by omega)]
        rw [z] at fin
        exact fin
      · rw [nIc (by omega)]
        rw [y01.resolve_left z] at fin
        exact fin
  refine key (fun h1 h2 h3 => ?_) (fun h => ?_) (fun h => ?_) (fun h => ?_)
  · -- l
    have h108 : c.1 = 108 := by omega
    obtain ⟨e1, e2, e3⟩ := e108 h108
    rw [e1, e2, e3]
    refine b117_67 hP ?_
    have no : dyOk s c = false → P 72 [.ref 0, .int (nI c.1), .int (nI c.2.1), .int (nI c.2.2.1), .int (nI c.2.2.2)] [] (0, 0) (LAY, RFu r, m) → True := fun _ _ => trivial
    have bad : (∀ w : dyOk s c = true, False) → dyOk s c = false := fun h => by
      cases hh : dyOk s c
      · rfl
      · exact absurd hh h
    have yes : dyOk s c = true → c.2.1 < dN s.1 ∧ c.2.2.1 < dN s.1 ∧ c.2.1 ≠ c.2.2.1 ∧ 1 ≤ c.2.2.2 := fun h => by
      rcases of_decide_eq_true h with w | w | w | w
      · omega
      · omega
      · exact w.2
      · omega
    refine c_in rfl rfl rfl fun P2 hP2 => b122_0 hP2 (c152 hN (by omega) (fun hp => Bk.i (b122_6 hP2 (fun _ => b122_20 hP2 (Or.inl rfl) (Bk.i (b117_75 hP (Or.inl rfl) (k0 (bad fun h => ?_))))) (fun z => absurd rfl z))) (fun a b hab => Bk.i (b122_6 hP2 (fun z => absurd z (by decide)) (fun _ => b122_9 hP2 (c151 (a := 1) (b := 999) (by decide) (by decide) (fun hs => Bk.i (b122_17 hP2 (fun z => absurd rfl z) (fun _ => b122_20 hP2 (Or.inl rfl) (Bk.i (b117_75 hP (Or.inl rfl) (k0 (bad fun h => ?_))))))) (fun n hn1 hn2 en => Bk.i (b122_17 hP2 (fun _ => b122_22 hP2 ?_) (fun z => absurd z (by decide)))))))))
    · obtain ⟨w1, w2, w3, w4⟩ := yes h
      exact hp _ _ ⟨w1, w2, w3, rfl, rfl⟩
    · obtain ⟨w1, w2, w3, w4⟩ := yes h
      exact hs _ w4 (by omega) rfl
    · obtain ⟨w1, w2, w3, w4, w5⟩ := hab
      have w4 := nI_inj w4 (by omega) (by omega)
      have w5 := nI_inj w5 (by omega) (by omega)
      have en := nI_inj en (by omega) (by omega)
      rw [← w4] at w1 w3
      rw [← w5] at w2 w3
      have hok : dyOk s c = true := decide_eq_true (Or.inr (Or.inr (Or.inl ⟨h108, w1, w2, w3, by omega⟩)))
      refine c68 (Or.inl rfl) (by omega) (by omega) w3 fun m0 a0 e0 => Bk.v (b122_32 hP2 (c27 (Bk.v (b122_39 hP2 (Or.inr rfl) (Bk.i (b117_75 hP (Or.inr rfl) (k1 hok _ ((a0.mono (by decide)).u2 (by decide)) ?_)))))))
      unfold dyX
      rw [if_neg h113, if_neg (by omega), if_pos h108]
      obtain ⟨fr, u1, u2, u3, u4, u5⟩ := hU
      have e0 : m0 48 = dyC (m 48) c.2.1 c.2.2.1 c.2.2.2 := e0
      refine ⟨TwD_mv d2 hT (fun k hk => ?_), ?_, ⟨fr, by rw [xu2_eq, upd_at], Nat.zero_le _, by rw [xu2_eq, upd_ne (by decide), a0 55 (by decide)]; exact u3, u4, fun k hk => absurd hk (Nat.not_lt_zero k)⟩, hZ.mv fun x hx => ?_⟩
      · have : ∀ k ∈ tCells, 5 + k ≠ 55 ∧ 5 + k ∉ [48] := by decide
        rw [xu2_ne (this k hk).1]
        exact a0 _ (this k hk).2
      · rw [xu2_ne (by decide), e0, h48]
      · have : ∀ x ∈ zC, x ≠ 55 := by decide
        rw [xu2_ne (this x hx)]
        by_cases q : x = 48
        · refine Or.inr fun i hi => ?_
          rw [q, e0, dyC_o (by omega) (by omega) (by omega)]
          exact hZ 48 (by decide) i hi
        · exact Or.inl (a0 x (by simpa using q))
  · -- c
    have h99 : c.1 = 99 := by omega
    obtain ⟨e1, e3⟩ := e99 h99
    rw [e1, e3]
    refine b117_36 hP ?_
    refine c_in rfl rfl rfl fun P2 hP2 => b105_0 hP2 (c82 (Or.inl rfl) hR (by omega) (fun hp => Bk.i (b105_8 hP2 (fun _ => b105_21 hP2 (Bk.i (b117_43 hP (fun _ => b117_51 hP (b117_52 hP (Or.inl rfl) (k0 (decide_eq_false ?_)))) (fun z => absurd rfl z)))) (fun z => absurd rfl z))) (fun p hp ep => Bk.i (b105_8 hP2 (fun z => absurd z (by decide)) (fun _ => b105_11 hP2 (c151 (a := 0) (b := 8) (by decide) (by decide) (fun hs => absurd rfl (hs _ (Nat.zero_le _) (k8 h99))) (fun s' _ _ _ => Bk.i (b105_18 hP2 (fun _ => ?_) (fun z => absurd z (by decide)))))))))
    · rintro (w | w | w | w)
      · omega
      · exact hp _ w.2 rfl
      · omega
      · omega
    · have ep : c.2.1 = p := nI_inj ep (by omega) (by omega)
      have hok : dyOk s c = true := decide_eq_true (Or.inr (Or.inl ⟨h99, by omega⟩))
      have v4 : vp_in (nI c.2.1) 4 := vpn (by omega) (by decide)
      have hh := hT.2.2.1 c.2.1 (by omega)
      have hh8 := i4 c.2.1 (by omega)
      refine b105_23 hP2 v4 v4 (Bk.i (b117_43 hP (fun z => absurd z ?_) (fun _ => b117_47 hP (b117_52 hP (Or.inr rfl) ?_))))
      · rw [nIc (by omega), show m 6 c.2.1 = _ from hh]; exact nI_nm (by omega)
      · rw [nIc (by omega)]
        refine k1 hok _ (Ag.rfl'.u2 (by decide)) ?_
        unfold dyX
        rw [if_neg h113, if_pos h99]
        exact ⟨TwD_H5 hT, by rw [xu2_ne (by decide)]; exact h48, dyCS.uc hU (Or.inl rfl), dyCS.rz hZ (Or.inl rfl)⟩
  · have h115 : c.1 = 115 := by omega
    exact b117_53 hP (sick (nI 1) (Or.inl h115) (by rw [if_pos h115]) _ (fun h => Bk.i (b117_59 hP (Or.inl rfl) (k0 h))) (fun h m' a' s' => Bk.i (b117_59 hP (Or.inr rfl) (k1 h m' a' s'))))
  · have h119 : c.1 = 119 := by omega
    exact b117_60 hP (sick (nI 0) (Or.inr h119) (by rw [if_neg (by omega)]) _ (fun h => Bk.i (b117_66 hP (Or.inl rfl) (k0 h))) (fun h m' a' s' => Bk.i (b117_66 hP (Or.inr rfl) (k1 h m' a' s'))))
theorem c116L {P : xPr} (hP : Cl (d + 9) none 116 P Q) : ∀ (t : List xAcT) (s : dyS) (p q k B : Nat) (m : Nat → Nat → Int32) (s' : dyS) (p' q' k' : Nat) (f : Bool), m 99 4 = nI (k + t.length) → k + t.length ≤ 60 → (∀ (j : Nat) (c : xAcT), t[j]? = some c → AcC m (k + j) c) → LsOk t → dyI N R B s → B + 400 * t.length < 500000000 → dyCS m s → dyL t s p q k = (s', p', q', k', f) →
    (∀ m' v4, Ag dyW m m' → dyCS m' s' → dyI N R (B + 400 * t.length) s' → P 160 [.ref 0, .int (nI p'), .int (nI q'), .int (nI k'), v4] [] (0, 0) (LAY, RFu r, m')) → P 41 [.ref 0, .int (nI p), .int (nI q), .int (nI k), .int (nI k)] [] (0, 0) (LAY, RFu r, m)
  | [], s, p, q, k, B, m, s', p', q', k', f, h4, hk, hA, hL, hI, hB, hC, hX, kk => by
    have hX : (s, p, q, k, false) = (s', p', q', k', f) := hX
    simp only [Prod.mk.injEq] at hX
    obtain ⟨rfl, rfl, rfl, rfl, -⟩ := hX
    refine b116_41 hP (fun _ => kk m _ Ag.rfl' hC hI) (fun z => absurd ?_ z)
    rw [h4]; exact Int32.le_refl _
  | c :: t, s, p, q, k, B, m, s', p', q', k', f, h4, hk, hA, hL, hI, hB, hC, hX, kk => by
    have el : (c :: t).length = t.length + 1 := rfl
    rw [el] at h4 hk hB kk
    have hc : AcOk c := hL 0 c rfl
    have ac : AcC m k c := hA 0 c rfl
    have vk : vp_in (nI k) 60 := vpn (by omega) (by decide)
    have ck : (nI k).toNatClampNeg = k := nIc (by omega)
    unfold dyL at hX
    obtain ⟨a1, a2, a3, a4, a5⟩ := id ac
    have kk10 := hc.1
    -- one was done
    have go : ∀ m2, Ag dyW m m2 → dyCS m2 (dyX s c) → dyOk s c = true → P 41 [.ref 0, .int (nI (p + dyP c)), .int (nI (q + dyA s c)), .int (nI (k + 1)), .int (nI (k + 1))] [] (0, 0) (LAY, RFu r, m2) := fun m2 b2 s2 hok => by
      rw [if_pos hok] at hX
      have f99 : m2 99 = m 99 := b2 99 (by decide)
      have h400 : B + 400 ≤ B + 400 * (t.length + 1) := Nat.add_le_add_left (Nat.le_mul_of_pos_right _ (Nat.succ_pos _)) _
      have hI2 : dyI N R (B + 400) (dyX s c) := dyI_X hI hc hok (Nat.lt_of_le_of_lt h400 hB)
      have hB2 : B + 400 + 400 * t.length < 500000000 := by
        have := hB
        rw [Nat.mul_add, Nat.mul_one, ← Nat.add_assoc, Nat.add_right_comm] at this
        exact this
      have h42 : m2 99 4 = nI (k + 1 + t.length) := by rw [f99, h4, show k + (t.length + 1) = k + 1 + t.length by omega]
      have hk2 : k + 1 + t.length ≤ 60 := by omega
      have hL2 : LsOk t := fun j c' hj => hL (j + 1) c' hj
      obtain ⟨B2, eB⟩ : ∃ B2, B2 = B + 400 := ⟨_, rfl⟩
      rw [← eB] at hI2 hB2
      refine c116L hP t (dyX s c) _ _ (k + 1) B2 m2 s' p' q' k' f h42 hk2 (fun j c' hj => ?_) hL2 hI2 hB2 s2 hX (fun m' v4 b3 s3 i3 => kk m' v4 (b2.trans b3) s3 ?_)
      · have := hA (j + 1) c' hj
        rw [show k + (j + 1) = k + 1 + j by omega] at this
        exact this.sm (by rw [b2 100 (by decide), b2 101 (by decide), b2 102 (by decide), b2 103 (by decide)]; exact ⟨rfl, rfl, rfl, rfl⟩)
      · rw [show B + 400 * (t.length + 1) = B2 + 400 * t.length by omega]
        exact i3
    refine b116_41 hP (fun z => absurd z ?_) (fun _ => b116_53 hP vk (fun z => ?_) (fun z => ?_))
    · rw [h4]; exact nI_ge (by omega) (by omega)
    · rw [ck, a1] at z
      have h113 : c.1 ≠ 113 := fun w => z (by rw [w])
      refine b116_101 hP vk vk vk vk ?_
      rw [ck, a1]
      refine c117 (d := d + 1) hC hI hc h113 a3 a4 a5 (fun hno => Bk.i (b116_145 hP (fun z => absurd rfl z) (fun _ => b116_148 hP ?_))) (fun hok m2 b2 s2 => Bk.i (b116_145 hP (fun _ => b116_151 hP ?_) (fun z => absurd z (by decide))))
      · rw [if_neg (by rw [hno]; decide)] at hX
        simp only [Prod.mk.injEq] at hX
        obtain ⟨rfl, rfl, rfl, rfl, -⟩ := hX
        refine kk m _ Ag.rfl' hC ⟨hI.1, hI.2.1, hI.2.2.1, hI.2.2.2.1, hI.2.2.2.2.1.mono (Nat.le_refl _) (by omega), hI.2.2.2.2.2.1, fun j hj => (hI.2.2.2.2.2.2 j hj).mono (Nat.le_refl _) (by omega)⟩
      · have := go m2 b2 s2 hok
        unfold dyP dyA at this
        rw [if_neg h113, if_neg h113] at this
        rw [nIs]
        exact this
    · rw [ck, a1] at z
      have h113 : c.1 = 113 := nI_inj z (by omega) (by decide)
      have hok : dyOk s c = true := decide_eq_true (Or.inl h113)
      have e3 := a2 h113
      obtain ⟨g1, g2, g3, g4, g5, g6, g7⟩ := id hI
      obtain ⟨hT, h48, hU, hZ⟩ := id hC
      refine b116_68 hP vk vk ?_
      rw [ck, e3]
      refine c110 (D := s.1) (R := R) (B := B) hT g3 (by rw [g1, h48]; exact g5) (by omega) (by have := hc.2.2.2.1; omega) hU hZ fun m2 b2 e2 u2 z2 => Bk.i (b116_96 hP (b116_151 hP ?_))
      have b2' : Ag dyW m m2 := b2.mono (by decide)
      have := go m2 b2' ?_ hok
      · unfold dyP dyA at this
        rw [if_pos h113, if_pos h113] at this
        rw [nIs, nI_add, nI_add, h48]
        exact this
      · unfold dyX
        rw [if_pos h113]
        refine ⟨TwD_mv g3.2.1 hT (fun j hj => ?_), by rw [e2, h48], ?_, z2⟩
        · have : ∀ k ∈ tCells, 5 + k ∉ unC ++ paW := by decide
          exact b2 _ (this j hj)
        · rw [h48] at u2
          exact u2
end K
section K
variable {N R B r d : Nat} {mem m m' m0 m1 m2 m3 m4 m5 : Nat → Nat → Int32} {Q : xQr} {D : xD} {s : dyS} {c : xAcT}
theorem dyMS.t20 (h : dyMS m s) : dyMS (xu2 m 108 20 (nI 0)) s := by
  obtain ⟨h1, h2, h3⟩ := h
  exact ⟨MwD_ag h1 (th20 (x := nI 0)) (by simp) (by decide), h2.ag (th20 (x := nI 0)) (by simp) (by decide), h3.mv (by rw [xu2_ne (by decide)]) (e20 (by decide))⟩
theorem m183D {x n : Nat} (hM : MwD m D) (hR4 : dR D ≤ 4) (hx : x < 100) (hn : n ≤ 8) (k0 : ¬ x < dR D → Q (some (.int (-1))) (LAY, RFu r, xu2 m 108 20 (nI 0))) (k1 : x < dR D → Q (some (.int (nI (dH D x)))) (LAY, RFu r, xu2 (xu2 m 108 20 (nI 0)) 109 x (nI n))) : xCall (d + 3) 183 [.ref 108, .int (nI x), .int (nI n)] (LAY, RFu r, m) Q := by
  have hR : xu2 m 108 20 (nI 0) 108 0 = nI (dR D) := by rw [e20 (by decide)]; exact hM.1
  refine c_in rfl rfl rfl fun P hP => b183_0 hP (c164 hR (by omega) (fun hp => Bk.i (b183_10 hP (fun _ => b183_23 hP (k0 (fun q => hp x q rfl))) (fun z => absurd rfl z))) (fun p hp ep => Bk.i (b183_10 hP (fun z => absurd z (by decide)) (fun _ => b183_13 hP (c158r (a := 0) (b := 8) (by decide) (by decide) (fun q => absurd rfl (q n (Nat.zero_le _) hn)) (fun s' _ _ _ => Bk.i (b183_20 hP (fun _ => ?_) (fun z => absurd z (by decide)))))))))
  have ep : x = p := nI_inj ep (by omega) (by omega)
  have v4 : vp_in (nI x) 4 := vpn (by omega) (by decide)
  have hx' : x < dR D := by omega
  refine b183_25 hP v4 v4 ?_
  rw [nIc (by omega), xu2_ne (c := 109) (a := 108) (by decide), hM.2.2.1 x hx']
  exact k1 hx'
theorem m184D {x : Nat} {y : Int32} (hM : MwD m D) (hN8 : dN D ≤ 8) (hx : x < 100) (hy : y = nI 0 ∨ y = nI 1) (k0 : ¬ x < dN D → Q (some (.int (nI 0))) (LAY, RFu r, xu2 m 108 20 (nI 0))) (k1 : x < dN D → Q (some (.int (nI 1))) (LAY, RFu r, xu2 (xu2 m 108 20 (nI 0)) 111 x y)) : xCall (d + 3) 184 [.ref 108, .int (nI x), .int y] (LAY, RFu r, m) Q := by
  have hN : xu2 m 108 20 (nI 0) 108 2 = nI (dN D) := by rw [e20 (by decide)]; exact hM.2.1
  refine c_in rfl rfl rfl fun P hP => b184_0 hP (c162 hN (by omega) (fun hp => Bk.i (b184_10 hP (fun z => absurd rfl z) (fun _ => b184_13 hP (Or.inl rfl) (k0 (fun q => hp x q rfl))))) (fun p hp ep => Bk.i (b184_10 hP (fun _ => ?_) (fun z => absurd z (by decide)))))
  have ep : x = p := nI_inj ep (by omega) (by omega)
  have ey : xNar 15 y = y := by rcases hy with q | q <;> rw [q] <;> decide
  refine b184_15 hP (vpn (by omega) (by decide)) (Or.inr rfl) ?_
  rw [nIc (by omega), ey]
  exact k1 (by omega)
theorem m207D {a b n : Nat} {cc : Nat → Int32} (hM : MwD m D) (hV : MV m (dN D) cc) (hN8 : dN D ≤ 8) (ha : a < 100) (hb : b < 100) (hn : n < 1000) (k0 : ¬ (a < dN D ∧ b < dN D ∧ a ≠ b ∧ 1 ≤ n) → Q (some (.int (nI 0))) (LAY, RFu r, xu2 m 108 20 (nI 0))) (k1 : a < dN D ∧ b < dN D ∧ a ≠ b ∧ 1 ≤ n → ∀ m', AgM [120] [20, 37] m m' → MV m' (dN D) (dyC cc a b n) → m' 108 37 = nI 0 → Q (some (.int (nI 1))) (LAY, RFu r, m')) : xCall (d + 5) 207 [.ref 108, .int (nI a), .int (nI b), .int (nI n)] (LAY, RFu r, m) Q := by
  have hN : xu2 m 108 20 (nI 0) 108 2 = nI (dN D) := by rw [e20 (by decide)]; exact hM.2.1
  refine c_in rfl rfl rfl fun P hP => ?_
  have f : ¬ (a < dN D ∧ b < dN D ∧ a ≠ b ∧ 1 ≤ n) → ∀ v0 v1 v2 v3, P 25 [v0, v1, v2, v3] [] (0, 0) (LAY, RFu r, xu2 m 108 20 (nI 0)) := fun h v0 v1 v2 v3 => b207_25 hP (Or.inl rfl) (k0 h)
  refine b207_0 hP (c163 hN (by omega) (fun hab => Bk.i (b207_11 hP (fun _ => f (fun w => hab a b ⟨w.1, w.2.1, w.2.2.1, rfl, rfl⟩) _ _ _ _) (fun z => absurd rfl z))) (fun a' b' hab => Bk.i (b207_11 hP (fun z => absurd z (by decide)) (fun _ => b207_14 hP (c158r (a := 1) (b := 999) (by decide) (by decide) (fun hs => Bk.i (b207_22 hP (fun z => absurd rfl z) (fun _ => f (fun w => hs n w.2.2.2 (by omega) rfl) _ _ _ _))) (fun n' hn1 hn2 en => Bk.i (b207_22 hP (fun _ => ?_) (fun z => absurd z (by decide)))))))))
  obtain ⟨w1, w2, w3, w4, w5⟩ := hab
  have w4 := nI_inj w4 (by omega) (by omega)
  have w5 := nI_inj w5 (by omega) (by omega)
  have en := nI_inj en (by omega) (by omega)
  rw [← w4] at w1 w3
  rw [← w5] at w2 w3
  have va : vp_in (nI a) 8 := vpn (by omega) (by decide)
  have vb : vp_in (nI b) 8 := vpn (by omega) (by decide)
  refine b207_27 hP va va vb vb (Or.inr rfl) ?_
  rw [nIc (by omega), nIc (by omega)]
  have e120 : ∀ p, p < dN D → xu2 m 108 20 (nI 0) 120 p = cc (48 + p) := fun p hp => by rw [xu2_ne (by decide)]; exact (hV.1 p hp).2.2.2.2.2.2
  generalize hm2 : xu2 (xu2 (xu2 (xu2 m 108 20 (nI 0)) 120 a _) 120 b _) 108 37 (nI 0) = m2
  have g2 : AgM [120] [20, 37] m m2 := by rw [← hm2]; exact (((AgM.rfl'.us (by simp)).u2 (by simp) (by decide)).u2 (by simp) (by decide)).us (by simp)
  refine k1 ⟨w1, w2, w3, by omega⟩ m2 g2 ?_ (by rw [← hm2, xu2_eq, upd_at])
  refine MV_cred hV hN8 (fun i hi => dyC_o (by omega) (by omega) hi) ⟨g2.1 _ (by simp) (by decide), g2.1 _ (by simp) (by decide), g2.1 _ (by simp) (by decide), g2.1 _ (by simp) (by decide), g2.1 _ (by simp) (by decide), g2.1 _ (by simp) (by decide), g2.1 _ (by simp) (by decide), g2.2 15 (by decide)⟩ (fun p hp => ?_)
  rw [dyC_p w3, ← hm2, xu2_ne (by decide), xu2_eq, xu2_eq]
  by_cases q : p = a
  · subst q
    rw [if_pos rfl, upd_ne w3, upd_at, e120 p hp]
  · rw [if_neg q]
    by_cases q2 : p = b
    · subst q2
      rw [if_pos rfl, upd_at, upd_ne q, e120 p hp]
    · rw [if_neg q2, upd_ne q2, upd_ne q, e120 p hp]
theorem m200L {P : xPr} (hP : Cl (d + 90) none 200 P Q) : ∀ (t : List xAcT) (s : dyS) (p q k B tot r : Nat) (m : Nat → Nat → Int32) (s' : dyS) (p' q' k' : Nat) (f : Bool), tot = k + t.length → tot ≤ 60 → (∀ (j : Nat) (c : xAcT), t[j]? = some c → AcM m (k + j) c) → LsOk t → dyI N R B s → B + 400 * t.length < 500000000 → dyMS m s → dyL t s p q k = (s', p', q', k', f) →
    (∀ r2 m' v1 v2 v7 v8, AgM dyMW qrV m m' → dyMS m' s' → P 327 [.ref 108, v1, v2, .int (nI p'), .int (nI q'), .int (nI k'), .int (if f = true then nI 1 else nI 0), v7, v8] [] (0, 0) (LAY, RFu r2, m')) → ∀ v2 v7 v8, P 114 [.ref 108, .int (nI tot), v2, .int (nI p), .int (nI q), .int (nI k), .int (nI 0), v7, v8] [] (0, 0) (LAY, RFu r, m)
  | [], s, p, q, k, B, tot, r, m, s', p', q', k', f, ht, h60, hA, hL, hI, hB, hM, hX, kk, v2, v7, v8 => by
    have hX : (s, p, q, k, false) = (s', p', q', k', f) := hX
    simp only [Prod.mk.injEq] at hX
    obtain ⟨rfl, rfl, rfl, rfl, rfl⟩ := hX
    have ht : tot = k := ht
    refine b200_114 hP (fun _ => kk r m _ _ _ _ AgM.rfl' hM) (fun z => absurd ?_ z)
    rw [ht]; exact Int32.le_refl _
  | c :: t, s, p, q, k, B, tot, r, m, s', p', q', k', f, ht, h60, hA, hL, hI, hB, hM, hX, kk, v2, v7, v8 => by
    have el : (c :: t).length = t.length + 1 := rfl
    rw [el] at ht hB
    have hc : AcOk c := hL 0 c rfl
    have ac : AcM m k c := hA 0 c rfl
    have i4 : nI 4 * nI k = nI (4 * k) := nI_mul _ _
    have j1 : nI (4 * k) + nI 1 = nI (4 * k + 1) := nI_add _ _
    have j2 : nI (4 * k) + nI 2 = nI (4 * k + 2) := nI_add _ _
    have j3 : nI (4 * k) + nI 3 = nI (4 * k + 3) := nI_add _ _
    have w0 : vp_in (nI (4 * k)) 320 := vpn (by omega) (by decide)
    have w1 : vp_in (nI (4 * k + 1)) 320 := vpn (by omega) (by decide)
    have w2 : vp_in (nI (4 * k + 2)) 320 := vpn (by omega) (by decide)
    have w3 : vp_in (nI (4 * k + 3)) 320 := vpn (by omega) (by decide)
    have y0 : (nI (4 * k)).toNatClampNeg = 4 * k := nIc (by omega)
    have y1 : (nI (4 * k + 1)).toNatClampNeg = 4 * k + 1 := nIc (by omega)
    have y2 : (nI (4 * k + 2)).toNatClampNeg = 4 * k + 2 := nIc (by omega)
    have y3 : (nI (4 * k + 3)).toNatClampNeg = 4 * k + 3 := nIc (by omega)
    unfold dyL at hX
    obtain ⟨a1, a2, a3, a4, a5⟩ := id ac
    obtain ⟨kk10, kx, ky, kn, k8⟩ := id hc
    obtain ⟨g1, g2, g3, g4, g5, g6, g7⟩ := id hI
    obtain ⟨hW, hV, hU⟩ := id hM
    have hR4 : dR s.1 ≤ 4 := g3.1
    have hN8 : dN s.1 ≤ 8 := g3.2.1
    -- one was done
    have go : ∀ r2 m2, AgM dyMW qrV m m2 → dyMS m2 (dyX s c) → dyOk s c = true → ∀ v2 v7 v8, P 309 [.ref 108, .int (nI tot), v2, .int (nI (p + dyP c)), .int (nI (q + dyA s c)), .int (nI k), .int (nI 0), v7, v8] [] (0, 0) (LAY, RFu r2, m2) := fun r2 m2 b2 s2 hok v2 v7 v8 => by
      rw [if_pos hok] at hX
      have h400 : B + 400 ≤ B + 400 * (t.length + 1) := Nat.add_le_add_left (Nat.le_mul_of_pos_right _ (Nat.succ_pos _)) _
      have hI2 : dyI N R (B + 400) (dyX s c) := dyI_X hI hc hok (Nat.lt_of_le_of_lt h400 hB)
      have hB2 : B + 400 + 400 * t.length < 500000000 := by
        have := hB
        rw [Nat.mul_add, Nat.mul_one, ← Nat.add_assoc, Nat.add_right_comm] at this
        exact this
      have ht2 : tot = k + 1 + t.length := by rw [ht]; exact Nat.add_right_comm k t.length 1
      have hL2 : LsOk t := fun j c' hj => hL (j + 1) c' hj
      refine b200_309 hP (fun _ => b200_320 hP (b200_321 hP ?_)) (fun z => absurd rfl z)
      rw [nIs]
      refine m200L hP t (dyX s c) _ _ (k + 1) (B + 400) tot r2 m2 s' p' q' k' f ht2 h60 (fun j c' hj => ?_) hL2 hI2 hB2 s2 hX (fun r3 m' v1 v2 v7 v8 b3 s3 => kk r3 m' v1 v2 v7 v8 (b2.trans b3) s3) v2 v7 v8
      have := hA (j + 1) c' hj
      rw [show k + (j + 1) = k + 1 + j by omega] at this
      exact this.sm (fun i _ _ => by rw [b2.1 134 (by decide) (by decide)])
    -- or refused
    have no : ∀ m2, AgM dyMW qrV m m2 → dyMS m2 s → dyOk s c = false → ∀ v2 v7 v8, P 309 [.ref 108, .int (nI tot), v2, .int (nI p), .int (nI q), .int (nI k), .int (nI 1), v7, v8] [] (0, 0) (LAY, RFu r, m2) := fun m2 b2 s2 hno v2 v7 v8 => by
      rw [if_neg (by rw [hno]; decide)] at hX
      simp only [Prod.mk.injEq] at hX
      obtain ⟨rfl, rfl, rfl, rfl, rfl⟩ := hX
      refine b200_309 hP (fun z => absurd z (by decide)) (fun _ => b200_316 hP (b200_321 hP ?_))
      rw [nI_add, Nat.add_zero]
      exact b200_114 hP (fun _ => kk r m2 _ _ _ _ b2 s2) (fun _ => b200_120 hP (fun _ => kk r m2 _ _ _ _ b2 s2) (fun z => absurd z (by decide)))
    have t20 : AgM dyMW qrV m (xu2 m 108 20 (nI 0)) := (th20 (x := nI 0)).mono (by simp) (by decide)
    have pq : c.1 ≠ 113 → p + dyP c = p ∧ q + dyA s c = q := fun h => by
      unfold dyP dyA
      rw [if_neg h, if_neg h]
      exact ⟨rfl, rfl⟩
    refine b200_114 hP (fun z => absurd z ?_) (fun _ => b200_120 hP (fun z => absurd rfl z) (fun _ => ?_))
    · rw [ht]; exact nI_ge (by omega) (by omega)
    refine b200_125 hP (by rw [i4]; exact w0) (fun z => ?_) (fun z => ?_)
    · rw [i4, y0, a1] at z ⊢
      have h113 : c.1 ≠ 113 := fun w => z (by rw [w])
      obtain ⟨pq1, pq2⟩ := pq h113
      have go := fun m2 b2 s2 hok v2 v7 v8 => go r m2 b2 s2 hok v2 v7 v8
      rw [pq1, pq2] at go
      refine b200_180 hP (fun z2 => b200_223 hP (fun z3 => ?_) (fun z3 => ?_)) (fun z2 => ?_)
      · -- s, w
        have h99 : c.1 ≠ 99 := fun w => z2 (by rw [w])
        have h108 : c.1 ≠ 108 := fun w => z3 (by rw [w])
        have hsw : c.1 = 115 ∨ c.1 = 119 := by omega
        have fin : ∀ y, y = (if c.1 = 115 then nI 1 else nI 0) → P 296 [.ref 108, .int (nI tot), v2, .int (nI p), .int (nI q), .int (nI k), .int (nI 0), .int (nI (4 * k)), .int (nI c.1)] [.int y, .int (nI c.2.1), .ref 108] (0, 0) (LAY, RFu r, m) := fun y hy => by
          refine b200_296 hP (m184D hW hN8 (by omega) (by rw [hy]; split <;> simp) (fun hx => Bk.i (b200_299 hP (fun z => absurd rfl z) (fun _ => b200_302 hP (b200_307 hP (no _ t20 hM.t20 (decide_eq_false ?_) _ _ _))))) (fun hx => Bk.i (b200_299 hP (fun _ => b200_306 hP (b200_307 hP (go _ (t20.u2 (by decide) (by decide)) ?_ (decide_eq_true (Or.inr (Or.inr (Or.inr ⟨hsw, hx⟩)))) _ _ _))) (fun z => absurd z (by decide)))))
          · rintro (w | w | w | w)
            · exact h113 w
            · exact h99 w.1
            · exact h108 w.1
            · exact hx w.2
          · obtain ⟨u1, u2, u3⟩ := hM.t20
            unfold dyX
            rw [if_neg h113, if_neg h99, if_neg h108, ← hy]
            refine ⟨MwD_K (f := fun x => if x = c.2.1 then y else dK s.1 x) u1 (AgM.rfl'.u2 (by simp) (by decide)) (fun x hx => ?_), u2.ag (AgM.rfl'.u2 (W := [111]) (V := []) (by simp) (by decide)) (by decide) (by simp), u3.mv (by rw [xu2_ne (by decide)]) (by rw [xu2_ne (by decide)])⟩
            rw [xu2_eq]
            by_cases e : x = c.2.1
            · rw [if_pos e, e, upd_at]
            · rw [if_neg e, upd_ne e]
              exact (u1.2.2.2.1 x hx).2
        refine b200_274 hP (by rw [j1]; exact w1) (fun z4 => ?_) (fun z4 => ?_)
        · rw [j1, y1, a4 hsw]
          have h115 : c.1 ≠ 115 := fun w => z4 (by rw [w])
          exact b200_295 hP (fin (nI 0) (by rw [if_neg h115]))
        · rw [j1, y1, a4 hsw]
          have h115 : c.1 = 115 := nI_inj z4 (by omega) (by decide)
          exact b200_291 hP (fin (nI 1) (by rw [if_pos h115]))
      · -- l
        have h108 : c.1 = 108 := nI_inj z3 (by omega) (by decide)
        obtain ⟨e1, e2, e3⟩ := a5 h108
        refine b200_230 hP (by rw [j1]; exact w1) (by rw [j2]; exact w2) (by rw [j3]; exact w3) ?_
        rw [j1, j2, j3, y1, y2, y3, e1, e2, e3]
        refine m207D (d := d + 85) hW hV hN8 (by omega) (by omega) (by omega) (fun hx => Bk.i (b200_261 hP (fun z => absurd rfl z) (fun _ => b200_264 hP (b200_269 hP (no _ t20 hM.t20 (decide_eq_false ?_) _ _ _))))) (fun hx m2 b2 v2' e37 => Bk.i (b200_261 hP (fun _ => b200_268 hP (b200_269 hP (go m2 (b2.mono (by decide) (by decide)) ?_ (decide_eq_true (Or.inr (Or.inr (Or.inl ⟨h108, hx⟩)))) _ _ _))) (fun z => absurd z (by decide))))
        · rintro (w | w | w | w)
          · exact h113 w
          · omega
          · exact hx w.2
          · omega
        · unfold dyX
          rw [if_neg h113, if_neg (by omega), if_pos h108]
          exact ⟨MwD_ag hW b2 (by decide) (by decide), v2', e37, fun k hk => absurd hk (Nat.not_lt_zero k)⟩
      · -- c
        have h99 : c.1 = 99 := nI_inj z2 (by omega) (by decide)
        obtain ⟨e1, e2⟩ := a3 h99
        refine b200_187 hP (by rw [j1]; exact w1) (by rw [j2]; exact w2) ?_
        rw [j1, j2, y1, y2, e1, e2]
        refine m183D (d := d + 87) hW hR4 (by omega) (k8 h99) (fun hx => Bk.i (b200_209 hP (fun z => absurd rfl z) (fun _ => b200_213 hP (b200_218 hP (no _ t20 hM.t20 (decide_eq_false ?_) _ _ _))))) (fun hx => Bk.i (b200_209 hP (fun _ => b200_217 hP (b200_218 hP (go _ (t20.u2 (by decide) (by decide)) ?_ (decide_eq_true (Or.inr (Or.inl ⟨h99, hx⟩))) _ _ _))) (fun z => absurd z (nI_nm (by have := g4 c.2.1 (by omega); omega)))))
        · rintro (w | w | w | w)
          · exact h113 w
          · exact hx w.2
          · omega
          · omega
        · obtain ⟨u1, u2, u3⟩ := hM.t20
          unfold dyX
          rw [if_neg h113, if_pos h99]
          refine ⟨MwD_H (f := fun x => if x = c.2.1 then c.2.2.2 else dH s.1 x) u1 (AgM.rfl'.u2 (by simp) (by decide)) (fun x hx => ?_), u2.ag (AgM.rfl'.u2 (W := [109]) (V := []) (by simp) (by decide)) (by decide) (by simp), u3.mv (by rw [xu2_ne (by decide)]) (by rw [xu2_ne (by decide)])⟩
          rw [xu2_eq]
          by_cases e : x = c.2.1
          · rw [if_pos e, e, upd_at]
          · rw [if_neg e, upd_ne e]
            exact u1.2.2.1 x hx
    · rw [i4, y0, a1] at z ⊢
      have h113 : c.1 = 113 := nI_inj z (by omega) (by decide)
      have hok : dyOk s c = true := decide_eq_true (Or.inl h113)
      have e2 := a2 h113
      obtain ⟨now, n1', n2'⟩ := g5.now
      have hMB : MB m (cfD s.1) s.2.1 := ⟨MwD_Cf hW g3, by show PV (dN s.1) s.2.1; rw [g1]; exact g5.1, hV, now, by omega, n2'⟩
      refine b200_147 hP (by rw [j1]; exact w1) ?_
      rw [j1, y1, e2]
      refine m195 (d := d + 10) hMB (by omega) hU g6 fun r' m2 b2 v2' u2 _ _ => Bk.i (b200_162 hP (by rw [j1]; exact w1) ?_)
      rw [j1, y1, b2.1 134 (by decide) (by decide), e2, nI_add, nI_add]
      have := go r' m2 (b2.mono (by decide) (fun _ h => h)) ?_ hok
      · unfold dyP dyA at this
        rw [if_pos h113, if_pos h113] at this
        exact this _ _ _
      · unfold dyX
        rw [if_pos h113]
        exact ⟨MwD_ag hW b2 (by decide) (by decide), v2', u2⟩
end K
theorem tk_day : Tk 116 200 [] := by
  intro N R B r mem Q h hB K
  obtain ⟨p0, pch, ppe, ppl, psh, pr0, pr1⟩ := RTo_parts h.2.2.1
  obtain ⟨hR, hR4, hN, hN8, hR2, hN2⟩ := id p0
  obtain ⟨len, tx, hT, hT2⟩ := id h.1
  obtain ⟨hM, hS⟩ := id h.2.2.2.1
  obtain ⟨e1, e2, dD, tD, mD⟩ := RTo_D h.2.2.1
  obtain ⟨u, U, uc, um, us⟩ := RUn_U.mp h.2.2.2.2.1
  obtain ⟨ok, ee, l', hX⟩ : ∃ ok ee l', dyF (gT tx len 60) len = (ok, ee, l') := ⟨_, _, _, rfl⟩
  have txt : ∀ m2 : Nat → Nat → Int32, m2 1 1 = nI 0 → m2 108 17 = nI 0 → RTx m2 := fun m2 e1 e2 => ⟨0, tx, ⟨e1, by omega, fun i hi => absurd hi (Nat.not_lt_zero i)⟩, ⟨e2, by omega, fun i hi => absurd hi (Nat.not_lt_zero i)⟩⟩
  have mod : ∀ m1 : Nat → Nat → Int32, (∀ c, 108 ≤ c → m1 c = mem c) → TxM m1 len tx := fun m1 e => by
    unfold TxM at hT2 ⊢
    rw [e 108 (by decide), e 122 (by decide)]
    exact hT2
  refine c_in rfl rfl rfl fun P hP => b116_0 hP (c18 (d := 293) hT hX (fun hno m1 a1 e12 => Bk.i (b116_7 hP (fun z => absurd rfl z) (fun _ => b116_10 hP (c73 (Bk.v (b116_17 hP (c80 (Bk.i (b116_24 hP ?_))))))))) (fun hk he m1 a1 h4 hc => Bk.i (b116_7 hP (fun _ => b116_25 hP (c73 (Bk.v (b116_32 hP ?_)))) (fun z => absurd z (by decide)))))
  · have f12 : xu2 m1 1 1 (nI 0) 1 2 = nI ee := by rw [xu2_eq, upd_ne (by decide), e12]
    rw [f12]
    refine K _ _ ?_
    intro Q2 k2
    have b1 : Ag dyR mem (xu2 m1 1 1 (nI 0)) := a1.u2 (by decide)
    refine c_in rfl rfl rfl fun P hP => m200r (d := 292) hP (mod _ (fun c hc => b1 c (by simp [dyR]; omega))) hX (fun _ m2 g2 h17 => k2 _ _ (kEnd (N := N) (R := R) ?_ hB)) (fun hk he => absurd ⟨hk, he⟩ hno)
    exact ⟨txt m2 (by rw [g2.1 1 (by decide) (by decide), xu2_eq, upd_at]) h17, kRw h b1 g2 (by decide), kTo h b1 g2 (by decide), kSt h b1 g2 (by decide), kUn h b1 g2 (by decide), kOl h b1 g2 (by decide), kKe h b1 g2 (by decide), kZe h b1 g2 (by decide)⟩
  · have hl27 : l'.length ≤ 27 ∧ LsOk l' := by
      unfold dyF at hX
      by_cases q : len = 0
      · rw [if_pos q] at hX
        simp only [Prod.mk.injEq] at hX
        obtain ⟨-, -, rfl⟩ := hX
        exact ⟨by decide, fun j c hj => by cases hj⟩
      · rw [if_neg q] at hX
        obtain ⟨x1, x2⟩ := rdD_ok (fun j c hj => by cases hj) (Nat.le_refl _) hX
        have := x2 hk
        have := hT.2.1
        exact ⟨by omega, x1⟩
    obtain ⟨hl27, hLs⟩ := hl27
    have b1 : Ag dyR mem (xu2 m1 1 1 (nI 0)) := a1.u2 (by decide)
    have g99 : ∀ c, c ≠ 1 → xu2 m1 1 1 (nI 0) c = m1 c := fun c hc => xu2_ne hc
    generalize hm1 : xu2 m1 1 1 (nI 0) = m1' at b1 g99
    have f11 : m1' 1 1 = nI 0 := by rw [← hm1, xu2_eq, upd_at]
    clear hm1
    obtain ⟨s', p', q', k', f, hL⟩ : ∃ s' p' q' k' f, dyL l' (D0 mem, mem 48, u, U) 0 0 0 = (s', p', q', k', f) := ⟨_, _, _, _, _, rfl⟩
    have hI : dyI N R B (D0 mem, mem 48, u, U) := by
      obtain ⟨fr, -, hu10, -⟩ := id uc
      refine ⟨e2, e1, dD, fun x hx => ?_, hS, hu10, us⟩
      obtain ⟨y, y1, y2, -⟩ := pch x hx
      have y3 : mem 6 x = nI (dH (D0 mem) x) := tD.2.2.1 x hx
      rw [y2] at y3
      have := nI_inj y3 (by omega) (by have := dD.2.2.1 x hx; omega)
      show dH (D0 mem) x ≤ 8
      omega
    have hC : dyCS m1' (D0 mem, mem 48, u, U) := by
      refine ⟨TwD_mv dD.2.1 tD (fun k hk => ?_), b1 48 (by decide), uc.mv fun c hc => ?_, h.2.2.2.2.2.2.2.mv fun c hc => Or.inl ?_⟩
      · have : ∀ k ∈ tCells, 5 + k ∉ dyR := by decide
        exact b1 _ (this k hk)
      · have : ∀ c ∈ unC, c ∉ dyR := by decide
        exact b1 _ (this c hc)
      · have : ∀ c ∈ zC, c ∉ dyR := by decide
        exact b1 _ (this c hc)
    have hBl : B + 400 * l'.length < 500000000 := by omega
    have hc' : ∀ (j : Nat) (c : xAcT), l'[j]? = some c → AcC m1' (0 + j) c := fun j c hj => by
      rw [Nat.zero_add]
      exact (hc j c hj).sm (by rw [g99 100 (by decide), g99 101 (by decide), g99 102 (by decide), g99 103 (by decide)]; exact ⟨rfl, rfl, rfl, rfl⟩)
    refine c116L (d := 290) hP l' _ 0 0 0 B m1' s' p' q' k' f (by rw [g99 99 (by decide), h4, Nat.zero_add]) (by omega) hc' hLs hI hBl hC hL fun m2 v4 b2 s2 i2 => b116_160 hP (c31 fun m3 a3 w3 => Bk.v (b116_167 hP (c32 w3 (by simp) fun m4 a4 w4 => Bk.v (b116_175 hP (c32 w4 (by simp) fun m5 a5 w5 => Bk.v ?_)))))
    obtain ⟨hk1, hk2⟩ := dyL_k hL
    rw [Nat.zero_add] at hk1 hk2
    have e99 : m5 99 4 = nI l'.length := by rw [a5 99 (by decide), a4 99 (by decide), a3 99 (by decide), b2 99 (by decide), g99 99 (by decide), h4]
    have fin : ∀ y, y = (if f = true then nI 1 else nI 0) → P 203 [.ref 0, .int (nI p'), .int (nI q'), .int (nI k'), v4] [.int y, .ref 3] (0, 0) (LAY, RFu r, m5) := fun y hy => by
      refine b116_203 hP (c32 w5 (by simp) fun m6 a6 w6 => Bk.v (b116_206 hP (K _ _ ?_)))
      intro Q2 k2
      have a36 : Ag [3, 4] m2 m6 := (((a3.mono (by simp)).trans a4).trans a5).trans a6
      have b6 : Ag (dyR ++ ([3, 4] ++ dyW)) mem m6 := (b1.mono (fun _ h => List.mem_append_left _ h)).trans ((b2.mono (fun _ h => List.mem_append_right _ (List.mem_append_right _ h))).trans (a36.mono (fun _ h => List.mem_append_right _ (List.mem_append_left _ h))))
      have hi6 : ∀ c, 108 ≤ c → m6 c = mem c := fun c hc => b6 c (by simp [dyR, dyW, unC, paW]; omega)
      refine c_in rfl rfl rfl fun P hP => m200r (d := 292) hP (mod m6 hi6) hX (fun hno => absurd ⟨hk, he⟩ hno) (fun _ _ m7 v2 v3 v4 v5 v6 v7 v8 g7 h17 hc7 => b200_103 hP ?_)
      have hM7 : dyMS m7 (D0 mem, mem 48, u, U) := by
        have aa : AgM (dyR ++ ([3, 4] ++ dyW)) [] mem m6 := ⟨fun c hc _ => b6 c hc, fun j _ => by rw [hi6 108 (by decide)]⟩
        refine ⟨MwD_ag (MwD_ag mD aa (by decide) (by decide)) g7 (by decide) (by decide), ?_, ?_⟩
        · show MV m7 (dN (D0 mem)) (mem 48)
          rw [e2]
          exact (hM.ag aa (by decide) (by simp)).ag g7 (by decide) (by decide)
        · show UM m7 (dN (D0 mem)) u U
          rw [e2]
          exact um.mv (by rw [g7.1 132 (by decide) (by decide), hi6 132 (by decide)]) (by rw [g7.2 37 (by decide), hi6 108 (by decide)])
      refine m200L (d := 209) hP l' _ 0 0 0 B l'.length 123 m7 s' p' q' k' f (Nat.zero_add _).symm (by omega) (fun j c hj => by rw [Nat.zero_add]; exact hc7 j c hj) hLs hI hBl hM7 hL (fun r2 m8 v1 v2 v7 v8 g8 s8 => b200_327 hP (c161 (xs := []) (RwM_nil (by rw [xu2_eq, upd_at])) (by decide) fun m9 g9 w9 => Bk.v (b200_337 hP (c161 w9 (by simp) fun m10 g10 w10 => Bk.v ?_)))) v2 v7 v8
      have a19 : AgM [] [19] m8 (xu2 m8 108 19 (nI 0)) := AgM.rfl'.us (by simp)
      have fin2 : ∀ v0 v1 v2 v3 v4 v6 v7 v8 y2, y2 = y → P 354 [v0, v1, v2, v3, v4, .int (nI k'), v6, v7, v8] [.int y2, .ref 108] (0, 0) (LAY, RFu r2, m10) := fun v0 v1 v2 v3 v4 v6 v7 v8 y2 hy2 => by
        subst hy2
        refine b200_354 hP (c161 w10 (by simp) fun m11 g11 w11 => Bk.v (b200_357 hP (k2 _ _ (kEnd2 (N := N) (R := R) (B' := B + 400 * l'.length) ?_ (by omega) hB))))
        have g8' : AgM [123] [19] m8 m11 := (((a19.mono (by simp) (by simp)).trans g9).trans g10).trans g11
        have gg : AgM ([134, 123] ++ dyMW) ([17, 19] ++ qrV) m6 m11 := ((g7.mono (by decide) (by decide)).trans (g8.mono (by decide) (by decide))).trans (g8'.mono (by decide) (by decide))
        obtain ⟨x1, x2, x3⟩ := s8
        obtain ⟨i1, i2', i3, i4, i5, i6, i7⟩ := i2
        obtain ⟨z1, z2, z3, z4⟩ := s2
        have nc : ∀ c, c < 108 → c ∉ [3, 4] → m11 c = m2 c := fun c hc hc2 => by
          have q : c ∉ [134, 123] ++ dyMW := by simp [dyMW, qrW]; omega
          rw [gg.1 c q (by omega), a36 c hc2]
        have T11 : TwD m11 5 s'.1 := TwD_mv i3.2.1 z1 (fun k hk => by
          have : ∀ k ∈ tCells, 5 + k < 108 ∧ 5 + k ∉ [3, 4] := by decide
          exact nc _ (this k hk).1 (this k hk).2)
        have M11 : MwD m11 s'.1 := MwD_ag x1 g8' (by decide) (by decide)
        have V11 : MV m11 N s'.2.1 := by
          have := x2.ag g8' (by decide) (by decide)
          rw [i1] at this
          exact this
        have U11 : UM m11 N s'.2.2.1 s'.2.2.2 := by
          have := x3.mv (m' := m11) (by rw [g8'.1 132 (by decide) (by decide)]) (by rw [g8'.2 37 (by decide)])
          rw [i1] at this
          exact this
        have e48 : m11 48 = s'.2.1 := by rw [nc 48 (by decide) (by decide), z2]
        refine ⟨txt m11 ?_ ?_, ⟨_, w6.mv (gg.eqs (by decide) (by decide)), w11⟩, RTo_of (p0.mv (dj_eqs b6 gg (by decide))) (fun x hx => ⟨dH s'.1 x, i4 x hx, T11.2.2.1 x hx, fun hxR => M11.2.2.1 x (by rw [i2']; exact hxR)⟩) (fun x hx => ?_) (ppl.mv (dj_eqs b6 gg (by decide))) (psh.mv (dj_eqs b6 gg (by decide))) (pr0.mv (by decide) (dj_eqs b6 gg (by decide))) (pr1.mv (by decide) (dj_eqs b6 gg (by decide))), ⟨by rw [e48]; exact V11, by rw [e48]; exact i5⟩, RUn_U.mpr ⟨_, _, z3.mv (fun c hc => ?_), U11, i7⟩, kOl h b6 gg (by decide), (kKe h b6 gg (by decide)).mono (by omega), z4.mv fun c hc => Or.inl ?_⟩
        · rw [nc 1 (by decide) (by decide), b2 1 (by decide), f11]
        · rw [g8'.2 17 (by decide), g8.2 17 (by decide), h17]
        · have hx' : x < dN s'.1 := by rw [i1]; exact hx
          obtain ⟨t1, t2⟩ := T11.2.2.2.1 x hx'
          obtain ⟨t3, t4⟩ := M11.2.2.2.1 x hx'
          have t1 : m11 7 x = dg s'.1 x := t1
          have t2 : m11 8 x = dK s'.1 x := t2
          rw [t1, t2, t3, t4]
          exact ⟨rfl, rfl, i3.2.2.2.1 x hx'⟩
        · have : ∀ c ∈ unC, c < 108 ∧ c ∉ [3, 4] := by decide
          exact nc _ (this c hc).1 (this c hc).2
        · have : ∀ c ∈ zC, c < 108 ∧ c ∉ [3, 4] := by decide
          exact nc _ (this c hc).1 (this c hc).2
      refine b200_343 hP (fun z => b200_353 hP (fin2 _ _ _ _ _ _ _ _ _ ?_)) (fun z => b200_349 hP (fin2 _ _ _ _ _ _ _ _ _ ?_))
      · rw [hy]
        cases f
        · rfl
        · exact absurd z (by decide)
      · rw [hy]
        cases f
        · exact absurd rfl z
        · rfl
    refine b116_183 hP (fun z => b116_202 hP (fin _ ?_)) (fun z => b116_198 hP (fin _ ?_)) <;> rw [e99, nI_leI (by omega) (by omega)] at z
    · rw [if_neg (fun w => by have := hk2.mp w; omega)]
    · rw [if_pos (hk2.mpr (by omega))]
