/-! a town as data: rooms, people, chairs, ages, who is sick, how long each plan is, how far on, the plans, the rules' steps -/
abbrev xD : Type := Nat × Nat × (Nat → Nat) × (Nat → Int32) × (Nat → Int32) × (Nat → Nat) × (Nat → Nat) × (Nat → Nat → Int32) × List Int32 × List Int32
def dR (D : xD) : Nat := D.1
def dN (D : xD) : Nat := D.2.1
def dH (D : xD) : Nat → Nat := D.2.2.1
def dg (D : xD) : Nat → Int32 := D.2.2.2.1
def dK (D : xD) : Nat → Int32 := D.2.2.2.2.1
def dL (D : xD) : Nat → Nat := D.2.2.2.2.2.1
def dF (D : xD) : Nat → Nat := D.2.2.2.2.2.2.1
def dP (D : xD) : Nat → Nat → Int32 := D.2.2.2.2.2.2.2.1
def dA (D : xD) : List Int32 := D.2.2.2.2.2.2.2.2.1
def dG (D : xD) : List Int32 := D.2.2.2.2.2.2.2.2.2
def cfD (D : xD) : xCf := (dR D, dN D, dH D, dK D, fun now p => if dL D p = 0 then -1 else dP D p ((now.toNatClampNeg + dF D p) % dL D p), fun c p => rv (envF (dg D) (dK D) c p) (dA D), fun c p => rv (envF (dg D) (dK D) c p) (dG D))
/-- data as they can be -/
def DOk (D : xD) : Prop := dR D ≤ 4 ∧ dN D ≤ 8 ∧ (∀ r, r < 4 → dH D r ≤ 16) ∧ (∀ p, p < dN D → dK D p = 0 ∨ dK D p = 1) ∧ (∀ p, dL D p ≤ 24 ∧ dF D p < 24) ∧ (∀ p, p < dN D → ∀ k, k < dL D p → dP D p k = -1 ∨ ∃ rm, rm < dR D ∧ dP D p k = nI rm)
/-- the class's town at t holds the data D -/
def TwD (m : Nat → Nat → Int32) (t : Nat) (D : xD) : Prop :=
  m t 0 = nI (dR D) ∧ m t 1 = nI (dN D) ∧ (∀ r, r < 4 → m (t + 1) r = nI (dH D r)) ∧ (∀ p, p < dN D → m (t + 2) p = dg D p ∧ m (t + 3) p = dK D p) ∧ (∀ p, p < 8 → m (t + 13) p = nI (dL D p) ∧ m (t + 14) p = nI (dF D p)) ∧
  (∀ p, p < dN D → ∀ k, k < dL D p → m (t + 5 + p) k = dP D p k) ∧ RuL m (t + 15) (dA D) ∧ RuL m (t + 18) (dG D)
theorem RuL_ruX {m : Nat → Nat → Int32} {q : Nat} {xs : List Int32} (h : RuL m q xs) : ruX m q = xs := by
  obtain ⟨h1, h2, h3, -⟩ := h
  unfold ruX
  rw [h2, nIc (by omega)]
  apply List.ext_getElem?
  intro k
  by_cases hk : k < xs.length
  · rw [List.getElem?_map, List.getElem?_range hk, List.getElem?_eq_getElem hk]
    show some (m (q + 1) k) = _
    rw [h3 k hk, List.getD_eq_getElem?_getD, List.getElem?_eq_getElem hk]
    rfl
  · rw [List.getElem?_eq_none (by simp; omega), List.getElem?_eq_none (by omega)]
theorem TwD_TC {m : Nat → Nat → Int32} {t : Nat} {D : xD} (h : TwD m t D) (hD : DOk D) : TC m t ∧ CfE (cfC m t) (cfD D) := by
  obtain ⟨h1, h2, h3, h4, h5, h6, h7, h8⟩ := h
  obtain ⟨d1, d2, d3, d4, d5, d6⟩ := hD
  have eR : tR m t = dR D := by unfold tR; rw [h1, nIc (by omega)]
  have eN : tN m t = dN D := by unfold tN; rw [h2, nIc (by omega)]
  have eH : ∀ r, r < 4 → tH m t r = dH D r := fun r hr => by unfold tH; rw [h3 r hr, nIc (by have := d3 r hr; omega)]
  have eL : ∀ p, p < 8 → tL m t p = dL D p := fun p hp => by unfold tL; rw [(h5 p hp).1, nIc (by have := (d5 p).1; omega)]
  have eF : ∀ p, p < 8 → tF m t p = dF D p := fun p hp => by unfold tF; rw [(h5 p hp).2, nIc (by have := (d5 p).2; omega)]
  have e7 := RuL_ruX h7
  have e8 := RuL_ruX h8
  refine ⟨⟨by rw [eR]; exact h1, by omega, by rw [eN]; exact h2, by omega, fun r hr => by rw [eH r hr]; exact ⟨h3 r hr, d3 r hr⟩, fun p hp => by rw [eL p hp]; exact ⟨(h5 p hp).1, (d5 p).1⟩, fun p hp => by rw [eF p hp]; exact ⟨(h5 p hp).2, (d5 p).2⟩, by rw [e7]; exact h7, by rw [e8]; exact h8⟩, eR, eN, by show tN m t ≤ 8; omega, fun r hr => ?_, fun p hp => ?_, fun now p hp hn => ?_, fun c p hp => ?_⟩
  · have hr : r < tR m t := hr
    exact eH r (by omega)
  · have hp : p < tN m t := hp
    exact (h4 p (by omega)).2
  · have hp : p < tN m t := hp
    have hp8 : p < 8 := by omega
    show (if tL m t p = 0 ∨ 8 ≤ p then -1 else m (t + 5 + p) (((nI now).toNatClampNeg + tF m t p) % tL m t p)) = if dL D p = 0 then -1 else dP D p (((nI now).toNatClampNeg + dF D p) % dL D p)
    rw [eL p hp8, eF p hp8]
    by_cases z : dL D p = 0
    · rw [if_pos (Or.inl z), if_pos z]
    · rw [if_neg (fun q => q.elim z (by omega)), if_neg z]
      exact h6 p (by omega) _ (Nat.mod_lt _ (by omega))
  · have hp : p < tN m t := hp
    show rv (envF (m (t + 2)) (m (t + 3)) c p) (ruX m (t + 15)) = rv (envF (dg D) (dK D) c p) (dA D) ∧ rv (envF (m (t + 2)) (m (t + 3)) c p) (ruX m (t + 18)) = rv (envF (dg D) (dK D) c p) (dG D)
    rw [e7, e8, envF_eq (h4 p (by omega)).1 (h4 p (by omega)).2 (fun _ _ _ => rfl) (by omega)]
    exact ⟨rfl, rfl⟩
theorem fPok_D {D : xD} (hD : DOk D) : fPok (cfD D) (dR D) := fun now p hp hn => by
  have hp : p < dN D := hp
  show (if dL D p = 0 then -1 else dP D p (((nI now).toNatClampNeg + dF D p) % dL D p)) = -1 ∨ ∃ rm, rm < dR D ∧ (if dL D p = 0 then -1 else dP D p (((nI now).toNatClampNeg + dF D p) % dL D p)) = nI rm
  by_cases z : dL D p = 0
  · rw [if_pos z]; exact Or.inl rfl
  · rw [if_neg z]
    exact hD.2.2.2.2.2 p hp _ (Nat.mod_lt _ (by omega))
/-- the reference's town holds the data D -/
def MwD (m : Nat → Nat → Int32) (D : xD) : Prop :=
  m 108 0 = nI (dR D) ∧ m 108 2 = nI (dN D) ∧ (∀ r, r < dR D → m 109 r = nI (dH D r)) ∧ (∀ p, p < dN D → m 110 p = dg D p ∧ m 111 p = dK D p) ∧ m 108 32 = -1 ∧
  (∀ p, p < dN D → (∃ L, L ≤ 24 ∧ m 113 p = nI L) ∧ (∃ F, F < 24 ∧ m 129 p = nI F) ∧ ((m 128 p = nI 99 ∧ m 113 p = nI (dL D p) ∧ m 129 p = nI (dF D p) ∧ ∀ k, k < dL D p → m 112 (24 * p + k) = dP D p k) ∨ (m 128 p ≠ nI 99 ∧ dL D p = 1 ∧ dP D p 0 = m 128 p))) ∧
  RuE m 0 (dA D) ∧ RuE m 1 (dG D)
theorem MwD_go {m : Nat → Nat → Int32} {D : xD} (h : MwD m D) (hD : DOk D) {now p : Nat} (hp : p < dN D) (hn : now < 1073741824) : goE m now p = fP (cfD D) (nI now) p := by
  obtain ⟨h1, h2, h3, h4, h5, h6, h7, h8⟩ := h
  obtain ⟨-, -, q⟩ := h6 p hp
  show goE m now p = if dL D p = 0 then -1 else dP D p (((nI now).toNatClampNeg + dF D p) % dL D p)
  rw [nIc (by omega)]
  unfold goE
  have d5 := hD.2.2.2.2.1 p
  rcases q with ⟨q1, q2, q3, q4⟩ | ⟨q1, q2, q3⟩
  · rw [if_neg (fun z => z q1), q2, q3, nIc (by omega), nIc (by omega)]
    by_cases z : dL D p = 0
    · rw [if_pos (by rw [z]; rfl), if_pos z]
    · rw [if_neg (nI_ne0 (by omega) (by omega)), if_neg z]
      exact q4 _ (Nat.mod_lt _ (by omega))
  · rw [if_pos q1, q2, if_neg (by decide), Nat.mod_one, q3]
theorem MwD_Cf {m : Nat → Nat → Int32} {D : xD} (h : MwD m D) (hD : DOk D) : CfM m (cfD D) := by
  have hgo := fun now p hp hn => MwD_go h hD (now := now) (p := p) hp hn
  obtain ⟨h1, h2, h3, h4, h5, h6, h7, h8⟩ := h
  obtain ⟨d1, d2, d3, d4, d5, d6⟩ := hD
  refine ⟨h1, d1, h2, d2, fun r hr => ?_, Or.inl h5, fun p hp => ⟨(h4 p hp).2, d4 p hp⟩, fun p hp => ⟨(h6 p hp).1, (h6 p hp).2.1⟩, fun now p hp hn => ?_, dA D, dG D, h7, h8, fun c p hp => ?_⟩
  · have hr : r < dR D := hr
    refine ⟨?_, d3 r (by omega)⟩
    unfold chE
    rw [h5, if_neg (nI_nm' (by omega)), if_neg (fun q => q.1 rfl)]
    exact h3 r hr
  · unfold goE2
    rw [h5, if_neg (fun q => q.1 q.2)]
    exact hgo now p hp hn
  · have hp : p < dN D := hp
    show rv (envF (dg D) (dK D) c p) (dA D) = _ ∧ rv (envF (dg D) (dK D) c p) (dG D) = _
    rw [envF_eq (h4 p hp).1 (h4 p hp).2 (fun _ _ _ => rfl) (by omega)]
    exact ⟨rfl, rfl⟩
/-- the town as it is -/
def D0 (m : Nat → Nat → Int32) : xD := (tR m 5, tN m 5, fun r => tH m 5 r, m 7, m 8, fun p => if p < 8 then tL m 5 p else 0, fun _ => 0, fun p k => if p < 8 then m (10 + p) k else 0, ruX m 20, ruX m 23)
theorem D0_eq {m m' : Nat → Nat → Int32} (e : ∀ c, c ∈ toC → m' c = m c) : D0 m' = D0 m := by
  have hp : ∀ p, p < 8 → m' (10 + p) = m (10 + p) := fun p hp => e _ (by
    have : ∀ p < 8, 10 + p ∈ toC := by decide
    exact this p hp)
  unfold D0 tR tN tH tL ruX
  have e1 : (fun (p k : Nat) => if p < 8 then m' (10 + p) k else 0) = fun p k => if p < 8 then m (10 + p) k else 0 := by
    funext p k
    by_cases q : p < 8
    · rw [if_pos q, if_pos q, hp p q]
    · rw [if_neg q, if_neg q]
  rw [e1, e 5 (by decide), e (5 + 1) (by decide), e 7 (by decide), e 8 (by decide), e (5 + 13) (by decide), e 20 (by decide), e (20 + 1) (by decide), e 23 (by decide), e (23 + 1) (by decide)]
theorem RTo_D {m : Nat → Nat → Int32} {N R : Nat} (h : RTo m N R) : dR (D0 m) = R ∧ dN (D0 m) = N ∧ DOk (D0 m) ∧ TwD m 5 (D0 m) ∧ MwD m (D0 m) := by
  obtain ⟨h1, h2, h3, h4, h5, h6, h7, h8, h9, h10, h11, h12, ⟨n0, tx0, h13, h13'⟩, n1', tx1, h14, h14'⟩ := h
  have eR : tR m 5 = R := by unfold tR; rw [h1, nIc (by omega)]
  have eN : tN m 5 = N := by unfold tN; rw [h3, nIc (by omega)]
  have eL : ∀ p, p < 8 → ∀ L, L ≤ 24 → m 18 p = nI L → tL m 5 p = L := fun p hp L hL e => by
    show (m 18 p).toNatClampNeg = L
    rw [e, nIc (by omega)]
  have eH : ∀ r, ∀ h, h ≤ 8 → m 6 r = nI h → tH m 5 r = h := fun r h hh e => by
    show (m 6 r).toNatClampNeg = h
    rw [e, nIc (by omega)]
  have x0 := RuL_ruX h13'
  have x1 := RuL_ruX h14'
  refine ⟨eR, eN, ⟨by show tR m 5 ≤ 4; omega, by show tN m 5 ≤ 8; omega, fun r hr => ?_, fun p hp => ?_, fun p => ?_, fun p hp k hk => ?_⟩, ⟨by show m 5 0 = nI (tR m 5); rw [eR, h1], by show m 5 1 = nI (tN m 5); rw [eN, h3], fun r hr => ?_, fun p hp => ⟨rfl, rfl⟩, fun p hp => ?_, fun p hp k hk => ?_, ?_, ?_⟩, ⟨by show m 108 0 = nI (tR m 5); rw [eR, h5], by show m 108 2 = nI (tN m 5); rw [eN, h6], fun r hr => ?_, fun p hp => ?_, h12, fun p hp => ?_, ?_, ?_⟩⟩
  · obtain ⟨h, q1, q2, -⟩ := h7 r hr
    show tH m 5 r ≤ 16
    rw [eH r h q1 q2]; omega
  · have hp : p < tN m 5 := hp
    exact (h8 p (by omega)).2.2
  · show (if p < 8 then tL m 5 p else 0) ≤ 24 ∧ 0 < 24
    by_cases q : p < 8
    · obtain ⟨L, q1, q2, -⟩ := h9 p q
      rw [if_pos q, eL p q L q1 q2]; omega
    · rw [if_neg q]; omega
  · have hp : p < tN m 5 := hp
    have hp8 : p < 8 := by omega
    obtain ⟨L, q1, q2, q3, q4⟩ := h9 p hp8
    have hk : k < if p < 8 then tL m 5 p else 0 := hk
    rw [if_pos hp8, eL p hp8 L q1 q2] at hk
    show (if p < 8 then m (10 + p) k else 0) = -1 ∨ ∃ rm, rm < tR m 5 ∧ (if p < 8 then m (10 + p) k else 0) = nI rm
    rw [if_pos hp8, eR]
    exact ((q4 (by omega)).2 k hk).2
  · obtain ⟨h, q1, q2, -⟩ := h7 r hr
    show m 6 r = nI (tH m 5 r)
    rw [eH r h q1 q2, q2]
  · obtain ⟨L, q1, q2, -⟩ := h9 p hp
    show m 18 p = nI (if p < 8 then tL m 5 p else 0) ∧ m 19 p = nI 0
    rw [if_pos hp, eL p hp L q1 q2, q2]
    exact ⟨rfl, (h10 p hp).1⟩
  · have hp : p < tN m 5 := hp
    show m (10 + p) k = if p < 8 then m (10 + p) k else 0
    rw [if_pos (by omega)]
  · show RuL m 20 (ruX m 20)
    rw [x0]; exact h13'
  · show RuL m 23 (ruX m 23)
    rw [x1]; exact h14'
  · have hr : r < tR m 5 := hr
    obtain ⟨h, q1, q2, q3⟩ := h7 r (by omega)
    show m 109 r = nI (tH m 5 r)
    rw [eH r h q1 q2]
    exact q3 (by omega)
  · have hp : p < tN m 5 := hp
    obtain ⟨q1, q2, -⟩ := h8 p (by omega)
    exact ⟨q1.symm, q2.symm⟩
  · have hp : p < tN m 5 := hp
    have hp8 : p < 8 := by omega
    obtain ⟨L, q1, q2, q3, q4⟩ := h9 p hp8
    obtain ⟨g1, g2⟩ := q4 (by omega)
    obtain ⟨f1, f2, f3⟩ := h10 p hp8
    refine ⟨⟨L, q1, g1⟩, ⟨0, by decide, f3⟩, Or.inl ⟨f2, ?_, f3, fun k hk => ?_⟩⟩
    · show m 113 p = nI (if p < 8 then tL m 5 p else 0)
      rw [if_pos hp8, eL p hp8 L q1 q2, g1]
    · have hk : k < if p < 8 then tL m 5 p else 0 := hk
      rw [if_pos hp8, eL p hp8 L q1 q2] at hk
      show m 112 (24 * p + k) = if p < 8 then m (10 + p) k else 0
      rw [if_pos hp8]
      exact (g2 k hk).1.symm
  · show RuE m 0 (ruX m 20)
    rw [x0]
    exact Or.inr (Or.inr (Or.inr ⟨Or.inr h11, n0, tx0, h13, rfl⟩))
  · show RuE m 1 (ruX m 23)
    rw [x1]
    exact Or.inr (Or.inr (Or.inr ⟨Or.inl rfl, n1', tx1, h14, rfl⟩))
