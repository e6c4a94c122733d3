/-! town -/
abbrev xTw : Type := Bool × Nat × Nat × Nat × Nat × (Nat → Int32) × (Nat → Int32) × (Nat → Int32)
def tbF (g : Nat → Nat) (a : Nat) : Nat := if g (numF g 2 a 0).1 = 33 then (numF g 2 a 0).1 + 1 else (numF g 2 a 0).1
def tsF (g : Nat → Nat) (a : Nat) : Int32 := if g (numF g 2 a 0).1 = 33 then nI 1 else nI 0
def trd (g : Nat → Nat) : Nat → Nat → Nat → Nat → Nat → (Nat → Int32) → (Nat → Int32) → (Nat → Int32) → xTw
  | 0, a, q, p, n, H, A, S => (false, a, q, p, n, H, A, S)
  | f + 1, a, q, p, n, H, A, S =>
    if g a = 114 then
      if q = 4 then (false, a, q, p, n, H, A, S)
      else if 48 ≤ g (a + 1) ∧ g (a + 1) ≤ 56 then
        if g (a + 1 + 1) = 59 then trd g f (a + 1 + 1 + 1) (q + 1) p (n + 1) (upd H q (nI (g (a + 1) - 48))) A S else (true, a + 1 + 1, q + 1, p, n + 1, upd H q (nI (g (a + 1) - 48)), A, S)
      else (false, a + 1, q, p, n, H, A, S)
    else if p = 8 then (false, a, q, p, n, H, A, S)
    else if 48 ≤ g a ∧ g a ≤ 57 then
      if g (tbF g a) = 59 then trd g f (tbF g a + 1) q (p + 1) (n + 1) H (upd A p (nI (numF g 2 a 0).2)) (upd S p (tsF g a)) else (true, tbF g a, q, p + 1, n + 1, H, upd A p (nI (numF g 2 a 0).2), upd S p (tsF g a))
    else (false, a, q, p, n, H, A, S)
def TwI (q p : Nat) (H S : Nat → Int32) : Prop := q ≤ 4 ∧ p ≤ 8 ∧ (∀ i, i < 4 → ∃ h, h ≤ 8 ∧ H i = nI h) ∧ ∀ i, i < p → S i = 0 ∨ S i = 1
theorem TwI.r {q p x : Nat} {H S : Nat → Int32} (h : TwI q p H S) (hq : q ≠ 4) (hx : x ≤ 8) : TwI (q + 1) p (upd H q (nI x)) S := by
  obtain ⟨h1, h2, h3, h4⟩ := h
  refine ⟨by omega, h2, fun i hi => ?_, h4⟩
  by_cases e : i = q
  · subst e; exact ⟨x, hx, upd_at⟩
  · rw [upd_ne e]; exact h3 i hi
theorem TwI.p {q p : Nat} {y : Int32} {H S : Nat → Int32} (h : TwI q p H S) (hp : p ≠ 8) (hy : y = 0 ∨ y = 1) : TwI q (p + 1) H (upd S p y) := by
  obtain ⟨h1, h2, h3, h4⟩ := h
  refine ⟨h1, by omega, h3, fun i hi => ?_⟩
  by_cases e : i = p
  · subst e; rw [upd_at]; exact hy
  · rw [upd_ne e]; exact h4 i (by omega)
theorem tsF_01 {g : Nat → Nat} {a : Nat} : tsF g a = 0 ∨ tsF g a = 1 := by
  unfold tsF
  split
  · exact Or.inr rfl
  · exact Or.inl rfl
theorem tbF_ge {g : Nat → Nat} {a : Nat} (h : 48 ≤ g a ∧ g a ≤ 57) : a + 1 ≤ tbF g a := by
  have := (numF_le (g := g) (d := 1) (a := a + 1) (v := 10 * 0 + (g a - 48))).1
  have e : numF g 2 a 0 = numF g 1 (a + 1) (10 * 0 + (g a - 48)) := by rw [numF_s, if_pos h]
  unfold tbF
  rw [e]
  split <;> omega
theorem trd_ok {g : Nat → Nat} : ∀ {f a q p n : Nat} {H A S : Nat → Int32} {ok : Bool} {e q' p' n' : Nat} {H' A' S' : Nat → Int32}, TwI q p H S → trd g f a q p n H A S = (ok, e, q', p', n', H', A', S') → TwI q' p' H' S' ∧ q ≤ q' ∧ p ≤ p' ∧ n ≤ n' ∧ n' ≤ n + f ∧ (ok = true → n < n') := by
  intro f
  induction f with
  | zero =>
    intro a q p n H A S ok e q' p' n' H' A' S' hT h
    have h : (false, a, q, p, n, H, A, S) = (ok, e, q', p', n', H', A', S') := h
    simp only [Prod.mk.injEq] at h
    obtain ⟨rfl, rfl, rfl, rfl, rfl, rfl, rfl, rfl⟩ := h
    exact ⟨hT, Nat.le_refl _, Nat.le_refl _, Nat.le_refl _, Nat.le_refl _, fun z => absurd z (by decide)⟩
  | succ f ih =>
    intro a q p n H A S ok e q' p' n' H' A' S' hT h
    unfold trd at h
    have stop : ∀ {a1 : Nat}, (false, a1, q, p, n, H, A, S) = (ok, e, q', p', n', H', A', S') → TwI q' p' H' S' ∧ q ≤ q' ∧ p ≤ p' ∧ n ≤ n' ∧ n' ≤ n + (f + 1) ∧ (ok = true → n < n') := fun {a1} h => by
      simp only [Prod.mk.injEq] at h
      obtain ⟨rfl, rfl, rfl, rfl, rfl, rfl, rfl, rfl⟩ := h
      exact ⟨hT, Nat.le_refl _, Nat.le_refl _, Nat.le_refl _, by omega, fun z => absurd z (by decide)⟩
    by_cases c1 : g a = 114
    · rw [if_pos c1] at h
      by_cases c2 : q = 4
      · rw [if_pos c2] at h; exact stop h
      · rw [if_neg c2] at h
        by_cases c3 : 48 ≤ g (a + 1) ∧ g (a + 1) ≤ 56
        · rw [if_pos c3] at h
          have hT2 := hT.r c2 (x := g (a + 1) - 48) (by omega)
          by_cases c4 : g (a + 1 + 1) = 59
          · rw [if_pos c4] at h
            obtain ⟨y1, y2, y3, y4, y5, y6⟩ := ih hT2 h
            exact ⟨y1, by omega, by omega, by omega, by omega, fun _ => by omega⟩
          · rw [if_neg c4] at h
            simp only [Prod.mk.injEq] at h
            obtain ⟨rfl, rfl, rfl, rfl, rfl, rfl, rfl, rfl⟩ := h
            exact ⟨hT2, by omega, by omega, by omega, by omega, fun _ => by omega⟩
        · rw [if_neg c3] at h; exact stop h
    · rw [if_neg c1] at h
      by_cases c2 : p = 8
      · rw [if_pos c2] at h; exact stop h
      · rw [if_neg c2] at h
        by_cases c3 : 48 ≤ g a ∧ g a ≤ 57
        · rw [if_pos c3] at h
          have hT2 := hT.p c2 (tsF_01 (g := g) (a := a))
          by_cases c4 : g (tbF g a) = 59
          · rw [if_pos c4] at h
            obtain ⟨y1, y2, y3, y4, y5, y6⟩ := ih hT2 h
            exact ⟨y1, by omega, by omega, by omega, by omega, fun _ => by omega⟩
          · rw [if_neg c4] at h
            simp only [Prod.mk.injEq] at h
            obtain ⟨rfl, rfl, rfl, rfl, rfl, rfl, rfl, rfl⟩ := h
            exact ⟨hT2, by omega, by omega, by omega, by omega, fun _ => by omega⟩
        · rw [if_neg c3] at h; exact stop h
section K
variable {N R B r d : Nat} {mem m' m0 m1 m2 m3 m4 m5 : Nat → Nat → Int32} {Q : xQr}
theorem c85 {len lim a q : Nat} {g : Nat → Nat} (hM : RC mem len lim a g) (h10 : mem 5 10 = nI q) (hq : q ≤ 4) (h114 : g a = 114)
    (k0 : q = 4 → Q (some (.int (nI 0))) (LAY, RFu r, mem))
    (k1 : q ≠ 4 → ¬ (48 ≤ g (a + 1) ∧ g (a + 1) ≤ 56) → Q (some (.int (nI 0))) (LAY, RFu r, txM mem (a + 1)))
    (k2 : q ≠ 4 → 48 ≤ g (a + 1) → g (a + 1) ≤ 56 → ∀ m', Ag [1, 5, 6] mem m' → RC m' len lim (a + 1 + 1) g → (∀ j, j ≠ 10 → m' 5 j = mem 5 j) → m' 5 10 = nI (q + 1) → m' 6 = upd (mem 6) q (nI (g (a + 1) - 48)) → Q (some (.int (nI 1))) (LAY, RFu r, m')) : xCall (d + 3) 85 [.ref 5, .ref 1] (LAY, RFu r, mem) Q := by
  have ha : a < lim := hM.lt (by omega)
  refine c_in rfl rfl rfl fun P hP => b85_0 hP (Or.inl rfl) (fun z => b85_17 hP (Or.inl rfl) (Or.inl rfl) (k0 ?_)) (fun z => ?_) <;> rw [h10, nI_leI (by decide) (by omega)] at z
  · omega
  have hq4 : q ≠ 4 := by omega
  have hM1 := hM.tx (b := a + 1) ha
  refine b85_8 hP (Or.inl rfl) (c76 (c := 114) hM (by decide) (fun q => absurd h114 q) (fun _ => Bk.i (b85_14 hP (Or.inl rfl) (fun _ => b85_19 hP (Or.inl rfl) (c77d (x := 8) hM1 (by decide) (fun hn => Bk.i (b85_25 hP (Or.inl rfl) (fun z => absurd rfl z) (fun _ => b85_31 hP (Or.inl rfl) (Or.inl rfl) (k1 hq4 hn)))) (fun q1 q2 => Bk.i (b85_25 hP (Or.inl rfl) (fun _ => ?_) (fun z => absurd z (nI_nm (by omega))))))) (fun z => absurd z (by decide)))))
  have hl : a + 1 < lim := hM.lt (by omega)
  rw [txM_tx]
  have hM2 := hM.tx (b := a + 1 + 1) hl
  have e10 : txM mem (a + 1 + 1) 5 10 = nI q := by rw [txM_ag 5 (by decide), h10]
  have eq6 : txM mem (a + 1 + 1) 6 = mem 6 := txM_ag 6 (by decide)
  refine b85_33 hP (Or.inl rfl) (by rw [e10]; exact vpn (by omega) (by decide)) (Or.inr rfl) ?_
  rw [e10, nIc (by omega)]
  refine k2 hq4 q1 (by omega) _ (((txM_ag.mono (by simp)).u2 (by simp)).u2 (by simp)) (hM2.sm ?_ ?_) (fun j hj => ?_) ?_ ?_
  · rw [xu2_ne (by decide), xu2_ne (by decide)]
  · rw [xu2_ne (by decide), xu2_ne (by decide)]
  · rw [xu2_eq, upd_ne hj, xu2_ne (by decide), txM_ag 5 (by decide)]
  · rw [xu2_eq, upd_at, xu2_ne (by decide), e10, nIs]
  · rw [xu2_ne (by decide), xu2_eq, eq6]
theorem c86 {len lim a p : Nat} {g : Nat → Nat} (hM : RC mem len lim a g) (h11 : mem 5 11 = nI p) (hp : p ≤ 8)
    (k0 : p = 8 ∨ ¬ (48 ≤ g a ∧ g a ≤ 57) → Q (some (.int (nI 0))) (LAY, RFu r, mem))
    (k2 : p ≠ 8 → 48 ≤ g a ∧ g a ≤ 57 → ∀ m', Ag [1, 5, 7, 8] mem m' → RC m' len lim (tbF g a) g → (∀ j, j ≠ 11 → m' 5 j = mem 5 j) → m' 5 11 = nI (p + 1) → m' 7 = upd (mem 7) p (nI (numF g 2 a 0).2) → m' 8 = upd (mem 8) p (tsF g a) → Q (some (.int (nI 1))) (LAY, RFu r, m')) : xCall (d + 4) 86 [.ref 5, .ref 1] (LAY, RFu r, mem) Q := by
  refine c_in rfl rfl rfl fun P hP => b86_0 hP (Or.inl rfl) (fun z => ?_) (fun z => b86_9 hP (Or.inl rfl) (Or.inl rfl) (k0 (Or.inl ?_))) <;> rw [h11] at z
  · have hp8 : p ≠ 8 := fun q => by rw [q] at z; exact absurd z (by decide)
    refine b86_11 hP (Or.inl rfl) (c78 (dd := 1) hM (by decide) (fun hn => Bk.i (b86_16 hP (Or.inl rfl) (fun z => absurd rfl z) (fun _ => b86_22 hP (Or.inl rfl) (Or.inl rfl) (k0 (Or.inr hn))))) (fun q1 q2 => Bk.i (b86_16 hP (Or.inl rfl) (fun _ => ?_) (fun z => absurd z (nI_nm ?_)))))
    · have k2 := k2 hp8 ⟨q1, q2⟩
      have hnl : (numF g 2 a 0).1 ≤ lim := by
        have h0 : a + 1 ≤ lim := hM.lt (by omega)
        rw [numF_s, if_pos ⟨q1, q2⟩, numF_s]
        split
        · rename_i w
          exact hM.lt (by omega)
        · exact h0
      have e2 : numF g (1 + 1) a 0 = numF g 2 a 0 := rfl
      unfold tbF tsF at k2
      rw [e2]
      obtain ⟨b0, v, hn⟩ : ∃ b0 v, numF g 2 a 0 = (b0, v) := ⟨_, _, rfl⟩
      rw [hn] at k2 hnl ⊢
      have k2 : ∀ m', Ag [1, 5, 7, 8] mem m' → RC m' len lim (if g b0 = 33 then b0 + 1 else b0) g → (∀ j, j ≠ 11 → m' 5 j = mem 5 j) → m' 5 11 = nI (p + 1) → m' 7 = upd (mem 7) p (nI v) → m' 8 = upd (mem 8) p (if g b0 = 33 then nI 1 else nI 0) → Q (some (.int (nI 1))) (LAY, RFu r, m') := k2
      have hnl : b0 ≤ lim := hnl
      show P 24 [.ref 5, .ref 1, .int (nI v)] [] (0, 0) (LAY, RFu r, txM mem b0)
      have e11 : txM mem b0 5 11 = nI p := by rw [txM_ag 5 (by decide), h11]
      refine b86_24 hP (Or.inl rfl) (by rw [e11]; exact vpn (by omega) (by decide)) ?_
      rw [e11, nIc (by omega)]
      generalize hm1 : xu2 (txM mem b0) (5 + 2) p (nI v) = m1
      have a1 : Ag [1, 7] mem m1 := by rw [← hm1]; exact (txM_ag.mono (by simp)).u2 (by simp)
      have hM1 : RC m1 len lim b0 g := (hM.tx hnl).sm (by rw [← hm1, xu2_ne (by decide)]) (by rw [← hm1, xu2_ne (by decide)])
      have e7 : m1 7 = upd (mem 7) p (nI v) := by rw [← hm1]; show xu2 (txM mem b0) 7 p (nI v) 7 = _; rw [xu2_eq, txM_ag 7 (by decide)]
      have f11 : m1 5 11 = nI p := by rw [a1 5 (by decide), h11]
      rw [f11]
      have fin : ∀ m2 y, Ag [1] m1 m2 → RC m2 len lim (if g b0 = 33 then b0 + 1 else b0) g → (if g b0 = 33 then nI 1 else nI 0) = y → P 56 [.ref 5, .ref 1, .int (nI v)] [.int y, .int (nI p), .ref (5 + 3)] (0, 0) (LAY, RFu r, m2) := fun m2 y a2 hM2 hy => by
        refine b86_56 hP (Or.inl rfl) (vpn (by omega) (by decide)) (Or.inr rfl) ?_
        rw [nIc (by omega)]
        have g1 : Ag [1, 7] mem m2 := a1.trans (a2.mono (by simp))
        refine k2 _ (((g1.mono (by simp)).u2 (by simp)).u2 (by simp)) (hM2.sm ?_ ?_) (fun j hj => ?_) ?_ ?_ ?_
        · rw [xu2_ne (by decide), xu2_ne (by decide)]
        · rw [xu2_ne (by decide), xu2_ne (by decide)]
        · rw [xu2_eq, upd_ne hj, xu2_ne (by decide), g1 5 (by decide)]
        · rw [xu2_eq, upd_at, xu2_ne (by decide), g1 5 (by decide), h11, nIs]
        · rw [xu2_ne (by decide), xu2_ne (by decide), a2 7 (by decide), e7]
        · rw [xu2_ne (by decide), hy]
          show xu2 m2 8 p y 8 = _
          rw [xu2_eq, g1 8 (by decide)]
      refine c76 (c := 33) hM1 (by decide) (fun h33 => Bk.i (b86_48 hP (Or.inl rfl) (fun _ => b86_55 hP (Or.inl rfl) (fin m1 _ Ag.rfl' ?_ (if_neg h33))) (fun z => absurd rfl z))) (fun h33 => Bk.i (b86_48 hP (Or.inl rfl) (fun z => absurd z (by decide)) (fun _ => b86_51 hP (Or.inl rfl) (fin _ _ txM_ag ?_ (if_pos h33)))))
      · rw [if_neg h33]; exact hM1
      · rw [if_pos h33]; exact hM1.tx (hM1.lt (by omega))
    · have nl := (numF_le (g := g) (d := 1 + 1) (a := a) (v := 0)).2.2
      omega
  · exact Decidable.by_contra fun w => z (nI_lt (by omega) (by decide))
/-- what was read so far -/
def TSC (mem m' : Nat → Nat → Int32) (q p : Nat) (H A S : Nat → Int32) : Prop := Ag [1, 5, 6, 7, 8] mem m' ∧ m' 5 0 = mem 5 0 ∧ m' 5 1 = mem 5 1 ∧ m' 5 10 = nI q ∧ m' 5 11 = nI p ∧ m' 6 = H ∧ m' 7 = A ∧ m' 8 = S
theorem TSC.tx {q p b : Nat} {H A S : Nat → Int32} (h : TSC mem m' q p H A S) (a : Ag [1] m' m0) : TSC mem m0 q p H A S := by
  obtain ⟨h1, h2, h3, h4, h5, h6, h7, h8⟩ := h
  exact ⟨h1.trans (a.mono (by simp)), by rw [a 5 (by decide), h2], by rw [a 5 (by decide), h3], by rw [a 5 (by decide), h4], by rw [a 5 (by decide), h5], by rw [a 6 (by decide), h6], by rw [a 7 (by decide), h7], by rw [a 8 (by decide), h8]⟩
theorem c84 {len N R ee q' p' n' : Nat} {tx : Nat → Nat} {ok : Bool} {H' A' S' : Nat → Int32} (hT : TxC mem len tx) (hR : mem 5 0 = nI R) (hN : mem 5 1 = nI N) (hI : TwI R N (mem 6) (mem 8))
    (hX : trd (gT tx len 76) 77 0 R N 0 (mem 6) (mem 7) (mem 8) = (ok, ee, q', p', n', H', A', S'))
    (k0 : len = 0 → ∀ m', Ag [1, 5] mem m' → m' 5 0 = nI R → m' 5 1 = nI N → Q (some (.int (nI 0))) (LAY, RFu r, m'))
    (kf : len ≠ 0 → ¬ (ok = true ∧ ee = len) → ∀ m', TSC mem m' q' p' H' A' S' → m' 1 2 = nI ee → Q (some (.int (-1))) (LAY, RFu r, m'))
    (kt : len ≠ 0 → ok = true → ee = len → ∀ m', Ag [1, 5, 6, 7, 8] mem m' → m' 5 0 = nI q' → m' 5 1 = nI p' → m' 6 = H' → m' 7 = A' → m' 8 = S' → Q (some (.int (nI n'))) (LAY, RFu r, m')) : xCall (d + 5) 84 [.ref 5, .ref 1] (LAY, RFu r, mem) Q := by
  refine c_in rfl rfl rfl fun P hP => b84_0 hP (Or.inl rfl) ?_
  generalize hm0 : xu2 (xu2 mem 5 10 (mem 5 0)) 5 11 ((xu2 mem 5 10 (mem 5 0)) 5 1) = m0
  have a0 : Ag [5] mem m0 := by rw [← hm0]; exact (Ag.rfl'.u2 (by simp)).u2 (by simp)
  have e0 : m0 5 0 = mem 5 0 := by rw [← hm0, xu2_eq, upd_ne (by decide), xu2_eq, upd_ne (by decide)]
  have e1 : m0 5 1 = mem 5 1 := by rw [← hm0, xu2_eq, upd_ne (by decide), xu2_eq, upd_ne (by decide)]
  have e10 : m0 5 10 = nI R := by rw [← hm0, xu2_eq, upd_ne (by decide), xu2_eq, upd_at, hR]
  have e11 : m0 5 11 = nI N := by rw [← hm0, xu2_eq, upd_at, xu2_eq, upd_ne (by decide), hN]
  have hT0 : TxC m0 len tx := by
    unfold TxC at hT ⊢
    rw [a0 1 (by decide), a0 2 (by decide)]
    exact hT
  refine c74 (lim := 76) (by decide) hT0 fun m1 a1 r1 => Bk.v (b84_22 hP (Or.inl rfl) (fun z => ?_) (fun z => ?_)) <;> rw [r1.1] at z
  · have hl0 : len ≠ 0 := fun q => z (by rw [q]; rfl)
    generalize gT tx len 76 = g at hX r1
    have t1 : TSC mem m1 R N (mem 6) (mem 7) (mem 8) := ⟨(a0.mono (by simp)).trans (a1.mono (by simp)), by rw [a1 5 (by decide), e0], by rw [a1 5 (by decide), e1], by rw [a1 5 (by decide), e10], by rw [a1 5 (by decide), e11], by rw [a1 6 (by decide), a0 6 (by decide)], by rw [a1 7 (by decide), a0 7 (by decide)], by rw [a1 8 (by decide), a0 8 (by decide)]⟩
    have fail : ∀ m' n v3, TSC mem m' q' p' H' A' S' → m' 1 2 = nI ee → ok = false → P 55 [.ref 5, .ref 1, .int n, v3] [.int (nI 0)] (0, 0) (LAY, RFu r, m') := fun m' n v3 t e hk => b84_55 hP (Or.inl rfl) (fun z => absurd rfl z) (fun _ => b84_60 hP (Or.inl rfl) (kf hl0 (fun z => by rw [hk] at z; exact absurd z.1 (by decide)) m' t e))
    have stop : ∀ m' v3, TSC mem m' q' p' H' A' S' → RC m' len (min len 76) ee g → ok = true → P 80 [.ref 5, .ref 1, .int (nI n'), v3] [] (0, 0) (LAY, RFu r, m') := fun m' v3 t hM hk => by
      refine b84_80 hP (Or.inl rfl) (c79 hM (Bk.i (b84_84 hP (Or.inl rfl) (fun z => b84_89 hP (Or.inl rfl) ?_) (fun z => b84_87 hP (Or.inl rfl) (kf hl0 (fun w => b01_0.mp z w.2) m' t hM.at')))))
      obtain ⟨t1, t2, t3, t4, t5, t6, t7, t8⟩ := t
      refine kt hl0 hk (Decidable.by_contra fun q => z (b01_f q)) _ ((t1.u2 (by simp)).u2 (by simp)) ?_ ?_ ?_ ?_ ?_
      · rw [xu2_eq, upd_ne (by decide), xu2_eq, upd_at, t4]
      · rw [xu2_eq, upd_at, xu2_eq, upd_ne (by decide), t5]
      · rw [xu2_ne (by decide), xu2_ne (by decide), t6]
      · rw [xu2_ne (by decide), xu2_ne (by decide), t7]
      · rw [xu2_ne (by decide), xu2_ne (by decide), t8]
    have main : ∀ f a q p n H A S m' v3, 77 ≤ a + f → 2 * n ≤ a → RC m' len (min len 76) a g → TSC mem m' q p H A S → TwI q p H S → trd g f a q p n H A S = (ok, ee, q', p', n', H', A', S') → P 33 [.ref 5, .ref 1, .int (nI n), v3] [] (0, 0) (LAY, RFu r, m') := by
      intro f
      induction f with
      | zero =>
        intro a q p n H A S m' v3 hf hn hM
        have := hM.2.2.2.2.2.1
        omega
      | succ f ih =>
        intro a q p n H A S m' v3 hf hn hM t hI h
        have ha := hM.2.2.2.2.2.1
        have hga := hM.le a
        unfold trd at h
        refine b84_33 hP (Or.inl rfl) (c75 hM (Bk.i (b84_37 hP (Or.inl rfl) (fun z => ?_) (fun z => ?_))))
        · have c1 : g a ≠ 114 := fun w => z ((hcx_eq (by decide)).mpr w)
          rw [if_neg c1] at h
          refine b84_50 hP (Or.inl rfl) (c86 hM t.2.2.2.2.1 hI.2.1 (fun w => Bk.i (fail m' _ _ ?_ ?_ ?_)) (fun c2 c3 m2 a2 hM2 o5 o11 o7 o8 => Bk.i (b84_55 hP (Or.inl rfl) (fun _ => ?_) (fun z => absurd z (by decide)))))
          · by_cases c2 : p = 8
            · rw [if_pos c2] at h
              simp only [Prod.mk.injEq] at h
              obtain ⟨rfl, rfl, rfl, rfl, rfl, rfl, rfl, rfl⟩ := h
              exact t
            · rw [if_neg c2, if_neg (w.resolve_left c2)] at h
              simp only [Prod.mk.injEq] at h
              obtain ⟨rfl, rfl, rfl, rfl, rfl, rfl, rfl, rfl⟩ := h
              exact t
          · by_cases c2 : p = 8
            · rw [if_pos c2] at h
              simp only [Prod.mk.injEq] at h
              obtain ⟨rfl, rfl, rfl, rfl, rfl, rfl, rfl, rfl⟩ := h
              exact hM.at'
            · rw [if_neg c2, if_neg (w.resolve_left c2)] at h
              simp only [Prod.mk.injEq] at h
              obtain ⟨rfl, rfl, rfl, rfl, rfl, rfl, rfl, rfl⟩ := h
              exact hM.at'
          · by_cases c2 : p = 8
            · rw [if_pos c2] at h
              simp only [Prod.mk.injEq] at h
              exact h.1.symm
            · rw [if_neg c2, if_neg (w.resolve_left c2)] at h
              simp only [Prod.mk.injEq] at h
              exact h.1.symm
          · rw [if_neg c2, if_pos c3] at h
            obtain ⟨t1, t2, t3, t4, t5, t6, t7, t8⟩ := id t
            have t' : TSC mem m2 q (p + 1) H (upd A p (nI (numF g 2 a 0).2)) (upd S p (tsF g a)) := ⟨t1.trans (a2.mono (by simp)), by rw [o5 0 (by decide), t2], by rw [o5 1 (by decide), t3], by rw [o5 10 (by decide), t4], o11, by rw [a2 6 (by decide), t6], by rw [o7, t7], by rw [o8, t8]⟩
            have hI2 := hI.p c2 (tsF_01 (g := g) (a := a))
            have hge := tbF_ge c3
            have hle := hM2.2.2.2.2.2.1
            generalize tbF g a = b at h hM2 hge hle
            refine b84_62 hP (Or.inl rfl) (fun w => absurd w (by rw [nIs]; exact nI_ge (by omega) (by decide))) (fun _ => ?_)
            rw [nIs]
            refine b84_71 hP (Or.inl rfl) (c76 (c := 59) hM2 (by decide) (fun c4 => Bk.i (b84_77 hP (Or.inl rfl) (fun w => absurd rfl w) (fun _ => ?_))) (fun c4 => Bk.i (b84_77 hP (Or.inl rfl) (fun _ => ?_) (fun w => absurd w (by decide)))))
            · rw [if_neg c4] at h
              simp only [Prod.mk.injEq] at h
              obtain ⟨rfl, rfl, rfl, rfl, rfl, rfl, rfl, rfl⟩ := h
              exact stop m2 _ t' hM2 rfl
            · rw [if_pos c4] at h
              have hlt := hM2.lt (i := b) (by omega)
              exact ih (b + 1) _ _ _ _ _ _ _ _ (by omega) (by omega) (hM2.tx hlt) (t'.tx (b := 0) txM_ag) hI2 h
        · have c1 : g a = 114 := (hcx_eq (by decide)).mp z
          have hal := hM.lt (i := a) (by omega)
          rw [if_pos c1] at h
          refine b84_42 hP (Or.inl rfl) (c85 hM t.2.2.2.1 hI.1 c1 (fun c2 => Bk.i (b84_47 hP (Or.inl rfl) ?_)) (fun c2 c3 => Bk.i (b84_47 hP (Or.inl rfl) ?_)) (fun c2 c3 c3' m2 a2 hM2 o5 o10 o6 => Bk.i (b84_47 hP (Or.inl rfl) (b84_55 hP (Or.inl rfl) (fun _ => ?_) (fun z => absurd z (by decide))))))
          · rw [if_pos c2] at h
            simp only [Prod.mk.injEq] at h
            obtain ⟨rfl, rfl, rfl, rfl, rfl, rfl, rfl, rfl⟩ := h
            exact fail m' _ _ t hM.at' rfl
          · rw [if_neg c2, if_neg c3] at h
            simp only [Prod.mk.injEq] at h
            obtain ⟨rfl, rfl, rfl, rfl, rfl, rfl, rfl, rfl⟩ := h
            exact fail _ _ _ (t.tx (b := 0) txM_ag) (hM.tx (b := a + 1) hal).at' rfl
          · rw [if_neg c2, if_pos ⟨c3, c3'⟩] at h
            obtain ⟨t1, t2, t3, t4, t5, t6, t7, t8⟩ := id t
            have t' : TSC mem m2 (q + 1) p (upd H q (nI (g (a + 1) - 48))) A S := ⟨t1.trans (a2.mono (by simp)), by rw [o5 0 (by decide), t2], by rw [o5 1 (by decide), t3], o10, by rw [o5 11 (by decide), t5], by rw [o6, t6], by rw [a2 7 (by decide), t7], by rw [a2 8 (by decide), t8]⟩
            have hI2 := hI.r c2 (x := g (a + 1) - 48) (by omega)
            have hle := hM2.2.2.2.2.2.1
            refine b84_62 hP (Or.inl rfl) (fun w => absurd w (by rw [nIs]; exact nI_ge (by omega) (by decide))) (fun _ => ?_)
            rw [nIs]
            refine b84_71 hP (Or.inl rfl) (c76 (c := 59) hM2 (by decide) (fun c4 => Bk.i (b84_77 hP (Or.inl rfl) (fun w => absurd rfl w) (fun _ => ?_))) (fun c4 => Bk.i (b84_77 hP (Or.inl rfl) (fun _ => ?_) (fun w => absurd w (by decide)))))
            · rw [if_neg c4] at h
              simp only [Prod.mk.injEq] at h
              obtain ⟨rfl, rfl, rfl, rfl, rfl, rfl, rfl, rfl⟩ := h
              exact stop m2 _ t' hM2 rfl
            · rw [if_pos c4] at h
              have hlt := hM2.lt (i := a + 1 + 1) (by omega)
              exact ih (a + 1 + 1 + 1) _ _ _ _ _ _ _ _ (by omega) (by omega) (hM2.tx hlt) (t'.tx (b := 0) txM_ag) hI2 h
    exact b84_31 hP (Or.inl rfl) (main 77 0 R N 0 _ _ _ m1 _ (by decide) (by decide) r1 t1 hI hX)
  · refine b84_29 hP (Or.inl rfl) (k0 (nI_inj z (by have := hT.2.1; omega) (by decide)) m1 ((a0.mono (by simp)).trans (a1.mono (by simp))) ?_ ?_)
    · rw [a1 5 (by decide), e0, hR]
    · rw [a1 5 (by decide), e1, hN]
end K
/-! town, in the reference -/
def TSM (m1 m' : Nat → Nat → Int32) (q p : Nat) (H A S : Nat → Int32) : Prop := AgM [109, 110, 111] [17, 20, 22, 23, 24, 25] m1 m' ∧ m' 108 17 = nI 0 ∧ (∀ i, i < q → m' 109 i = H i) ∧ ∀ i, i < p → m' 110 i = A i ∧ m' 111 i = S i
/-- the people from N up to k are new -/
def ZM (m' m2 : Nat → Nat → Int32) (N k : Nat) : Prop := AgM [113, 114, 115, 116, 117, 118, 119, 120, 121] [] m' m2 ∧
  (∀ i, N ≤ i → i < k → m2 113 i = nI 0 ∧ m2 114 i = -1 ∧ m2 115 i = nI 0 ∧ m2 116 i = nI 0 ∧ m2 117 i = nI 0 ∧ m2 118 i = nI 0 ∧ m2 119 i = nI 0 ∧ m2 120 i = nI 0) ∧
  (∀ i, i < N → m2 113 i = m' 113 i ∧ m2 114 i = m' 114 i ∧ m2 115 i = m' 115 i ∧ m2 116 i = m' 116 i ∧ m2 117 i = m' 117 i ∧ m2 118 i = m' 118 i ∧ m2 119 i = m' 119 i ∧ m2 120 i = m' 120 i) ∧
  ∀ x y, x < 8 → y < 8 → m2 121 (8 * x + y) = if (N ≤ x ∧ x < k) ∨ (N ≤ y ∧ y < k) then nI 0 else m' 121 (8 * x + y)
section K
variable {N R B r d : Nat} {mem m' m0 m1 m2 m3 m4 m5 : Nat → Nat → Int32} {Q : xQr}
theorem TSM.ag {q p : Nat} {H A S : Nat → Int32} (h : TSM m1 m' q p H A S) (a : AgM [] [22, 23, 24, 25] m' m2) : TSM m1 m2 q p H A S := by
  obtain ⟨h1, h2, h3, h4⟩ := h
  exact ⟨h1.trans (a.mono (by simp) (by simp)), by rw [a.2 17 (by simp), h2], fun i hi => by rw [a.1 109 (by simp) (by decide)]; exact h3 i hi, fun i hi => by rw [a.1 110 (by simp) (by decide), a.1 111 (by simp) (by decide)]; exact h4 i hi⟩
theorem ZM_0 : ZM m' m' N N := ⟨AgM.rfl', fun i h1 h2 => absurd h2 (by omega), fun i _ => ⟨rfl, rfl, rfl, rfl, rfl, rfl, rfl, rfl⟩, fun x y _ _ => by rw [if_neg (by omega)]⟩
theorem m173 {len N R ee q' p' n' : Nat} {tx : Nat → Nat} {ok : Bool} {H A S H' A' S' : Nat → Int32} {Q2 : xQr} (hT : TxM m1 len tx) (hR : m1 108 0 = nI R) (hN : m1 108 2 = nI N) (hI : TwI R N H S)
    (hH : ∀ i, i < R → m1 109 i = H i) (hA : ∀ i, i < N → m1 110 i = A i ∧ m1 111 i = S i)
    (hX : trd (gT tx len 76) 77 0 R N 0 H A S = (ok, ee, q', p', n', H', A', S'))
    (k0 : len = 0 → ∀ r2 m2, AgM [] [17, 20, 22, 23, 24, 25] m1 m2 → m2 108 17 = nI 0 → Q2 (some (.int (nI 0))) (LAY, RFu r2, m2))
    (kf : len ≠ 0 → ¬ (ok = true ∧ ee = len) → ∀ r2 m2, TSM m1 m2 q' p' H' A' S' → Q2 (some (.int (-1 - nI ee))) (LAY, RFu r2, m2))
    (kt : len ≠ 0 → ok = true → ee = len → ∀ r2 m0 m2 m3, TSM m1 m0 q' p' H' A' S' → ZM m0 m2 N p' → AgM [] [0, 2, 37, 47] m2 m3 → m3 108 0 = nI q' → m3 108 2 = nI p' → m3 108 37 = nI 0 → m3 108 47 = (if R < q' ∨ N < p' then m1 108 47 + nI 1 else m1 108 47) → Q2 (some (.int (nI n'))) (LAY, RFu r2, m3)) :
    xCall (d + 5) 173 [.ref 108] (LAY, RFu r, m1) Q2 := by
  obtain ⟨t1, t2, t3⟩ := id hT
  refine c_in rfl rfl rfl fun P hP => b173_0 hP ?_
  have e17 : xu2 m1 108 20 (nI 0) 108 17 = nI len := by rw [e20 (by decide), t1]
  rw [e17]
  have hL : LAY[122]? = some (14, 80) := rfl
  refine c167 hL fun m2 a2 e1 e2 e3 e4 => Bk.v ?_
  have a2' : AgM [] [17, 20, 22, 23, 24, 25] m1 (xu2 m2 108 17 (nI 0)) := ((th20.mono (by simp) (by simp)).trans (a2.mono (by simp) (by simp))).us (by simp)
  have hM0 : RM m2 123 122 len 76 0 (-1) (gT tx len 76) := gT_RM hL t2 (by decide) (by decide) (by omega) e1 e2 e3 e4 (fun i hi => ⟨(t3 i hi).1, by rw [a2.1 122 (by simp) (by decide), xu2_ne (by decide)]; exact (t3 i hi).2⟩)
  have hM : RM (xu2 m2 108 17 (nI 0)) 123 122 len 76 0 (-1) (gT tx len 76) := RM_mv (W := []) (V := [17]) hM0 (AgM.rfl'.us (by simp)) (by simp) (by simp) (by simp) (by rw [xu2_eq, upd_ne (by decide), e3]) (by decide) (by rw [xu2_eq, upd_ne (by decide), e4])
  have f17 : xu2 m2 108 17 (nI 0) 108 17 = nI 0 := by rw [xu2_eq, upd_at]
  have f22 : xu2 m2 108 17 (nI 0) 108 22 = nI len := by rw [xu2_eq, upd_ne (by decide), e1]
  refine b173_19 hP (fun z => ?_) (fun z => b173_31 hP (k0 (nI_inj (by rw [← f22]; exact z) (by omega) (by decide)) _ _ a2' f17))
  have hl0 : len ≠ 0 := fun q => z (by rw [f22, q]; rfl)
  generalize xu2 m2 108 17 (nI 0) = m2 at a2' hM f17
  have hlim : ∀ i, gT tx len 76 i < 256 → i < min len 76 := fun i hi => Decidable.by_contra fun q => by rw [gT_lim (by omega)] at hi; omega
  generalize gT tx len 76 = g at hX hM hlim
  have b1 : TSM m1 m2 R N H A S := ⟨a2'.mono (by simp) (by simp), f17, fun i hi => by rw [a2'.1 109 (by simp) (by decide)]; exact hH i hi, fun i hi => by rw [a2'.1 110 (by simp) (by decide), a2'.1 111 (by simp) (by decide)]; exact hA i hi⟩
  have hok := trd_ok hI hX
  -- a fault
  have f213 : ∀ m' x1 x2 x3 v4 v5 v6, TSM m1 m' q' p' H' A' S' → m' 108 25 = nI ee → ee < 1000 → ¬ (ok = true ∧ ee = len) → P 213 [.ref 108, .int x1, .int x2, .int x3, v4, v5, v6] [] (0, 0) (LAY, RFu 123, m') := fun m' x1 x2 x3 v4 v5 v6 t h25 he hno => by
    refine b173_213 hP (c169 (Bk.i (b173_217 hP (fun z => absurd (b01_f (fun q => nI_nm (a := ee) (by omega) (by rw [← h25]; exact q))) z) (fun _ => b173_220 hP ?_))))
    rw [h25]
    exact kf hl0 hno _ _ t
  have f180 : ∀ m' a x1 x2 x3 v4 v5 v6, TSM m1 m' q' p' H' A' S' → RM m' 123 122 len 76 a (nI ee) g → ee < 1000 → ok = false → P 180 [.ref 108, .int x1, .int x2, .int x3, v4, v5, v6] [] (0, 0) (LAY, RFu 123, m') := fun m' a x1 x2 x3 v4 v5 v6 t hM he hno => by
    have h25 : m' 108 25 = nI ee := hM.2.2.2.2.2.2.2.2.1
    have hno : ¬ (ok = true ∧ ee = len) := fun q => by rw [hno] at q; exact absurd q.1 (by decide)
    refine b173_180 hP (c171 (c := 59) hM (by decide) (fun _ => Bk.i (b173_189 hP (b173_48 hP (fun _ => b173_194 hP (fun _ => f213 m' _ _ _ _ _ _ t h25 he hno) (fun _ => b173_205 hP (c170 (Bk.v ?_)))) (fun z => absurd rfl z)))) (fun w _ => absurd w (nI_nm (by omega))))
    rw [if_neg (by rw [h25]; exact nI_nm (by omega))]
    exact f213 m' _ _ _ _ _ _ t h25 he hno
  -- all is read
  have good : ∀ m' v4 v5 v6, TSM m1 m' q' p' H' A' S' → m' 108 25 = -1 → ok = true → ee = len → P 213 [.ref 108, .int (nI q'), .int (nI p'), .int (nI n'), v4, v5, v6] [] (0, 0) (LAY, RFu 123, m') := fun m' v4 v5 v6 t h25 hk he => by
    have hp8 : p' ≤ 8 := hok.1.2.1
    have hq4 : q' ≤ 4 := hok.1.1
    have hNp : N ≤ p' := hok.2.2.1
    have hRq : R ≤ q' := hok.2.1
    refine b173_213 hP (c169 (Bk.i (b173_217 hP (fun _ => b173_227 hP ?_) (fun z => absurd z (by rw [b01_t h25]; decide)))))
    rw [t.1.2 2 (by decide), hN]
    have key := xloop (N := p' - N) (G := fun j => ∀ m2 v6, ZM m' m2 N (N + j) → P 233 [.ref 108, .int (nI q'), .int (nI p'), .int (nI n'), v4, .int (nI (N + j)), v6] [] (0, 0) (LAY, RFu 123, m2)) ?_ ?_
    · exact key m' _ ZM_0
    · intro m2 v6 hz
      rw [show N + (p' - N) = p' by omega] at hz ⊢
      have z0 : m2 108 0 = nI R := by rw [hz.1.2 0 (by simp), t.1.2 0 (by decide), hR]
      have z2 : m2 108 2 = nI N := by rw [hz.1.2 2 (by simp), t.1.2 2 (by decide), hN]
      have z47 : m2 108 47 = m1 108 47 := by rw [hz.1.2 47 (by simp), t.1.2 47 (by decide)]
      have fin : ∀ m3, (m3 = m2 ∧ ¬ (R < q' ∨ N < p')) ∨ (m3 = xu2 m2 108 47 (m2 108 47 + nI 1) ∧ (R < q' ∨ N < p')) → P 379 [.ref 108, .int (nI q'), .int (nI p'), .int (nI n'), v4, .int (nI p'), v6] [] (0, 0) (LAY, RFu 123, m3) := fun m3 h3 => by
        have a3 : AgM [] [47] m2 m3 := by
          rcases h3 with ⟨e, -⟩ | ⟨e, -⟩
          · rw [e]; exact AgM.rfl'
          · rw [e]; exact AgM.rfl'.us (by simp)
        have e47 : m3 108 47 = if R < q' ∨ N < p' then m1 108 47 + nI 1 else m1 108 47 := by
          rcases h3 with ⟨e, w⟩ | ⟨e, w⟩
          · rw [e, if_neg w, z47]
          · rw [e, if_pos w, xu2_eq, upd_at, z47]
        refine b173_379 hP (kt hl0 hk he _ m' m2 _ t hz ((((a3.mono (by simp) (by simp)).us (by simp)).us (by simp)).us (by simp)) ?_ ?_ ?_ ?_)
        · rw [xu2_eq, upd_ne (by decide), xu2_eq, upd_ne (by decide), xu2_eq, upd_at]
        · rw [xu2_eq, upd_ne (by decide), xu2_eq, upd_at]
        · rw [xu2_eq, upd_at]
        · rw [xu2_eq, upd_ne (by decide), xu2_eq, upd_ne (by decide), xu2_eq, upd_ne (by decide), e47]
      refine b173_233 hP (fun _ => b173_353 hP (fun w => b173_369 hP (fin _ (Or.inr ⟨rfl, Or.inl ?_⟩))) (fun w => b173_361 hP (fun w2 => fin _ (Or.inl ⟨rfl, ?_⟩)) (fun w2 => b173_369 hP (fin _ (Or.inr ⟨rfl, Or.inr ?_⟩))))) (fun w => absurd (Int32.le_refl _) w)
      · rw [z0] at w
        exact Decidable.by_contra fun q => nI_nlt (by omega) (by omega) w
      · rw [z0] at w
        rw [z2, nI_leI (by omega) (by omega)] at w2
        have : ¬ R < q' := fun q => w (nI_lt q (by omega))
        omega
      · rw [z2, nI_leI (by omega) (by omega)] at w2
        omega
    · intro j hj ih m2 v6 hz
      have v8 : vp_in (nI (N + j)) 8 := vpn (by omega) (by decide)
      refine b173_233 hP (fun w => absurd w (nI_ge (by omega) (by omega))) (fun _ => b173_239 hP v8 v8 v8 v8 v8 v8 v8 v8 ?_)
      rw [nIc (by omega)]
      generalize hm3 : xu2 (xu2 (xu2 (xu2 (xu2 (xu2 (xu2 (xu2 m2 113 (N + j) (nI 0)) 114 (N + j) (-1)) 115 (N + j) (nI 0)) 116 (N + j) (nI 0)) 117 (N + j) (nI 0)) 118 (N + j) (nI 0)) 119 (N + j) (nI 0)) 120 (N + j) (nI 0) = m3
      have a3 : AgM [113, 114, 115, 116, 117, 118, 119, 120] [] m2 m3 := by
        rw [← hm3]
        exact (((((((AgM.rfl'.u2 (by simp) (by decide)).u2 (by simp) (by decide)).u2 (by simp) (by decide)).u2 (by simp) (by decide)).u2 (by simp) (by decide)).u2 (by simp) (by decide)).u2 (by simp) (by decide)).u2 (by simp) (by decide)
      have x113 : m3 113 = upd (m2 113) (N + j) (nI 0) := by rw [← hm3]; simp only [xu2_ne, xu2_eq, ne_eq, Nat.reduceEqDiff, not_false_eq_true]
      have x114 : m3 114 = upd (m2 114) (N + j) (-1) := by rw [← hm3]; simp only [xu2_ne, xu2_eq, ne_eq, Nat.reduceEqDiff, not_false_eq_true]
      have x115 : m3 115 = upd (m2 115) (N + j) (nI 0) := by rw [← hm3]; simp only [xu2_ne, xu2_eq, ne_eq, Nat.reduceEqDiff, not_false_eq_true]
      have x116 : m3 116 = upd (m2 116) (N + j) (nI 0) := by rw [← hm3]; simp only [xu2_ne, xu2_eq, ne_eq, Nat.reduceEqDiff, not_false_eq_true]
      have x117 : m3 117 = upd (m2 117) (N + j) (nI 0) := by rw [← hm3]; simp only [xu2_ne, xu2_eq, ne_eq, Nat.reduceEqDiff, not_false_eq_true]
      have x118 : m3 118 = upd (m2 118) (N + j) (nI 0) := by rw [← hm3]; simp only [xu2_ne, xu2_eq, ne_eq, Nat.reduceEqDiff, not_false_eq_true]
      have x119 : m3 119 = upd (m2 119) (N + j) (nI 0) := by rw [← hm3]; simp only [xu2_ne, xu2_eq, ne_eq, Nat.reduceEqDiff, not_false_eq_true]
      have x120 : m3 120 = upd (m2 120) (N + j) (nI 0) := by rw [← hm3]; simp only [xu2_ne, xu2_eq, ne_eq, Nat.reduceEqDiff, not_false_eq_true]
      have x121 : m3 121 = m2 121 := a3.1 121 (by decide) (by decide)
      have key2 := xloop (N := 8) (G := fun o => ∀ m4, AgM [121] [] m3 m4 → (∀ x y, x < 8 → y < 8 → m4 121 (8 * x + y) = if (x = N + j ∧ y < o) ∨ (y = N + j ∧ x < o) then nI 0 else m3 121 (8 * x + y)) → P 306 [.ref 108, .int (nI q'), .int (nI p'), .int (nI n'), v4, .int (nI (N + j)), .int (nI o)] [] (0, 0) (LAY, RFu 123, m4)) ?_ ?_
      · exact key2 m3 AgM.rfl' (fun x y _ _ => by rw [if_neg (by omega)])
      · intro m4 a4 h4
        refine b173_306 hP (fun _ => b173_347 hP ?_) (fun w => absurd (Int32.le_refl _) w)
        rw [nIs]
        have c4 : ∀ c, c ≠ 121 → c ≠ 108 → m4 c = m3 c := fun c h1 h2 => a4.1 c (by simpa using h1) h2
        refine ih m4 _ ⟨(hz.1.trans (a3.mono (by simp) (by simp))).trans (a4.mono (by simp) (by simp)), fun i h1 h2 => ?_, fun i hi => ?_, fun x y hx hy => ?_⟩
        · rw [c4 113 (by decide) (by decide), c4 114 (by decide) (by decide), c4 115 (by decide) (by decide), c4 116 (by decide) (by decide), c4 117 (by decide) (by decide), c4 118 (by decide) (by decide), c4 119 (by decide) (by decide), c4 120 (by decide) (by decide), x113, x114, x115, x116, x117, x118, x119, x120]
          by_cases e : i = N + j
          · rw [e]
            exact ⟨upd_at, upd_at, upd_at, upd_at, upd_at, upd_at, upd_at, upd_at⟩
          · rw [upd_ne e, upd_ne e, upd_ne e, upd_ne e, upd_ne e, upd_ne e, upd_ne e, upd_ne e]
            exact hz.2.1 i h1 (by omega)
        · have e : i ≠ N + j := by omega
          rw [c4 113 (by decide) (by decide), c4 114 (by decide) (by decide), c4 115 (by decide) (by decide), c4 116 (by decide) (by decide), c4 117 (by decide) (by decide), c4 118 (by decide) (by decide), c4 119 (by decide) (by decide), c4 120 (by decide) (by decide), x113, x114, x115, x116, x117, x118, x119, x120, upd_ne e, upd_ne e, upd_ne e, upd_ne e, upd_ne e, upd_ne e, upd_ne e, upd_ne e]
          exact hz.2.2.1 i hi
        · rw [h4 x y hx hy, x121, hz.2.2.2 x y hx hy]
          by_cases e1 : (x = N + j ∧ y < 8) ∨ (y = N + j ∧ x < 8)
          · rw [if_pos e1, if_pos (by omega)]
          · rw [if_neg e1]
            by_cases e2 : (N ≤ x ∧ x < N + j) ∨ (N ≤ y ∧ y < N + j)
            · rw [if_pos e2, if_pos (by omega)]
            · rw [if_neg e2, if_neg (by omega)]
      · intro o ho ih2 m4 a4 h4
        have i1 : nI 8 * nI (N + j) + nI o = nI (8 * (N + j) + o) := by rw [nI_mul, nI_add]
        have i2 : nI 8 * nI o + nI (N + j) = nI (8 * o + (N + j)) := by rw [nI_mul, nI_add]
        refine b173_306 hP (fun w => absurd w (nI_ge ho (by decide))) (fun _ => b173_313 hP (by rw [i1]; exact vpn (by omega) (by decide)) (by rw [i2]; exact vpn (by omega) (by decide)) ?_)
        rw [i1, i2, nIc (by omega), nIc (by omega), nIs]
        refine ih2 _ ((a4.u2 (by simp) (by decide)).u2 (by simp) (by decide)) (fun x y hx hy => ?_)
        rw [xu2_eq, xu2_eq]
        by_cases e1 : x = N + j ∧ y = o
        · rw [if_pos (by omega)]
          by_cases e2 : 8 * x + y = 8 * o + (N + j)
          · rw [e2, upd_at]
          · rw [upd_ne e2, e1.1, e1.2, upd_at]
        · by_cases e2 : y = N + j ∧ x = o
          · rw [if_pos (by omega), e2.1, e2.2, upd_at]
          · rw [upd_ne (by omega), upd_ne (by omega), h4 x y hx hy]
            by_cases e3 : (x = N + j ∧ y < o) ∨ (y = N + j ∧ x < o)
            · rw [if_pos e3, if_pos (by omega)]
            · rw [if_neg e3, if_neg (by omega)]
  -- nothing more to read
  have stop : ∀ m' v4 v5 v6, TSM m1 m' q' p' H' A' S' → RM m' 123 122 len 76 ee (-1) g → ok = true → ee ≤ min len 76 → P 194 [.ref 108, .int (nI q'), .int (nI p'), .int (nI n'), v4, v5, v6] [] (0, 0) (LAY, RFu 123, m') := fun m' v4 v5 v6 t hM hk hle => by
    obtain ⟨-, -, -, -, r22, r23, r24, -, r25, -, -⟩ := id hM
    refine b173_194 hP (fun w => ?_) (fun w => b173_205 hP (c170 (Bk.v ?_))) <;> rw [r22, r24, nI_leI (by omega) (by omega)] at w
    · exact good m' _ _ _ t r25 hk (by omega)
    · rw [if_pos r25, r24]
      exact f213 _ _ _ _ _ _ _ (t.ag (AgM.rfl'.us (by simp))) (by rw [xu2_eq, upd_at]) (by omega) (by omega)
  -- a line was read
  have done : ∀ m' b v4 v5 v6 q p n f H A S, (∀ a q p n H A S m' v5 v6, 77 ≤ a + f → 2 * n ≤ a → a ≤ min len 76 → RM m' 123 122 len 76 a (-1) g → TSM m1 m' q p H A S → TwI q p H S → trd g f a q p n H A S = (ok, ee, q', p', n', H', A', S') → P 48 [.ref 108, .int (nI q), .int (nI p), .int (nI n), .int (nI 1), v5, v6] [] (0, 0) (LAY, RFu 123, m')) →
      77 ≤ b + 1 + f → 2 * n ≤ b + 1 → b ≤ min len 76 → RM m' 123 122 len 76 b (-1) g → TSM m1 m' q p H A S → TwI q p H S → (if g b = 59 then trd g f (b + 1) q p n H A S else (true, b, q, p, n, H, A, S)) = (ok, ee, q', p', n', H', A', S') → ∀ n0, nI n0 + nI 1 = nI n → P 180 [.ref 108, .int (nI q), .int (nI p), .int (nI n0), v4, v5, v6] [] (0, 0) (LAY, RFu 123, m') := fun m' b v4 v5 v6 q p n f H A S ih hf hn hb hM t hI h n0 hn0 => by
    refine b173_180 hP (c171 (c := 59) hM (by decide) (fun w => Bk.i (b173_189 hP (b173_48 hP (fun _ => ?_) (fun z => absurd rfl z)))) (fun _ w => Bk.i (b173_189 hP ?_)))
    · have w : ¬ g b = 59 := fun q => w ⟨rfl, q⟩
      rw [if_neg w] at h
      simp only [Prod.mk.injEq] at h
      obtain ⟨rfl, rfl, rfl, rfl, rfl, rfl, rfl, rfl⟩ := h
      rw [hn0]
      exact stop m' _ _ _ t hM rfl hb
    · rw [if_pos w] at h
      rw [hn0]
      have hlt := hlim b (by omega)
      exact ih (b + 1) q p n H A S _ _ _ (by omega) (by omega) (by omega) (RM_mv (W := []) (V := [24]) hM (AgM.rfl'.us (by simp)) (by simp) (by simp) (by simp) (by rw [xu2_eq, upd_at]) (by omega) (by rw [xu2_eq, upd_ne (by decide)]; exact hM.2.2.2.2.2.2.2.2.1)) (t.ag (AgM.rfl'.us (by simp))) hI h
  have main : ∀ f a q p n H A S m' v5 v6, 77 ≤ a + f → 2 * n ≤ a → a ≤ min len 76 → RM m' 123 122 len 76 a (-1) g → TSM m1 m' q p H A S → TwI q p H S → trd g f a q p n H A S = (ok, ee, q', p', n', H', A', S') → P 48 [.ref 108, .int (nI q), .int (nI p), .int (nI n), .int (nI 1), v5, v6] [] (0, 0) (LAY, RFu 123, m') := by
    intro f
    induction f with
    | zero =>
      intro a q p n H A S m' v5 v6 hf hn ha
      omega
    | succ f ih =>
      intro a q p n H A S m' v5 v6 hf hn ha hM t hI h
      obtain ⟨-, -, -, -, r22, r23, r24, -, r25, -, -⟩ := id hM
      have hga := RM_le hM a
      have hq4 := hI.1
      have hp8 := hI.2.1
      unfold trd at h
      refine b173_48 hP (fun z => absurd z (by decide)) (fun _ => b173_53 hP (c169 (Bk.i (b173_57 hP (fun z => absurd z (by rw [b01_t r25]; decide)) (fun _ => b173_60 hP (c168 hM (Bk.i (b173_64 hP (fun z => ?_) (fun z => ?_)))))))))
      · have c1 : g a ≠ 114 := fun w => z ((hr_eq (by decide)).mpr w)
        rw [if_neg c1] at h
        refine b173_137 hP (fun z2 => ?_) (fun z2 => b173_143 hP (c170 (Bk.v (b173_151 hP ?_))))
        · have c2 : p ≠ 8 := fun w => z2 (by rw [w])
          rw [if_neg c2] at h
          have v8 : vp_in (nI p) 8 := vpn (by omega) (by decide)
          refine b173_154 hP (c172 (dd := 2) hM (by omega) (by decide) fun m3 a3 h24 h25 => Bk.i (b173_164 hP v8 ?_))
          rw [nIc (by omega)]
          have nl := numF_le (g := g) (d := 2) (a := a) (v := 0)
          have hM3 : RM (xu2 m3 110 p (nI (numF g 2 a 0).2)) 123 122 len 76 (numF g 2 a 0).1 (if (numF g 2 a 0).1 = a then nI a else -1) g := RM_mv (W := [110]) (V := [24, 25]) hM ((a3.mono (by simp) (by simp)).u2 (by simp) (by decide)) (by decide) (by decide) (by decide) (by rw [xu2_ne (by decide), h24]) (by omega) (by rw [xu2_ne (by decide), h25])
          have t3 : ∀ (m4 : Nat → Nat → Int32) (y : Int32) (V : List Nat), AgM [] V (xu2 m3 110 p (nI (numF g 2 a 0).2)) m4 → V = [24] ∨ V = [] → TSM m1 (xu2 m4 111 p y) q p H A S ∧ (xu2 m4 111 p y) 110 p = nI (numF g 2 a 0).2 ∧ (xu2 m4 111 p y) 111 p = y := fun m4 y V a4 hV => by
            have a4 : AgM [] [24] (xu2 m3 110 p (nI (numF g 2 a 0).2)) m4 := a4.mono (by simp) (by rcases hV with w | w <;> rw [w] <;> simp)
            obtain ⟨t1, t2, t3, t4⟩ := t.ag (a3.mono (by simp) (by simp))
            have e110 : xu2 m4 111 p y 110 = upd (m3 110) p (nI (numF g 2 a 0).2) := by rw [xu2_ne (by decide), a4.1 110 (by simp) (by decide), xu2_eq]
            have e111 : xu2 m4 111 p y 111 = upd (m3 111) p y := by rw [xu2_eq, a4.1 111 (by simp) (by decide), xu2_ne (by decide)]
            refine ⟨⟨((t1.u2 (by simp) (by decide)).trans (a4.mono (by simp) (by simp))).u2 (by simp) (by decide), ?_, fun i hi => ?_, fun i hi => ?_⟩, by rw [e110, upd_at], by rw [e111, upd_at]⟩
            · rw [xu2_ne (by decide), a4.2 17 (by simp), xu2_ne (by decide), t2]
            · rw [xu2_ne (by decide), a4.1 109 (by simp) (by decide), xu2_ne (by decide)]; exact t3 i hi
            · rw [e110, e111, upd_ne (by omega), upd_ne (by omega)]; exact t4 i hi
          by_cases c3 : 48 ≤ g a ∧ g a ≤ 57
          · rw [if_pos c3] at h
            have hgt : (numF g 2 a 0).1 ≠ a := by
              have := (numF_le (g := g) (d := 1) (a := a + 1) (v := 10 * 0 + (g a - 48))).1
              rw [numF_s, if_pos c3]; omega
            have hnl : (numF g 2 a 0).1 ≤ min len 76 := by
              have h0 := hlim a (by omega)
              rw [numF_s, if_pos c3, numF_s]
              split
              · rename_i w
                have := hlim (a + 1) (by omega)
                show a + 1 + 1 ≤ _
                omega
              · exact h0
            rw [if_neg hgt] at hM3
            have hge := tbF_ge c3
            have hI2 := hI.p c2 (tsF_01 (g := g) (a := a))
            have fin : ∀ m4 y, AgM [] [24] (xu2 m3 110 p (nI (numF g 2 a 0).2)) m4 → RM m4 123 122 len 76 (tbF g a) (-1) g → tbF g a ≤ min len 76 → y = tsF g a → P 176 [.ref 108, .int (nI q), .int (nI p), .int (nI n), .int (nI 1), v5, v6] [.int y, .int (nI p), .ref 111] (0, 0) (LAY, RFu 123, m4) := fun m4 y a4 hM4 hle hy => by
              subst hy
              have ey : xNar 15 (tsF g a) = tsF g a := by rcases tsF_01 (g := g) (a := a) with w | w <;> rw [w] <;> decide
              refine b173_176 hP v8 ?_
              rw [nIc (by omega), ey, nIs]
              obtain ⟨y1, y2, y3⟩ := t3 m4 (tsF g a) [24] a4 (Or.inl rfl)
              have hM5 : RM (xu2 m4 111 p (tsF g a)) 123 122 len 76 (tbF g a) (-1) g := RM_mv (W := [111]) (V := []) hM4 (AgM.rfl'.u2 (by simp) (by decide)) (by decide) (by simp) (by simp) (by rw [xu2_ne (by decide)]; exact hM4.2.2.2.2.2.2.1) (by omega) (by rw [xu2_ne (by decide)]; exact hM4.2.2.2.2.2.2.2.2.1)
              refine done _ (tbF g a) _ _ _ q (p + 1) (n + 1) f H _ _ ih (by omega) (by omega) hle hM5 ⟨y1.1, y1.2.1, y1.2.2.1, fun i hi => ?_⟩ hI2 h n (nIs n)
              by_cases e : i = p
              · rw [e, y2, y3, upd_at, upd_at]; exact ⟨rfl, rfl⟩
              · rw [upd_ne e, upd_ne e]; exact y1.2.2.2 i (by omega)
            refine c171 (c := 33) hM3 (by decide) (fun w => Bk.i (fin _ _ AgM.rfl' ?_ ?_ ?_)) (fun _ w => Bk.i (fin _ _ (AgM.rfl'.us (by simp)) ?_ ?_ ?_))
            · have w : ¬ g (numF g 2 a 0).1 = 33 := fun q => w ⟨rfl, q⟩
              unfold tbF; rw [if_neg w]; exact hM3
            · have w : ¬ g (numF g 2 a 0).1 = 33 := fun q => w ⟨rfl, q⟩
              unfold tbF; rw [if_neg w]; exact hnl
            · have w : ¬ g (numF g 2 a 0).1 = 33 := fun q => w ⟨rfl, q⟩
              unfold tsF; rw [if_neg w]
            · unfold tbF; rw [if_pos w]
              exact RM_mv (W := []) (V := [24]) hM3 (AgM.rfl'.us (by simp)) (by simp) (by simp) (by simp) (by rw [xu2_eq, upd_at]) (by omega) (by rw [xu2_eq, upd_ne (by decide)]; exact hM3.2.2.2.2.2.2.2.2.1)
            · unfold tbF; rw [if_pos w]
              exact hlim _ (by omega)
            · unfold tsF; rw [if_pos w]
          · rw [if_neg c3] at h
            simp only [Prod.mk.injEq] at h
            obtain ⟨rfl, rfl, rfl, rfl, rfl, rfl, rfl, rfl⟩ := h
            have e2 : numF g 2 a 0 = (a, 0) := by rw [numF_s, if_neg c3]
            have e21 : (numF g 2 a 0).1 = a := by rw [e2]
            rw [if_pos e21, e21] at hM3
            refine c171 (c := 33) hM3 (by decide) (fun w => Bk.i (b173_176 hP v8 ?_)) (fun w _ => absurd w (nI_nm (by omega)))
            rw [nIc (by omega)]
            obtain ⟨y1, -, -⟩ := t3 _ (xNar 15 (nI 0)) [] AgM.rfl' (Or.inr rfl)
            exact f180 _ a _ _ _ _ _ _ y1 (RM_mv (W := [111]) (V := []) hM3 (AgM.rfl'.u2 (by simp) (by decide)) (by decide) (by simp) (by simp) (by rw [xu2_ne (by decide)]; exact hM3.2.2.2.2.2.2.1) (by omega) (by rw [xu2_ne (by decide)]; exact hM3.2.2.2.2.2.2.2.2.1)) (by omega) rfl
        · have c2 : p = 8 := nI_inj z2 (by omega) (by decide)
          rw [if_pos c2] at h
          simp only [Prod.mk.injEq] at h
          obtain ⟨rfl, rfl, rfl, rfl, rfl, rfl, rfl, rfl⟩ := h
          rw [if_pos r25, r24]
          exact f180 _ a _ _ _ _ _ _ (t.ag (AgM.rfl'.us (by simp))) (RM_mv (W := []) (V := [25]) hM (AgM.rfl'.us (by simp)) (by simp) (by simp) (by simp) (by rw [xu2_eq, upd_ne (by decide), r24]) (by omega) (by rw [xu2_eq, upd_at])) (by omega) rfl
      · have c1 : g a = 114 := (hr_eq (by decide)).mp z
        have hal := hlim a (by omega)
        rw [if_pos c1] at h
        refine b173_69 hP (fun z2 => ?_) (fun z2 => b173_74 hP (c170 (Bk.v (b173_82 hP (b173_131 hP ?_)))))
        · have c2 : q ≠ 4 := fun w => z2 (by rw [w])
          rw [if_neg c2] at h
          have v4 : vp_in (nI q) 4 := vpn (by omega) (by decide)
          have hM2 : RM (xu2 m' 108 24 (nI (a + 1))) 123 122 len 76 (a + 1) (-1) g := RM_mv (W := []) (V := [24]) hM (AgM.rfl'.us (by simp)) (by simp) (by simp) (by simp) (by rw [xu2_eq, upd_at]) (by omega) (by rw [xu2_eq, upd_ne (by decide), r25])
          have t2 : TSM m1 (xu2 m' 108 24 (nI (a + 1))) q p H A S := t.ag (AgM.rfl'.us (by simp))
          refine b173_85 hP ?_
          rw [r24, nIs]
          generalize xu2 m' 108 24 (nI (a + 1)) = m3 at hM2 t2
          have hga2 := RM_le hM2 (a + 1)
          have hd : ∀ x < 257, (nI 48 ≤ hr x ∧ hr x ≤ nI 56) ↔ (48 ≤ x ∧ x ≤ 56) := by decide +kernel
          have hd := hd (g (a + 1)) (by omega)
          have h24' : m3 108 24 = nI (a + 1) := hM2.2.2.2.2.2.2.1
          have h25' : m3 108 25 = -1 := hM2.2.2.2.2.2.2.2.2.1
          refine c168 hM2 (Bk.i (b173_99 hP (c158 (Bk.i (b173_106 hP (fun z3 => b173_123 hP (c170 (Bk.v (b173_131 hP ?_)))) (fun z3 => ?_))))))
          · have c3 : ¬ (48 ≤ g (a + 1) ∧ g (a + 1) ≤ 56) := fun w => b01_0.mp z3 (hd.mpr w)
            rw [if_neg c3] at h
            simp only [Prod.mk.injEq] at h
            obtain ⟨rfl, rfl, rfl, rfl, rfl, rfl, rfl, rfl⟩ := h
            rw [if_pos h25', h24']
            exact f180 _ (a + 1) _ _ _ _ _ _ (t2.ag (AgM.rfl'.us (by simp))) (RM_mv (W := []) (V := [25]) hM2 (AgM.rfl'.us (by simp)) (by simp) (by simp) (by simp) (by rw [xu2_eq, upd_ne (by decide), h24']) (by omega) (by rw [xu2_eq, upd_at])) (by omega) rfl
          · have c3 : 48 ≤ g (a + 1) ∧ g (a + 1) ≤ 56 := hd.mp (Decidable.by_contra fun w => z3 (b01_f w))
            rw [if_pos c3] at h
            have hal2 := hlim (a + 1) (by omega)
            have e2 : numF g 1 (a + 1) 0 = (a + 1 + 1, g (a + 1) - 48) := by
              rw [numF_s, if_pos ⟨c3.1, by omega⟩]
              show (a + 1 + 1, 10 * 0 + (g (a + 1) - 48)) = _
              rw [Nat.mul_zero, Nat.zero_add]
            refine b173_109 hP (c172 (dd := 1) hM2 (by omega) (by decide) fun m4 a4 h24 h25 => Bk.i (b173_119 hP v4 (b173_131 hP ?_)))
            rw [e2] at h24 h25 ⊢
            rw [if_neg (by show ¬ a + 1 + 1 = a + 1; omega)] at h25
            rw [nIc (by omega), nIs]
            obtain ⟨t1', t2', t3', t4'⟩ := t2.ag (a4.mono (by simp) (by simp))
            have hM5 : RM (xu2 m4 109 q (nI (g (a + 1) - 48))) 123 122 len 76 (a + 1 + 1) (-1) g := RM_mv (W := [109]) (V := [24, 25]) hM2 ((a4.mono (by simp) (by simp)).u2 (by simp) (by decide)) (by decide) (by decide) (by decide) (by rw [xu2_ne (by decide)]; exact h24) (by omega) (by rw [xu2_ne (by decide)]; exact h25)
            refine done _ (a + 1 + 1) _ _ _ (q + 1) p (n + 1) f _ _ _ ih (by omega) (by omega) (by omega) hM5 ⟨t1'.u2 (by simp) (by decide), by rw [xu2_ne (by decide), t2'], fun i hi => ?_, fun i hi => by rw [xu2_ne (by decide), xu2_ne (by decide)]; exact t4' i hi⟩ (hI.r c2 (by omega)) h n (nIs n)
            rw [xu2_eq]
            by_cases e : i = q
            · rw [e, upd_at, upd_at]
            · rw [upd_ne e, upd_ne e]; exact t3' i (by omega)
        · have c2 : q = 4 := nI_inj z2 (by omega) (by decide)
          rw [if_pos c2] at h
          simp only [Prod.mk.injEq] at h
          obtain ⟨rfl, rfl, rfl, rfl, rfl, rfl, rfl, rfl⟩ := h
          rw [if_pos r25, r24]
          exact f180 _ a _ _ _ _ _ _ (t.ag (AgM.rfl'.us (by simp))) (RM_mv (W := []) (V := [25]) hM (AgM.rfl'.us (by simp)) (by simp) (by simp) (by simp) (by rw [xu2_eq, upd_ne (by decide), r24]) (by omega) (by rw [xu2_eq, upd_at])) (by omega) rfl
  refine b173_33 hP ?_
  rw [b1.1.2 0 (by decide), b1.1.2 2 (by decide), hR, hN]
  exact main 77 0 R N 0 H A S m2 _ _ (by decide) (by decide) (by omega) hM b1 hI hX
end K
/-! town, both -/
theorem RK1_more {m m' : Nat → Nat → Int32} {N R B came N' R' came' i : Nat} (h : RK1 m N R B came i) (hN : N ≤ N') (hR : R ≤ R') (hc : came' = (if R < R' ∨ N < N' then came + 1 else came))
    (e : Eqs [68 + i, 71 + i, 74 + i, 76, 77, 141, 142, 143] [] m m') : RK1 m' N' R' B came' i := by
  unfold RK1 at h ⊢
  rw [e.1 76 (by simp), e.1 77 (by simp), e.1 141 (by simp), e.1 142 (by simp), e.1 143 (by simp), e.1 (68 + i) (by simp), e.1 (71 + i) (by simp), e.1 (74 + i) (by simp)]
  rcases h with h | ⟨h1, n', r', kc, h2, h3, h4, h5, h6, h7, h8, h9⟩
  · exact Or.inl h
  · by_cases w : R < R' ∨ N < N'
    · rw [if_pos w] at hc
      refine Or.inr ⟨h1, n', r', kc, h2, h3, h4, by omega, by omega, by omega, ⟨fun z => absurd z (by omega), fun z => absurd z (by omega)⟩, fun z => absurd z (by omega)⟩
    · rw [if_neg w] at hc
      have e1 : N' = N := by omega
      have e2 : R' = R := by omega
      subst hc
      rw [e1, e2]
      exact Or.inr ⟨h1, n', r', kc, h2, h3, h4, h5, h6, h7, h8, h9⟩
theorem tk_town : Tk 100 173 [] := by
  intro N R B r mem Q h hB K
  obtain ⟨p0, pch, ppe, ppl, psh, pr0, pr1⟩ := RTo_parts h.2.2.1
  obtain ⟨hR, hR4, hN, hN8, hR2, hN2⟩ := id p0
  obtain ⟨len, tx, hT, hT2⟩ := id h.1
  have hI : TwI R N (mem 6) (mem 8) := ⟨hR4, hN8, fun i hi => by obtain ⟨h, q1, q2, -⟩ := pch i hi; exact ⟨h, q1, q2⟩, fun i hi => (ppe i hi).2.2⟩
  have hH : ∀ i, i < R → mem 109 i = mem 6 i := fun i hi => by obtain ⟨h, q1, q2, q3⟩ := pch i (by omega); rw [q2, q3 hi]
  have hA : ∀ i, i < N → mem 110 i = mem 7 i ∧ mem 111 i = mem 8 i := fun i hi => by obtain ⟨q1, q2, q3⟩ := ppe i hi; exact ⟨q1.symm, q2.symm⟩
  obtain ⟨ok, ee, q', p', n', H', A', S', hX⟩ : ∃ ok ee q' p' n' H' A' S', trd (gT tx len 76) 77 0 R N 0 (mem 6) (mem 7) (mem 8) = (ok, ee, q', p', n', H', A', S') := ⟨_, _, _, _, _, _, _, _, rfl⟩
  obtain ⟨hI', hRq, hNp, -, hn77, hnp⟩ := trd_ok hI hX
  obtain ⟨hq4, hp8, hH', hS'⟩ := id hI'
  have txt : ∀ m2 : Nat → Nat → Int32, m2 1 1 = nI 0 → m2 108 17 = nI 0 → RTx m2 := fun m2 e1 e2 => ⟨0, tx, ⟨e1, by omega, fun i hi => absurd hi (Nat.not_lt_zero i)⟩, ⟨e2, by omega, fun i hi => absurd hi (Nat.not_lt_zero i)⟩⟩
  -- the town stays
  have same : ∀ m1 m2, Ag [1, 5, 6, 7, 8] mem m1 → AgM [109, 110, 111] [17, 20, 22, 23, 24, 25] m1 m2 → m1 1 1 = nI 0 → m2 108 17 = nI 0 → m1 5 0 = nI R → m1 5 1 = nI N → RTch m2 R → RTpe m2 N → RRc m2 N R B := fun m1 m2 g1 g2 e1 e17 e50 e51 ch pe => by
    refine ⟨txt m2 (by rw [g2.1 1 (by decide) (by decide), e1]) e17, kRw h g1 g2 (by decide), RTo_of ⟨by rw [g2.1 5 (by decide) (by decide), e50], hR4, by rw [g2.1 5 (by decide) (by decide), e51], hN8, ?_, ?_⟩ ch pe (ppl.mv (dj_eqs g1 g2 (by decide))) (psh.mv (dj_eqs g1 g2 (by decide))) (pr0.mv (by decide) (dj_eqs g1 g2 (by decide))) (pr1.mv (by decide) (dj_eqs g1 g2 (by decide))), kSt h g1 g2 (by decide), kUn h g1 g2 (by decide), kOl h g1 g2 (by decide), kKe h g1 g2 (by decide), kZe h g1 g2 (by decide)⟩
    · rw [g2.2 0 (by decide), g1 108 (by decide), hR2]
    · rw [g2.2 2 (by decide), g1 108 (by decide), hN2]
  have mod : ∀ m1 : Nat → Nat → Int32, (∀ c, 108 ≤ c → m1 c = mem c) → TxM m1 len tx ∧ m1 108 0 = nI R ∧ m1 108 2 = nI N ∧ (∀ i, i < R → m1 109 i = mem 6 i) ∧ ∀ i, i < N → m1 110 i = mem 7 i ∧ m1 111 i = mem 8 i := fun m1 e => by
    unfold TxM at hT2 ⊢
    rw [e 108 (by decide), e 122 (by decide), e 109 (by decide), e 110 (by decide), e 111 (by decide)]
    exact ⟨hT2, hR2, hN2, hH, hA⟩
  refine c_in rfl rfl rfl fun P hP => b100_0 hP (c84 hT hR hN hI hX (fun hl m1 a1 e50 e51 => Bk.i (b100_11 hP (fun _ => b100_28 hP (fun _ => b100_39 hP (c73 (Bk.v (b100_46 hP (K _ _ ?_))))) (fun z => absurd (Int32.le_refl _) z)) (fun z => absurd z (by decide)))) (fun hl hno m1 t1 e12 => Bk.i (b100_11 hP (fun z => absurd rfl z) (fun _ => b100_17 hP (c80 (Bk.i (b100_24 hP (b100_39 hP (c73 (Bk.v (b100_46 hP ?_))))))))))
    (fun hl hk he m1 a1 e50 e51 o6 o7 o8 => Bk.i (b100_11 hP (fun _ => b100_28 hP (fun z => absurd z ?_) (fun _ => b100_32 hP (c27 (Bk.v (b100_39 hP (c73 (Bk.v (b100_46 hP (K _ _ ?_))))))))) (fun z => absurd z (nI_nm (by omega))))))
  · intro Q2 k2
    have b1 : Ag [1, 5] mem (xu2 m1 1 1 (nI 0)) := a1.u2 (by simp)
    have f5 : xu2 m1 1 1 (nI 0) 5 = m1 5 := xu2_ne (by decide)
    obtain ⟨y1, y2, y3, y4, y5⟩ := mod _ (fun c hc => b1 c (by simp; omega))
    refine m173 (d := 295) y1 y2 y3 hI y4 y5 hX (fun _ r2 m2 g2 e17 => k2 _ _ (kEnd (N := N) (R := R) (same _ m2 (b1.mono (by simp)) (g2.mono (by simp) (by simp)) (by rw [xu2_eq, upd_at]) e17 (by rw [f5, e50]) (by rw [f5, e51]) (pch.mv (dj_eqs b1 g2 (by decide))) (ppe.mv (dj_eqs b1 g2 (by decide)))) hB)) (fun q => absurd hl q) (fun q => absurd hl q)
  · rw [e12]
    refine K _ _ ?_
    intro Q2 k2
    obtain ⟨t1, t2, t3, t4, t5, t6, t7, t8⟩ := t1
    have b1 : Ag [1, 5, 6, 7, 8] mem (xu2 m1 1 1 (nI 0)) := t1.u2 (by simp)
    have f : ∀ c, c ≠ 1 → xu2 m1 1 1 (nI 0) c = m1 c := fun c hc => xu2_ne hc
    obtain ⟨y1, y2, y3, y4, y5⟩ := mod _ (fun c hc => b1 c (by simp; omega))
    refine m173 (d := 295) y1 y2 y3 hI y4 y5 hX (fun q => absurd q hl) (fun _ _ r2 m2 w => k2 _ _ (kEnd (N := N) (R := R) (same _ m2 b1 w.1 (by rw [xu2_eq, upd_at]) w.2.1 (by rw [f 5 (by decide), t2, hR]) (by rw [f 5 (by decide), t3, hN]) ?_ ?_) hB)) (fun _ hk he => absurd ⟨hk, he⟩ hno)
    · intro i hi
      obtain ⟨x, x1, x2⟩ := hH' i hi
      refine ⟨x, x1, ?_, fun hiR => ?_⟩
      · rw [w.1.1 6 (by decide) (by decide), f 6 (by decide), t6, x2]
      · rw [w.2.2.1 i (by omega), x2]
    · intro i hi
      obtain ⟨x1, x2⟩ := w.2.2.2 i (by omega)
      rw [w.1.1 7 (by decide) (by decide), f 7 (by decide), t7, w.1.1 8 (by decide) (by decide), f 8 (by decide), t8]
      exact ⟨x1.symm, x2.symm, hS' i (by omega)⟩
  · have := hnp hk
    exact nI_nle (by omega) (by omega)
  · intro Q2 k2
    generalize hm1 : xu2 (xu2 m1 55 0 (nI 0)) 1 1 (nI 0) = m1'
    have b1 : Ag [1, 5, 6, 7, 8, 55] mem m1' := by rw [← hm1]; exact ((a1.mono (by simp)).u2 (by simp)).u2 (by simp)
    have f : ∀ c, c ≠ 1 → c ≠ 55 → m1' c = m1 c := fun c h1 h2 => by rw [← hm1, xu2_ne h1, xu2_ne h2]
    have f55 : m1' 55 = upd (mem 55) 0 (nI 0) := by rw [← hm1, xu2_ne (by decide), xu2_eq, a1 55 (by decide)]
    have f11 : m1' 1 1 = nI 0 := by rw [← hm1, xu2_eq, upd_at]
    obtain ⟨y1, y2, y3, y4, y5⟩ := mod m1' (fun c hc => b1 c (by simp; omega))
    refine m173 (d := 295) y1 y2 y3 hI y4 y5 hX (fun q => absurd q hl) (fun _ hno => absurd ⟨hk, he⟩ hno) (fun _ _ _ r2 m0 m2 m3 w z a3 z0 z2 z37 z47 => k2 _ _ (kEnd2 (N := p') (R := q') (B' := B + 1) ?_ (by omega) hB))
    have g2 : AgM [109, 110, 111, 113, 114, 115, 116, 117, 118, 119, 120, 121] [0, 2, 17, 20, 22, 23, 24, 25, 37, 47] m1' m3 := ((w.1.mono (by simp) (by simp)).trans (z.1.mono (by simp) (by simp))).trans (a3.mono (by simp) (by simp))
    have n3 : ∀ c, c ≠ 108 → m3 c = m2 c := fun c hc => a3.1 c (by simp) hc
    have n2 : ∀ c, c ∉ [113, 114, 115, 116, 117, 118, 119, 120, 121] → c ≠ 108 → m3 c = m0 c := fun c h1 h2 => by rw [n3 c h2, z.1.1 c h1 h2]
    have n1 : ∀ c, c ∉ [1, 55, 109, 110, 111, 113, 114, 115, 116, 117, 118, 119, 120, 121] → c ≠ 108 → m3 c = m1 c := fun c h1 h2 => by
      rw [g2.1 c (by simp at h1 ⊢; omega) h2, f c (by simp at h1; omega) (by simp at h1; omega)]
    have o : ∀ c, c ∈ [113, 114, 115, 116, 117, 118, 119, 120, 121] → m0 c = mem c := fun c hc => by
      rw [w.1.1 c (by simp at hc ⊢; omega) (by simp at hc; omega), b1 c (by simp at hc ⊢; omega)]
    refine ⟨txt m3 (by rw [g2.1 1 (by decide) (by decide), f11]) (by rw [a3.2 17 (by decide), z.1.2 17 (by simp), w.2.1]), kRw h b1 g2 (by decide), RTo_of ⟨by rw [n1 5 (by decide) (by decide), e50], hq4, by rw [n1 5 (by decide) (by decide), e51], hp8, z0, z2⟩ ?_ ?_ ?_ (psh.mv (dj_eqs b1 g2 (by decide))) (pr0.mv (by decide) (dj_eqs b1 g2 (by decide))) (pr1.mv (by decide) (dj_eqs b1 g2 (by decide))), ?_, ?_, ?_, ?_, kZe h b1 g2 (by decide)⟩
    · intro i hi
      obtain ⟨x, x1, x2⟩ := hH' i hi
      refine ⟨x, x1, ?_, fun hiR => ?_⟩
      · rw [n1 6 (by decide) (by decide), o6, x2]
      · rw [n2 109 (by decide) (by decide), w.2.2.1 i hiR, x2]
    · intro i hi
      obtain ⟨x1, x2⟩ := w.2.2.2 i hi
      rw [n1 7 (by decide) (by decide), o7, n1 8 (by decide) (by decide), o8, n2 110 (by decide) (by decide), n2 111 (by decide) (by decide)]
      exact ⟨x1.symm, x2.symm, hS' i hi⟩
    · intro p hp
      obtain ⟨L, l1, l2, l3, l4⟩ := ppl p hp
      have i10 : ∀ p < 8, 10 + p ∉ [1, 55, 109, 110, 111, 113, 114, 115, 116, 117, 118, 119, 120, 121] ∧ 10 + p ≠ 108 ∧ 10 + p ∉ [1, 5, 6, 7, 8] := by decide
      obtain ⟨i1, i2, i3⟩ := i10 p hp
      rw [n1 18 (by decide) (by decide), a1 18 (by decide), n1 (10 + p) i1 i2, a1 (10 + p) i3, n2 112 (by decide) (by decide), w.1.1 112 (by decide) (by decide), b1 112 (by decide), n3 113 (by decide)]
      refine ⟨L, l1, l2, fun q => l3 (by omega), fun q => ?_⟩
      by_cases hpN : p < N
      · obtain ⟨x1, x2⟩ := l4 hpN
        rw [(z.2.2.1 p hpN).1, o 113 (by decide)]
        refine ⟨x1, fun k hk => ⟨(x2 k hk).1, (x2 k hk).2.elim Or.inl (fun ⟨rm, u1, u2⟩ => Or.inr ⟨rm, by omega, u2⟩)⟩⟩
      · have hL := l3 (by omega)
        rw [(z.2.1 p (by omega) q).1, hL]
        exact ⟨rfl, fun k hk => absurd hk (by omega)⟩
    · obtain ⟨hM, hS⟩ := h.2.2.2.1
      have e48 : m3 48 = mem 48 := by rw [n1 48 (by decide) (by decide), a1 48 (by decide)]
      refine ⟨?_, ?_⟩
      · rw [e48]
        refine ⟨fun p hp => ?_, fun g hg => ?_, ?_⟩
        · rw [n3 114 (by decide), n3 115 (by decide), n3 116 (by decide), n3 117 (by decide), n3 118 (by decide), n3 119 (by decide), n3 120 (by decide)]
          by_cases hpN : p < N
          · obtain ⟨-, x2, x3, x4, x5, x6, x7, x8⟩ := z.2.2.1 p hpN
            rw [x2, x3, x4, x5, x6, x7, x8, o 114 (by decide), o 115 (by decide), o 116 (by decide), o 117 (by decide), o 118 (by decide), o 119 (by decide), o 120 (by decide)]
            exact hM.1 p hpN
          · obtain ⟨-, x2, x3, x4, x5, x6, x7, x8⟩ := z.2.1 p (by omega) hp
            obtain ⟨s1, s2⟩ := hS.2.2.2.1 p (by omega) (by omega)
            rw [x2, x3, x4, x5, x6, x7, x8, s1, s2 1 (by decide) (by decide), s2 2 (by decide) (by decide), s2 3 (by decide) (by decide), s2 4 (by decide) (by decide), s2 5 (by decide) (by decide), s2 6 (by decide) (by decide)]
            exact ⟨rfl, by decide, rfl, rfl, rfl, rfl, rfl⟩
        · have e : g = 8 * (g / 8) + g % 8 := by omega
          rw [n3 121 (by decide), e, z.2.2.2 (g / 8) (g % 8) (by omega) (by omega), o 121 (by decide)]
          by_cases q : (N ≤ g / 8 ∧ g / 8 < p') ∨ (N ≤ g % 8 ∧ g % 8 < p')
          · rw [if_pos q, hS.2.2.2.2.1 (g / 8) (g % 8) (by omega) (by omega) (by omega)]; rfl
          · rw [if_neg q]; exact hM.2.1 _ (by omega)
        · rw [g2.2 15 (by decide), b1 108 (by decide)]; exact hM.2.2
      · rw [e48]
        exact (hS.more hNp hp8).mono hRq (by omega)
    · obtain ⟨u, fr, -, -, u3, u4, -, -⟩ := h.2.2.2.2.1
      exact RUn_0 (fr := fr) (by rw [g2.1 55 (by decide) (by decide), f55, upd_at]) (by rw [g2.1 55 (by decide) (by decide), f55, upd_ne (by decide), u3]) u4 z37
    · obtain ⟨T, x1, x2, x3, x4⟩ := kOl h b1 g2 (by decide)
      refine ⟨T, x1, x2, x3, fun k hk => ?_⟩
      obtain ⟨p, s, v1, v2⟩ := x4 k hk
      exact ⟨p, s, by omega, v2⟩
    · obtain ⟨came, c1, ⟨c2, c3⟩, c4, c5⟩ := h.2.2.2.2.2.2.1
      have e47 : m1' 108 47 = nI came := by rw [b1 108 (by decide), c2]
      rw [e47, nIs] at z47
      refine ⟨if R < q' ∨ N < p' then came + 1 else came, ?_, ⟨?_, ?_⟩, (RK1_more c4 hNp hRq rfl (dj_eqs b1 g2 (by decide))).mono (by omega), (RK1_more c5 hNp hRq rfl (dj_eqs b1 g2 (by decide))).mono (by omega)⟩
      · split <;> omega
      · rw [z47]
        split <;> rfl
      · rw [g2.1 91 (by decide) (by decide), b1 91 (by decide), c3]
