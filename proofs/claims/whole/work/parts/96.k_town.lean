/-! town -/
abbrev xTw : Type := Bool × Nat × Nat × Nat × Nat × (Nat → Int32) × (Nat → Int32) × (Nat → Int32)
def tbF (g : Nat → Nat) (a : Nat) : Nat := if g (numF g 2 a 0).1 = 33 then (numF g 2 a 0).1 + 1 else (numF g 2 a 0).1
def tsF (g : Nat → Nat) (a : Nat) : Int32 := if g (numF g 2 a 0).1 = 33 then nI 1 else nI 0
def trd (g : Nat → Nat) : Nat → Nat → Nat → Nat → Nat → (Nat → Int32) → (Nat → Int32) → (Nat → Int32) → xTw
  | 0, a, q, p, n, H, A, S => (false, a, q, p, n, H, A, S)
  | f + 1, a, q, p, n, H, A, S =>
    if g a = 114 then
      if q = 4 then (false, a, q, p, n, H, A, S)
      else if 48 ≤ g (a + 1) ∧ g (a + 1) ≤ 56 then
        if g (a + 1 + 1) = 59 then trd g f (a + 1 + 1 + 1) (q + 1) p (n + 1) (upd H q (nI (g (a + 1) - 48))) A S else (true, a + 1 + 1, q + 1, p, n + 1, upd H q (nI (g (a + 1) - 48)), A, S)
      else (false, a + 1, q, p, n, H, A, S)
    else if p = 8 then (false, a, q, p, n, H, A, S)
    else if 48 ≤ g a ∧ g a ≤ 57 then
      if g (tbF g a) = 59 then trd g f (tbF g a + 1) q (p + 1) (n + 1) H (upd A p (nI (numF g 2 a 0).2)) (upd S p (tsF g a)) else (true, tbF g a, q, p + 1, n + 1, H, upd A p (nI (numF g 2 a 0).2), upd S p (tsF g a))
    else (false, a, q, p, n, H, A, S)
def TwI (q p : Nat) (H S : Nat → Int32) : Prop := q ≤ 4 ∧ p ≤ 8 ∧ (∀ i, i < 4 → ∃ h, h ≤ 8 ∧ H i = nI h) ∧ ∀ i, i < p → S i = 0 ∨ S i = 1
theorem TwI.r {q p x : Nat} {H S : Nat → Int32} (h : TwI q p H S) (hq : q ≠ 4) (hx : x ≤ 8) : TwI (q + 1) p (upd H q (nI x)) S := by
  obtain ⟨h1, h2, h3, h4⟩ := h
  refine ⟨by omega, h2, fun i hi => ?_, h4⟩
  by_cases e : i = q
  · subst e; exact ⟨x, hx, upd_at⟩
  · rw [upd_ne e]; exact h3 i hi
theorem TwI.p {q p : Nat} {y : Int32} {H S : Nat → Int32} (h : TwI q p H S) (hp : p ≠ 8) (hy : y = 0 ∨ y = 1) : TwI q (p + 1) H (upd S p y) := by
  obtain ⟨h1, h2, h3, h4⟩ := h
  refine ⟨h1, by omega, h3, fun i hi => ?_⟩
  by_cases e : i = p
  · subst e; rw [upd_at]; exact hy
  · rw [upd_ne e]; exact h4 i (by omega)
theorem tsF_01 {g : Nat → Nat} {a : Nat} : tsF g a = 0 ∨ tsF g a = 1 := by
  unfold tsF
  split
  · exact Or.inr rfl
  · exact Or.inl rfl
theorem tbF_ge {g : Nat → Nat} {a : Nat} (h : 48 ≤ g a ∧ g a ≤ 57) : a + 1 ≤ tbF g a := by
  have := (numF_le (g := g) (d := 1) (a := a + 1) (v := 10 * 0 + (g a - 48))).1
  have e : numF g 2 a 0 = numF g 1 (a + 1) (10 * 0 + (g a - 48)) := by rw [numF_s, if_pos h]
  unfold tbF
  rw [e]
  split <;> omega
theorem trd_ok {g : Nat → Nat} : ∀ {f a q p n : Nat} {H A S : Nat → Int32} {ok : Bool} {e q' p' n' : Nat} {H' A' S' : Nat → Int32}, TwI q p H S → trd g f a q p n H A S = (ok, e, q', p', n', H', A', S') → TwI q' p' H' S' ∧ q ≤ q' ∧ p ≤ p' ∧ n ≤ n' ∧ n' ≤ n + f ∧ (ok = true → n < n') := by
  intro f
  induction f with
  | zero =>
    intro a q p n H A S ok e q' p' n' H' A' S' hT h
    have h : (false, a, q, p, n, H, A, S) = (ok, e, q', p', n', H', A', S') := h
    simp only [Prod.mk.injEq] at h
    obtain ⟨rfl, rfl, rfl, rfl, rfl, rfl, rfl, rfl⟩ := h
    exact ⟨hT, Nat.le_refl _, Nat.le_refl _, Nat.le_refl _, Nat.le_refl _, fun z => absurd z (by decide)⟩
  | succ f ih =>
    intro a q p n H A S ok e q' p' n' H' A' S' hT h
    unfold trd at h
    have stop : ∀ {a1 : Nat}, (false, a1, q, p, n, H, A, S) = (ok, e, q', p', n', H', A', S') → TwI q' p' H' S' ∧ q ≤ q' ∧ p ≤ p' ∧ n ≤ n' ∧ n' ≤ n + (f + 1) ∧ (ok = true → n < n') := fun {a1} h => by
      simp only [Prod.mk.injEq] at h
      obtain ⟨rfl, rfl, rfl, rfl, rfl, rfl, rfl, rfl⟩ := h
      exact ⟨hT, Nat.le_refl _, Nat.le_refl _, Nat.le_refl _, by omega, fun z => absurd z (by decide)⟩
    by_cases c1 : g a = 114
    · rw [if_pos c1] at h
      by_cases c2 : q = 4
      · rw [if_pos c2] at h; exact stop h
      · rw [if_neg c2] at h
        by_cases c3 : 48 ≤ g (a + 1) ∧ g (a + 1) ≤ 56
        · rw [if_pos c3] at h
          have hT2 := hT.r c2 (x := g (a + 1) - 48) (by omega)
          by_cases c4 : g (a + 1 + 1) = 59
          · rw [if_pos c4] at h
            obtain ⟨y1, y2, y3, y4, y5, y6⟩ := ih hT2 h
            exact ⟨y1, by omega, by omega, by omega, by omega, fun _ => by omega⟩
          · rw [if_neg c4] at h
            simp only [Prod.mk.injEq] at h
            obtain ⟨rfl, rfl, rfl, rfl, rfl, rfl, rfl, rfl⟩ := h
            exact ⟨hT2, by omega, by omega, by omega, by omega, fun _ => by omega⟩
        · rw [if_neg c3] at h; exact stop h
    · rw [if_neg c1] at h
      by_cases c2 : p = 8
      · rw [if_pos c2] at h; exact stop h
      · rw [if_neg c2] at h
        by_cases c3 : 48 ≤ g a ∧ g a ≤ 57
        · rw [if_pos c3] at h
          have hT2 := hT.p c2 (tsF_01 (g := g) (a := a))
          by_cases c4 : g (tbF g a) = 59
          · rw [if_pos c4] at h
            obtain ⟨y1, y2, y3, y4, y5, y6⟩ := ih hT2 h
            exact ⟨y1, by omega, by omega, by omega, by omega, fun _ => by omega⟩
          · rw [if_neg c4] at h
            simp only [Prod.mk.injEq] at h
            obtain ⟨rfl, rfl, rfl, rfl, rfl, rfl, rfl, rfl⟩ := h
            exact ⟨hT2, by omega, by omega, by omega, by omega, fun _ => by omega⟩
        · rw [if_neg c3] at h; exact stop h
section K
variable {N R B r d : Nat} {mem m' m0 m1 m2 m3 m4 m5 : Nat → Nat → Int32} {Q : xQr}
theorem c85 {len lim a q : Nat} {g : Nat → Nat} (hM : RC mem len lim a g) (h10 : mem 5 10 = nI q) (hq : q ≤ 4) (h114 : g a = 114)
    (k0 : q = 4 → Q (some (.int (nI 0))) (LAY, RFu r, mem))
    (k1 : q ≠ 4 → ¬ (48 ≤ g (a + 1) ∧ g (a + 1) ≤ 56) → Q (some (.int (nI 0))) (LAY, RFu r, txM mem (a + 1)))
    (k2 : q ≠ 4 → 48 ≤ g (a + 1) → g (a + 1) ≤ 56 → ∀ m', Ag [1, 5, 6] mem m' → RC m' len lim (a + 1 + 1) g → (∀ j, j ≠ 10 → m' 5 j = mem 5 j) → m' 5 10 = nI (q + 1) → m' 6 = upd (mem 6) q (nI (g (a + 1) - 48)) → Q (some (.int (nI 1))) (LAY, RFu r, m')) : xCall (d + 3) 85 [.ref 5, .ref 1] (LAY, RFu r, mem) Q := by
  have ha : a < lim := hM.lt (by omega)
  refine c_in rfl rfl rfl fun P hP => b85_0 hP (Or.inl rfl) (fun z => b85_17 hP (Or.inl rfl) (Or.inl rfl) (k0 ?_)) (fun z => ?_) <;> rw [h10, nI_leI (by decide) (by omega)] at z
  · omega
  have hq4 : q ≠ 4 := by omega
  have hM1 := hM.tx (b := a + 1) ha
  refine b85_8 hP (Or.inl rfl) (c76 (c := 114) hM (by decide) (fun q => absurd h114 q) (fun _ => Bk.i (b85_14 hP (Or.inl rfl) (fun _ => b85_19 hP (Or.inl rfl) (c77d (x := 8) hM1 (by decide) (fun hn => Bk.i (b85_25 hP (Or.inl rfl) (fun z => absurd rfl z) (fun _ => b85_31 hP (Or.inl rfl) (Or.inl rfl) (k1 hq4 hn)))) (fun q1 q2 => Bk.i (b85_25 hP (Or.inl rfl) (fun _ => ?_) (fun z => absurd z (nI_nm (by omega))))))) (fun z => absurd z (by decide)))))
  have hl : a + 1 < lim := hM.lt (by omega)
  rw [txM_tx]
  have hM2 := hM.tx (b := a + 1 + 1) hl
  have e10 : txM mem (a + 1 + 1) 5 10 = nI q := by rw [txM_ag 5 (by decide), h10]
  have eq6 : txM mem (a + 1 + 1) 6 = mem 6 := txM_ag 6 (by decide)
  refine b85_33 hP (Or.inl rfl) (by rw [e10]; exact vpn (by omega) (by decide)) (Or.inr rfl) ?_
  rw [e10, nIc (by omega)]
  refine k2 hq4 q1 (by omega) _ (((txM_ag.mono (by simp)).u2 (by simp)).u2 (by simp)) (hM2.sm ?_ ?_) (fun j hj => ?_) ?_ ?_
  · rw [xu2_ne (by decide), xu2_ne (by decide)]
  · rw [xu2_ne (by decide), xu2_ne (by decide)]
  · rw [xu2_eq, upd_ne hj, xu2_ne (by decide), txM_ag 5 (by decide)]
  · rw [xu2_eq, upd_at, xu2_ne (by decide), e10, nIs]
  · rw [xu2_ne (by decide), xu2_eq, eq6]
theorem c86 {len lim a p : Nat} {g : Nat → Nat} (hM : RC mem len lim a g) (h11 : mem 5 11 = nI p) (hp : p ≤ 8)
    (k0 : p = 8 ∨ ¬ (48 ≤ g a ∧ g a ≤ 57) → Q (some (.int (nI 0))) (LAY, RFu r, mem))
    (k2 : p ≠ 8 → 48 ≤ g a ∧ g a ≤ 57 → ∀ m', Ag [1, 5, 7, 8] mem m' → RC m' len lim (tbF g a) g → (∀ j, j ≠ 11 → m' 5 j = mem 5 j) → m' 5 11 = nI (p + 1) → m' 7 = upd (mem 7) p (nI (numF g 2 a 0).2) → m' 8 = upd (mem 8) p (tsF g a) → Q (some (.int (nI 1))) (LAY, RFu r, m')) : xCall (d + 4) 86 [.ref 5, .ref 1] (LAY, RFu r, mem) Q := by
  refine c_in rfl rfl rfl fun P hP => b86_0 hP (Or.inl rfl) (fun z => ?_) (fun z => b86_9 hP (Or.inl rfl) (Or.inl rfl) (k0 (Or.inl ?_))) <;> rw [h11] at z
  · have hp8 : p ≠ 8 := fun q => by rw [q] at z; exact absurd z (by decide)
    refine b86_11 hP (Or.inl rfl) (c78 (dd := 1) hM (by decide) (fun hn => Bk.i (b86_16 hP (Or.inl rfl) (fun z => absurd rfl z) (fun _ => b86_22 hP (Or.inl rfl) (Or.inl rfl) (k0 (Or.inr hn))))) (fun q1 q2 => Bk.i (b86_16 hP (Or.inl rfl) (fun _ => ?_) (fun z => absurd z (nI_nm ?_)))))
    · have k2 := k2 hp8 ⟨q1, q2⟩
      have hnl : (numF g 2 a 0).1 ≤ lim := by
        have h0 : a + 1 ≤ lim := hM.lt (by omega)
        rw [numF_s, if_pos ⟨q1, q2⟩, numF_s]
        split
        · rename_i w
          exact hM.lt (by omega)
        · exact h0
      have e2 : numF g (1 + 1) a 0 = numF g 2 a 0 := rfl
      unfold tbF tsF at k2
      rw [e2]
      obtain ⟨b0, v, hn⟩ : ∃ b0 v, numF g 2 a 0 = (b0, v) := ⟨_, _, rfl⟩
      rw [hn] at k2 hnl ⊢
      have k2 : ∀ m', Ag [1, 5, 7, 8] mem m' → RC m' len lim (if g b0 = 33 then b0 + 1 else b0) g → (∀ j, j ≠ 11 → m' 5 j = mem 5 j) → m' 5 11 = nI (p + 1) → m' 7 = upd (mem 7) p (nI v) → m' 8 = upd (mem 8) p (if g b0 = 33 then nI 1 else nI 0) → Q (some (.int (nI 1))) (LAY, RFu r, m') := k2
      have hnl : b0 ≤ lim := hnl
      show P 24 [.ref 5, .ref 1, .int (nI v)] [] (0, 0) (LAY, RFu r, txM mem b0)
      have e11 : txM mem b0 5 11 = nI p := by rw [txM_ag 5 (by decide), h11]
      refine b86_24 hP (Or.inl rfl) (by rw [e11]; exact vpn (by omega) (by decide)) ?_
      rw [e11, nIc (by omega)]
      generalize hm1 : xu2 (txM mem b0) (5 + 2) p (nI v) = m1
      have a1 : Ag [1, 7] mem m1 := by rw [← hm1]; exact (txM_ag.mono (by simp)).u2 (by simp)
      have hM1 : RC m1 len lim b0 g := (hM.tx hnl).sm (by rw [← hm1, xu2_ne (by decide)]) (by rw [← hm1, xu2_ne (by decide)])
      have e7 : m1 7 = upd (mem 7) p (nI v) := by rw [← hm1]; show xu2 (txM mem b0) 7 p (nI v) 7 = _; rw [xu2_eq, txM_ag 7 (by decide)]
      have f11 : m1 5 11 = nI p := by rw [a1 5 (by decide), h11]
      rw [f11]
      have fin : ∀ m2 y, Ag [1] m1 m2 → RC m2 len lim (if g b0 = 33 then b0 + 1 else b0) g → (if g b0 = 33 then nI 1 else nI 0) = y → P 56 [.ref 5, .ref 1, .int (nI v)] [.int y, .int (nI p), .ref (5 + 3)] (0, 0) (LAY, RFu r, m2) := fun m2 y a2 hM2 hy => by
        refine b86_56 hP (Or.inl rfl) (vpn (by omega) (by decide)) (Or.inr rfl) ?_
        rw [nIc (by omega)]
        have g1 : Ag [1, 7] mem m2 := a1.trans (a2.mono (by simp))
        refine k2 _ (((g1.mono (by simp)).u2 (by simp)).u2 (by simp)) (hM2.sm ?_ ?_) (fun j hj => ?_) ?_ ?_ ?_
        · rw [xu2_ne (by decide), xu2_ne (by decide)]
        · rw [xu2_ne (by decide), xu2_ne (by decide)]
        · rw [xu2_eq, upd_ne hj, xu2_ne (by decide), g1 5 (by decide)]
        · rw [xu2_eq, upd_at, xu2_ne (by decide), g1 5 (by decide), h11, nIs]
        · rw [xu2_ne (by decide), xu2_ne (by decide), a2 7 (by decide), e7]
        · rw [xu2_ne (by decide), hy]
          show xu2 m2 8 p y 8 = _
          rw [xu2_eq, g1 8 (by decide)]
      refine c76 (c := 33) hM1 (by decide) (fun h33 => Bk.i (b86_48 hP (Or.inl rfl) (fun _ => b86_55 hP (Or.inl rfl) (fin m1 _ Ag.rfl' ?_ (if_neg h33))) (fun z => absurd rfl z))) (fun h33 => Bk.i (b86_48 hP (Or.inl rfl) (fun z => absurd z (by decide)) (fun _ => b86_51 hP (Or.inl rfl) (fin _ _ txM_ag ?_ (if_pos h33)))))
      · rw [if_neg h33]; exact hM1
      · rw [if_pos h33]; exact hM1.tx (hM1.lt (by omega))
    · have nl := (numF_le (g := g) (d := 1 + 1) (a := a) (v := 0)).2.2
      omega
  · exact Decidable.by_contra fun w => z (nI_lt (by omega) (by decide))
/-- what was read so far -/
def TSC (mem m' : Nat → Nat → Int32) (q p : Nat) (H A S : Nat → Int32) : Prop := Ag [1, 5, 6, 7, 8] mem m' ∧ m' 5 0 = mem 5 0 ∧ m' 5 1 = mem 5 1 ∧ m' 5 10 = nI q ∧ m' 5 11 = nI p ∧ m' 6 = H ∧ m' 7 = A ∧ m' 8 = S
theorem TSC.tx {q p b : Nat} {H A S : Nat → Int32} (h : TSC mem m' q p H A S) (a : Ag [1] m' m0) : TSC mem m0 q p H A S := by
  obtain ⟨h1, h2, h3, h4, h5, h6, h7, h8⟩ := h
  exact ⟨h1.trans (a.mono (by simp)), by rw [a 5 (by decide), h2], by rw [a 5 (by decide), h3], by rw [a 5 (by decide), h4], by rw [a 5 (by decide), h5], by rw [a 6 (by decide), h6], by rw [a 7 (by decide), h7], by rw [a 8 (by decide), h8]⟩
theorem c84 {len N R ee q' p' n' : Nat} {tx : Nat → Nat} {ok : Bool} {H' A' S' : Nat → Int32} (hT : TxC mem len tx) (hR : mem 5 0 = nI R) (hN : mem 5 1 = nI N) (hI : TwI R N (mem 6) (mem 8))
    (hX : trd (gT tx len 76) 77 0 R N 0 (mem 6) (mem 7) (mem 8) = (ok, ee, q', p', n', H', A', S'))
    (k0 : len = 0 → ∀ m', Ag [1, 5] mem m' → m' 5 0 = nI R → m' 5 1 = nI N → Q (some (.int (nI 0))) (LAY, RFu r, m'))
    (kf : len ≠ 0 → ¬ (ok = true ∧ ee = len) → ∀ m', TSC mem m' q' p' H' A' S' → m' 1 2 = nI ee → Q (some (.int (-1))) (LAY, RFu r, m'))
    (kt : len ≠ 0 → ok = true → ee = len → ∀ m', Ag [1, 5, 6, 7, 8] mem m' → m' 5 0 = nI q' → m' 5 1 = nI p' → m' 6 = H' → m' 7 = A' → m' 8 = S' → Q (some (.int (nI n'))) (LAY, RFu r, m')) : xCall (d + 5) 84 [.ref 5, .ref 1] (LAY, RFu r, mem) Q := by
  refine c_in rfl rfl rfl fun P hP => b84_0 hP (Or.inl rfl) ?_
  generalize hm0 : xu2 (xu2 mem 5 10 (mem 5 0)) 5 11 ((xu2 mem 5 10 (mem 5 0)) 5 1) = m0
  have a0 : Ag [5] mem m0 := by rw [← hm0]; exact (Ag.rfl'.u2 (by simp)).u2 (by simp)
  have e0 : m0 5 0 = mem 5 0 := by rw [← hm0, xu2_eq, upd_ne (by decide), xu2_eq, upd_ne (by decide)]
  have e1 : m0 5 1 = mem 5 1 := by rw [← hm0, xu2_eq, upd_ne (by decide), xu2_eq, upd_ne (by decide)]
  have e10 : m0 5 10 = nI R := by rw [← hm0, xu2_eq, upd_ne (by decide), xu2_eq, upd_at, hR]
  have e11 : m0 5 11 = nI N := by rw [← hm0, xu2_eq, upd_at, xu2_eq, upd_ne (by decide), hN]
  have hT0 : TxC m0 len tx := by
    unfold TxC at hT ⊢
    rw [a0 1 (by decide), a0 2 (by decide)]
    exact hT
  refine c74 (lim := 76) (by decide) hT0 fun m1 a1 r1 => Bk.v (b84_22 hP (Or.inl rfl) (fun z => ?_) (fun z => ?_)) <;> rw [r1.1] at z
  · have hl0 : len ≠ 0 := fun q => z (by rw [q]; rfl)
    generalize gT tx len 76 = g at hX r1
    have t1 : TSC mem m1 R N (mem 6) (mem 7) (mem 8) := ⟨(a0.mono (by simp)).trans (a1.mono (by simp)), by rw [a1 5 (by decide), e0], by rw [a1 5 (by decide), e1], by rw [a1 5 (by decide), e10], by rw [a1 5 (by decide), e11], by rw [a1 6 (by decide), a0 6 (by decide)], by rw [a1 7 (by decide), a0 7 (by decide)], by rw [a1 8 (by decide), a0 8 (by decide)]⟩
    have fail : ∀ m' n v3, TSC mem m' q' p' H' A' S' → m' 1 2 = nI ee → ok = false → P 55 [.ref 5, .ref 1, .int n, v3] [.int (nI 0)] (0, 0) (LAY, RFu r, m') := fun m' n v3 t e hk => b84_55 hP (Or.inl rfl) (fun z => absurd rfl z) (fun _ => b84_60 hP (Or.inl rfl) (kf hl0 (fun z => by rw [hk] at z; exact absurd z.1 (by decide)) m' t e))
    have stop : ∀ m' v3, TSC mem m' q' p' H' A' S' → RC m' len (min len 76) ee g → ok = true → P 80 [.ref 5, .ref 1, .int (nI n'), v3] [] (0, 0) (LAY, RFu r, m') := fun m' v3 t hM hk => by
      refine b84_80 hP (Or.inl rfl) (c79 hM (Bk.i (b84_84 hP (Or.inl rfl) (fun z => b84_89 hP (Or.inl rfl) ?_) (fun z => b84_87 hP (Or.inl rfl) (kf hl0 (fun w => b01_0.mp z w.2) m' t hM.at')))))
      obtain ⟨t1, t2, t3, t4, t5, t6, t7, t8⟩ := t
      refine kt hl0 hk (Decidable.by_contra fun q => z (b01_f q)) _ ((t1.u2 (by simp)).u2 (by simp)) ?_ ?_ ?_ ?_ ?_
      · rw [xu2_eq, upd_ne (by decide), xu2_eq, upd_at, t4]
      · rw [xu2_eq, upd_at, xu2_eq, upd_ne (by decide), t5]
      · rw [xu2_ne (by decide), xu2_ne (by decide), t6]
      · rw [xu2_ne (by decide), xu2_ne (by decide), t7]
      · rw [xu2_ne (by decide), xu2_ne (by decide), t8]
    have main : ∀ f a q p n H A S m' v3, 77 ≤ a + f → 2 * n ≤ a → RC m' len (min len 76) a g → TSC mem m' q p H A S → TwI q p H S → trd g f a q p n H A S = (ok, ee, q', p', n', H', A', S') → P 33 [.ref 5, .ref 1, .int (nI n), v3] [] (0, 0) (LAY, RFu r, m') := by
      intro f
      induction f with
      | zero =>
        intro a q p n H A S m' v3 hf hn hM
        have := hM.2.2.2.2.2.1
        omega
      | succ f ih =>
        intro a q p n H A S m' v3 hf hn hM t hI h
        have ha := hM.2.2.2.2.2.1
        have hga := hM.le a
        unfold trd at h
        refine b84_33 hP (Or.inl rfl) (c75 hM (Bk.i (b84_37 hP (Or.inl rfl) (fun z => ?_) (fun z => ?_))))
        · have c1 : g a ≠ 114 := fun w => z ((hcx_eq (by decide)).mpr w)
          rw [if_neg c1] at h
          refine b84_50 hP (Or.inl rfl) (c86 hM t.2.2.2.2.1 hI.2.1 (fun w => Bk.i (fail m' _ _ ?_ ?_ ?_)) (fun c2 c3 m2 a2 hM2 o5 o11 o7 o8 => Bk.i (b84_55 hP (Or.inl rfl) (fun _ => ?_) (fun z => absurd z (by decide)))))
          · by_cases c2 : p = 8
            · rw [if_pos c2] at h
              simp only [Prod.mk.injEq] at h
              obtain ⟨rfl, rfl, rfl, rfl, rfl, rfl, rfl, rfl⟩ := h
              exact t
            · rw [if_neg c2, if_neg (w.resolve_left c2)] at h
              simp only [Prod.mk.injEq] at h
              obtain ⟨rfl, rfl, rfl, rfl, rfl, rfl, rfl, rfl⟩ := h
              exact t
          · by_cases c2 : p = 8
            · rw [if_pos c2] at h
              simp only [Prod.mk.injEq] at h
              obtain ⟨rfl, rfl, rfl, rfl, rfl, rfl, rfl, rfl⟩ := h
              exact hM.at'
            · rw [if_neg c2, if_neg (w.resolve_left c2)] at h
              simp only [Prod.mk.injEq] at h
              obtain ⟨rfl, rfl, rfl, rfl, rfl, rfl, rfl, rfl⟩ := h
              exact hM.at'
          · by_cases c2 : p = 8
            · rw [if_pos c2] at h
              simp only [Prod.mk.injEq] at h
              exact h.1.symm
            · rw [if_neg c2, if_neg (w.resolve_left c2)] at h
              simp only [Prod.mk.injEq] at h
              exact h.1.symm
          · rw [if_neg c2, if_pos c3] at h
            obtain ⟨t1, t2, t3, t4, t5, t6, t7, t8⟩ := id t
            have t' : TSC mem m2 q (p + 1) H (upd A p (nI (numF g 2 a 0).2)) (upd S p (tsF g a)) := ⟨t1.trans (a2.mono (by simp)), by rw [o5 0 (by decide), t2], by rw [o5 1 (by decide), t3], by rw [o5 10 (by decide), t4], o11, by rw [a2 6 (by decide), t6], by rw [o7, t7], by rw [o8, t8]⟩
            have hI2 := hI.p c2 (tsF_01 (g := g) (a := a))
            have hge := tbF_ge c3
            have hle := hM2.2.2.2.2.2.1
            generalize tbF g a = b at h hM2 hge hle
            refine b84_62 hP (Or.inl rfl) (fun w => absurd w (by rw [nIs]; exact nI_ge (by omega) (by decide))) (fun _ => ?_)
            rw [nIs]
            refine b84_71 hP (Or.inl rfl) (c76 (c := 59) hM2 (by decide) (fun c4 => Bk.i (b84_77 hP (Or.inl rfl) (fun w => absurd rfl w) (fun _ => ?_))) (fun c4 => Bk.i (b84_77 hP (Or.inl rfl) (fun _ => ?_) (fun w => absurd w (by decide)))))
            · rw [if_neg c4] at h
              simp only [Prod.mk.injEq] at h
              obtain ⟨rfl, rfl, rfl, rfl, rfl, rfl, rfl, rfl⟩ := h
              exact stop m2 _ t' hM2 rfl
            · rw [if_pos c4] at h
              have hlt := hM2.lt (i := b) (by omega)
              exact ih (b + 1) _ _ _ _ _ _ _ _ (by omega) (by omega) (hM2.tx hlt) (t'.tx (b := 0) txM_ag) hI2 h
        · have c1 : g a = 114 := (hcx_eq (by decide)).mp z
          have hal := hM.lt (i := a) (by omega)
          rw [if_pos c1] at h
          refine b84_42 hP (Or.inl rfl) (c85 hM t.2.2.2.1 hI.1 c1 (fun c2 => Bk.i (b84_47 hP (Or.inl rfl) ?_)) (fun c2 c3 => Bk.i (b84_47 hP (Or.inl rfl) ?_)) (fun c2 c3 c3' m2 a2 hM2 o5 o10 o6 => Bk.i (b84_47 hP (Or.inl rfl) (b84_55 hP (Or.inl rfl) (fun _ => ?_) (fun z => absurd z (by decide))))))
          · rw [if_pos c2] at h
            simp only [Prod.mk.injEq] at h
            obtain ⟨rfl, rfl, rfl, rfl, rfl, rfl, rfl, rfl⟩ := h
            exact fail m' _ _ t hM.at' rfl
          · rw [if_neg c2, if_neg c3] at h
            simp only [Prod.mk.injEq] at h
            obtain ⟨rfl, rfl, rfl, rfl, rfl, rfl, rfl, rfl⟩ := h
            exact fail _ _ _ (t.tx (b := 0) txM_ag) (hM.tx (b := a + 1) hal).at' rfl
          · rw [if_neg c2, if_pos ⟨c3, c3'⟩] at h
            obtain ⟨t1, t2, t3, t4, t5, t6, t7, t8⟩ := id t
            have t' : TSC mem m2 (q + 1) p (upd H q (nI (g (a + 1) - 48))) A S := ⟨t1.trans (a2.mono (by simp)), by rw [o5 0 (by decide), t2], by rw [o5 1 (by decide), t3], o10, by rw [o5 11 (by decide), t5], by rw [o6, t6], by rw [a2 7 (by decide), t7], by rw [a2 8 (by decide), t8]⟩
            have hI2 := hI.r c2 (x := g (a + 1) - 48) (by omega)
            have hle := hM2.2.2.2.2.2.1
            refine b84_62 hP (Or.inl rfl) (fun w => absurd w (by rw [nIs]; exact nI_ge (by omega) (by decide))) (fun _ => ?_)
            rw [nIs]
            refine b84_71 hP (Or.inl rfl) (c76 (c := 59) hM2 (by decide) (fun c4 => Bk.i (b84_77 hP (Or.inl rfl) (fun w => absurd rfl w) (fun _ => ?_))) (fun c4 => Bk.i (b84_77 hP (Or.inl rfl) (fun _ => ?_) (fun w => absurd w (by decide)))))
            · rw [if_neg c4] at h
              simp only [Prod.mk.injEq] at h
              obtain ⟨rfl, rfl, rfl, rfl, rfl, rfl, rfl, rfl⟩ := h
              exact stop m2 _ t' hM2 rfl
            · rw [if_pos c4] at h
              have hlt := hM2.lt (i := a + 1 + 1) (by omega)
              exact ih (a + 1 + 1 + 1) _ _ _ _ _ _ _ _ (by omega) (by omega) (hM2.tx hlt) (t'.tx (b := 0) txM_ag) hI2 h
    exact b84_31 hP (Or.inl rfl) (main 77 0 R N 0 _ _ _ m1 _ (by decide) (by decide) r1 t1 hI hX)
  · refine b84_29 hP (Or.inl rfl) (k0 (nI_inj z (by have := hT.2.1; omega) (by decide)) m1 ((a0.mono (by simp)).trans (a1.mono (by simp))) ?_ ?_)
    · rw [a1 5 (by decide), e0, hR]
    · rw [a1 5 (by decide), e1, hN]
end K
