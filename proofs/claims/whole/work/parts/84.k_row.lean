/-! row -/
theorem tk_row (x : Int32) : TkT 150 236 [.int x] := by
  intro N R B r mem Q h hB KT K
  obtain ⟨xs, ⟨w1, w2, w3⟩, w4, w5⟩ := id h.2.1
  have rg : (0 ≤ x ∧ x < nI xs.length) ∨ ¬ (0 ≤ x ∧ x < nI xs.length) := Decidable.em _
  have le0 : ∀ {y : Int32}, 0 ≤ y ↔ 0 ≤ y.toInt := by intro y; rw [Int32.le_iff_toInt_le, show (0 : Int32).toInt = 0 by decide]
  have tl : (nI xs.length).toInt = xs.length := nI_toInt (by omega)
  have tm : (nI xs.length - nI 1).toInt = xs.length - 1 := by rw [toInt_sub' (by rw [tl, nI_toInt (by decide)]; omega) (by rw [tl, nI_toInt (by decide)]; omega), tl, nI_toInt (by decide)]; rfl
  have mm : (nI 0 ≤ x ∧ x ≤ nI xs.length - nI 1) ↔ (0 ≤ x ∧ x < nI xs.length) := by
    rw [← nI0, le0, Int32.le_iff_toInt_le, tm, Int32.lt_iff_toInt_lt, tl]
    omega
  have no : ¬ (0 ≤ x ∧ x < nI xs.length) → Q (some .null) (LAY, RFu r, mem) := fun hno => by
    refine KT _ ?_
    intro Q2 k2
    refine c_in rfl rfl rfl fun P hP => b236_0 hP ?_
    rw [e20 (by decide), w4]
    refine c158 (Bk.i ?_)
    rw [b01_f (fun q => hno (mm.mp q))]
    exact b236_16 hP (fun _ => b236_28 hP (c160 (Bk.i (b236_32 hP (k2 _ _ _ (kEnd (kLost h) hB) (by rw [xu2_eq, upd_at])))))) (fun z => absurd rfl z)
  refine c_in rfl rfl rfl fun P hP => b150_0 hP (c_in rfl rfl rfl fun P2 hP2 => ?_)
  have out : ¬ (0 ≤ x ∧ x < nI xs.length) → ∀ v0 v1, P2 16 [v0, v1] [] (0, 0) (LAY, RFu r, mem) := fun hno v0 v1 => b33_16 hP2 (b33_17 hP2 (Or.inl rfl) (Bk.i (b150_8 hP (fun z => absurd rfl z) (fun _ => b150_11 hP (no hno)))))
  refine b33_0 hP2 (fun z => out (fun q => absurd q.1 (Int32.not_le.mpr z)) _ _) (fun z => b33_4 hP2 (fun z2 => out (fun q => absurd q.2 (Int32.not_lt.mpr (by rw [← w2]; exact z2))) _ _) (fun z2 => b33_12 hP2 (b33_17 hP2 (Or.inr rfl) (Bk.i (b150_8 hP (fun _ => ?_) (fun z => absurd z (by decide)))))))
  rw [w2] at z2
  have hx : 0 ≤ x ∧ x < nI xs.length := ⟨Int32.not_lt.mp z, Int32.not_le.mp z2⟩
  obtain ⟨n, hn, rfl⟩ : ∃ n, n < xs.length ∧ x = nI n := by
    obtain ⟨q1, q2⟩ := hx
    rw [le0] at q1
    rw [Int32.lt_iff_toInt_lt, tl] at q2
    exact ⟨x.toInt.toNat, by omega, i_to (by omega) (by omega)⟩
  refine b150_19 hP (vpn (by omega) (by decide)) ?_
  rw [nIc (by omega), w3 n hn]
  refine K _ _ ?_
  intro Q2 k2
  generalize hv : xs.getD n 0 = v at k2
  have g1 : Ag [144] mem (xu2 mem 144 0 v) := Ag.rfl'.u2 (by simp)
  refine c_in rfl rfl rfl fun P hP => b236_0 hP ?_
  rw [e20 (by decide), xu2_ne (by decide), w4]
  refine c158 (Bk.i ?_)
  rw [b01_t (mm.mpr hx)]
  refine b236_16 hP (fun z => absurd z (by decide)) (fun _ => b236_19 hP (vpn (by omega) (by decide)) (b236_32 hP ?_))
  rw [nIc (by omega), xu2_ne (by decide), xu2_ne (by decide), w5 n hn, hv]
  exact k2 _ _ (kEnd (N := N) (R := R) (kAll h g1 (th20 (x := nI 0)) (by decide) (by decide) (by decide) (by decide) (by decide) (by decide) (by decide)) hB) (by rw [xu2_eq, upd_at]) (by rw [xu2_ne (by decide), xu2_eq, upd_at])
