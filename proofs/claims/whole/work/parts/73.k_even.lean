/-! even -/
def evA (D : xD) (k : Nat) : List Int32 := if k = 1 then [nI 1103] else if k = 2 then [nI 1098] else if k = 3 then [nI 1099] else dA D
def mxF (f : Nat → Int32) : Nat → Int32 × Int32
  | 0 => (f 0, f 0)
  | k + 1 => (if (mxF f k).1 < f (k + 1) then f (k + 1) else (mxF f k).1, if f (k + 1) < (mxF f k).2 then f (k + 1) else (mxF f k).2)
theorem mxF_s {f : Nat → Int32} {k : Nat} : mxF f (k + 1) = (if (mxF f k).1 < f (k + 1) then f (k + 1) else (mxF f k).1, if f (k + 1) < (mxF f k).2 then f (k + 1) else (mxF f k).2) := rfl
def flI (F : Nat → Int32) : Nat → Nat
  | 0 => 0
  | k + 1 => if F (k + 1) < F (flI F k) then k + 1 else flI F k
theorem flI_s {F : Nat → Int32} {k : Nat} : flI F (k + 1) = if F (k + 1) < F (flI F k) then k + 1 else flI F k := rfl
theorem flI_le {F : Nat → Int32} : ∀ {k : Nat}, flI F k ≤ k
  | 0 => Nat.le_refl 0
  | k + 1 => by
    rw [flI_s]
    split
    · exact Nat.le_refl _
    · exact Nat.le_succ_of_le flI_le
theorem DOk_A {D : xD} {xs : List Int32} (hD : DOk D) : DOk (dsA D xs) := hD
section K
variable {N R B r d n T : Nat} {mem m' m1 m2 m3 m4 m5 : Nat → Nat → Int32} {Q : xQr} {g : xCf} {D : xD}
theorem MwD_A {W V : List Nat} {k : Nat} (h : MwD m1 D) (h29 : m1 108 29 = nI 0) (a : AgM W V m1 m2) (dW : ∀ x, x ∈ cfCells → x ∉ W) (dV : 0 ∉ V ∧ 2 ∉ V ∧ 32 ∉ V) (e29 : m2 108 29 = nI k) (hk : k < 4) : MwD m2 (dsA D (evA D k)) := by
  obtain ⟨h1, h2, h3, h4, h5, h6, h7, h8⟩ := h
  refine ⟨by rw [a.2 0 dV.1]; exact h1, by rw [a.2 2 dV.2.1]; exact h2, by rw [a.1 109 (dW _ (by decide)) (by decide)]; exact h3, by rw [a.1 110 (dW _ (by decide)) (by decide), a.1 111 (dW _ (by decide)) (by decide)]; exact h4, by rw [a.2 32 dV.2.2]; exact h5, by rw [a.1 113 (dW _ (by decide)) (by decide), a.1 128 (dW _ (by decide)) (by decide), a.1 112 (dW _ (by decide)) (by decide), a.1 129 (dW _ (by decide)) (by decide)]; exact h6, ?_, ?_⟩
  · show RuE m2 0 (evA D k)
    have hc : k = 0 ∨ k = 1 ∨ k = 2 ∨ k = 3 := by omega
    rcases hc with rfl | rfl | rfl | rfl
    · rcases h7 with q | q | q | q
      · exact absurd (h29.symm.trans q.2.1) (by decide)
      · exact absurd (h29.symm.trans q.2.1) (by decide)
      · exact absurd (h29.symm.trans q.2.1) (by decide)
      · obtain ⟨-, nn, tx, q1, q2⟩ := q
        refine Or.inr (Or.inr (Or.inr ⟨Or.inr e29, nn, tx, ?_, q2⟩))
        unfold RmT at q1 ⊢
        rw [a.1 (125 + 0) (dW _ (by decide)) (by decide), a.1 127 (dW _ (by decide)) (by decide)]
        exact q1
    · exact Or.inl ⟨rfl, e29, rfl⟩
    · exact Or.inr (Or.inl ⟨rfl, e29, rfl⟩)
    · exact Or.inr (Or.inr (Or.inl ⟨rfl, e29, rfl⟩))
  · rcases h8 with q | q | q | q
    · exact absurd q.1 (by decide)
    · exact absurd q.1 (by decide)
    · exact absurd q.1 (by decide)
    · obtain ⟨-, nn, tx, q1, q2⟩ := q
      refine Or.inr (Or.inr (Or.inr ⟨Or.inl rfl, nn, tx, ?_, q2⟩))
      unfold RmT at q1 ⊢
      rw [a.1 (125 + 1) (dW _ (by decide)) (by decide), a.1 127 (dW _ (by decide)) (by decide)]
      exact q1
theorem c142 {k : Nat} (hk : k < 4) (hN : dN D ≤ 8) (hT : TwD m' 26 D) (kk : ∀ m2, Ag [41, 42] m' m2 → TwD m2 26 (dsA D (evA D k)) → Q none (LAY, RFu r, m2)) : xCall (d + 3) 142 [.ref 0, .int (nI k)] (LAY, RFu r, m') Q := by
  have hc : k = 0 ∨ k = 1 ∨ k = 2 ∨ k = 3 := by omega
  have hq : isRule 41 := by unfold isRule; decide
  refine c_in rfl rfl rfl fun P hP => ?_
  rcases hc with rfl | rfl | rfl | rfl
  · exact b142_0 hP (fun _ => b142_73 hP (kk m' Ag.rfl' hT)) (fun z => absurd z (by decide)) (fun z => absurd z (by decide)) (fun z => absurd z (by decide))
  · exact b142_0 hP (fun z => absurd z (by decide)) (fun _ => b142_28 hP (c37 hq (by decide) fun m2 a e => Bk.v (b142_40 hP (b142_73 hP (kk m2 a (TwD_A hT a e hN)))))) (fun z => absurd z (by decide)) (fun z => absurd z (by decide))
  · exact b142_0 hP (fun z => absurd z (by decide)) (fun z => absurd z (by decide)) (fun _ => b142_43 hP (c37 hq (by decide) fun m2 a e => Bk.v (b142_55 hP (b142_73 hP (kk m2 a (TwD_A hT a e hN)))))) (fun z => absurd z (by decide))
  · exact b142_0 hP (fun z => absurd z (by decide)) (fun z => absurd z (by decide)) (fun z => absurd z (by decide)) (fun _ => b142_58 hP (c37 hq (by decide) fun m2 a e => Bk.v (b142_70 hP (b142_73 hP (kk m2 a (TwD_A hT a e hN))))))
theorem c65 (hN : 0 < N) (hN8 : N ≤ 8) (k : Q (some (.int ((mxF (fun p => mem 50 (40 + p)) (N - 1)).1 - (mxF (fun p => mem 50 (40 + p)) (N - 1)).2))) (LAY, RFu r, mem)) : xCall (d + 1) 65 [.ref 49, .int (nI N)] (LAY, RFu r, mem) Q := by
  have hs : isState 49 := by unfold isState; decide
  refine c_in rfl rfl rfl fun P hP => b65_0 hP hs (vpn (by decide) (by decide)) ?_
  rw [nIc (by decide)]
  have key := xloop (N := N - 1) (G := fun j => P 13 [.ref 49, .int (nI N), .int (mxF (fun p => mem 50 (40 + p)) j).1, .int (mxF (fun p => mem 50 (40 + p)) j).2, .int (nI (j + 1))] [] (0, 0) (LAY, RFu r, mem)) ?_ ?_
  · exact key
  · exact b65_13 hP hs (fun _ => b65_55 hP hs k) (fun z => absurd (Int32.le_refl _) (by rw [show N - 1 + 1 = N by omega] at z; exact z))
  · intro j hj ih
    have vj : vp_in (nI 40 + nI (j + 1)) 121 := vpx (by omega) (by decide)
    refine b65_13 hP hs (fun z => absurd z (nI_ge (by omega) (by omega))) (fun _ => b65_19 hP hs vj vj ?_)
    rw [nIx (by omega), nIs]
    exact ih
theorem c34 {F : Nat → Int32} {L : Nat} (hL : 0 < L) (h : RwC mem ((List.range L).map F)) (k : Q (some (.int (nI (flI F (L - 1))))) (LAY, RFu r, mem)) : xCall (d + 1) 34 [.ref 3] (LAY, RFu r, mem) Q := by
  obtain ⟨h1, h2, h3⟩ := h
  simp only [List.length_map, List.length_range] at h1 h2 h3
  have e : ∀ i, i < L → mem 4 i = F i := fun i hi => by
    rw [h3 i hi, List.getD_eq_getElem?_getD, List.getElem?_map, List.getElem?_range hi]
    rfl
  refine c_in rfl rfl rfl fun P hP => b34_0 hP ?_
  have key := xloop (N := L - 1) (G := fun j => P 4 [.ref 3, .int (nI (flI F j)), .int (nI (j + 1))] [] (0, 0) (LAY, RFu r, mem)) ?_ ?_
  · exact key
  · exact b34_4 hP (fun _ => b34_35 hP k) (fun z => absurd (Int32.le_refl _) (by rw [h2, show L - 1 + 1 = L by omega] at z; exact z))
  · intro j hj ih
    have hf := flI_le (F := F) (k := j)
    refine b34_4 hP (fun z => absurd z (by rw [h2]; exact nI_ge (by omega) (by omega))) (fun _ => b34_12 hP (vpn (by omega) (by decide)) (vpn (by omega) (by decide)) (fun z => b34_29 hP ?_) (fun z => b34_27 hP (b34_29 hP ?_)))
    · rw [nIc (by omega), nIc (by omega), e _ (by omega), e _ (by omega)] at z
      rw [flI_s, if_neg (Int32.not_lt.mpr z)] at ih
      rw [nIs]
      exact ih
    · rw [nIc (by omega), nIc (by omega), e _ (by omega), e _ (by omega)] at z
      rw [flI_s, if_pos (Int32.not_le.mp z)] at ih
      rw [nIs]
      exact ih
end K
