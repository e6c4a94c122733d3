/-! swap, pair -/
theorem swp_ge {a b p N : Nat} (ha : a < N) (hb : b < N) (hp : N ≤ p) : swp a b p = p := by
  unfold swp
  rw [if_neg (by omega), if_neg (by omega)]
section K
variable {N R B r d n T now j rm : Nat} {mem m' m0 m1 m2 m3 m4 m5 : Nat → Nat → Int32} {Q : xQr} {g : xCf} {D : xD}
theorem tk_swap (x y : Int32) : Tk 129 217 [.int x, .int y] := by
  intro N R B r mem Q h hB K
  obtain ⟨p0, pch, ppe, ppl, psh, pr0, pr1⟩ := RTo_parts h.2.2.1
  obtain ⟨hR, hR4, hN, hN8, hR2, hN2⟩ := id p0
  refine c_in rfl rfl rfl fun P hP => b129_0 hP (c152 hN (by omega) (fun hno => Bk.i (b129_6 hP (fun z => absurd rfl z) (fun _ => b129_9 hP (Or.inl rfl) (K _ _ ?_)))) (fun a b hab => Bk.i (b129_6 hP (fun _ => b129_11 hP ?_) (fun z => absurd z (by decide)))))
  · intro Q2 k2
    exact c_in rfl rfl rfl fun P hP => b217_0 hP (c163 (N := N) (by rw [e20 (by decide), hN2]) (by omega) (fun _ => Bk.i (b217_11 hP (fun z => absurd rfl z) (fun _ => b217_14 hP (Or.inl rfl) (k2 _ _ (kEnd (kM20 h) hB))))) (fun a b q => absurd q (hno a b)))
  · obtain ⟨ha, hb, hne, rfl, rfl⟩ := id hab
    refine c92 (Or.inl rfl) (by omega) (by omega) hne fun m1 a1 e1 e2 => Bk.v (b129_20 hP (Or.inr rfl) (K _ _ ?_))
    intro Q2 k2
    have g1 : Ag [10, 11, 12, 13, 14, 15, 16, 17, 18] mem m1 := a1.mono (by intro c hc; simp at hc ⊢; omega)
    have s1 : ∀ p, p < 8 → m1 18 p = mem 18 (swp a b p) := e1
    have s2 : ∀ p, p < 8 → ∀ k, k < 24 → m1 (10 + p) k = mem (10 + swp a b p) k := fun p hp k hk => by
      have := e2 p hp k hk
      rw [show 5 + 5 + p = 10 + p by omega, show 5 + 5 + swp a b p = 10 + swp a b p by omega] at this
      exact this
    refine c_in rfl rfl rfl fun P hP => b217_0 hP (c163 (N := N) (by rw [e20 (by decide), g1 108 (by decide), hN2]) (by omega) (fun q => absurd hab (q a b)) (fun _ _ _ => Bk.i (b217_11 hP (fun _ => b217_16 hP (c216 (by omega) (by omega) hne fun m2 a2 u1 u2 u3 u4 => Bk.v (b217_22 hP (Or.inr rfl) (k2 _ _ (kEnd (N := N) (R := R) ?_ hB))))) (fun z => absurd z (by decide)))))
    have g2 : AgM [112, 113] [20] m1 m2 := t20 a2
    have v1 : ∀ p, p < 8 → m2 113 p = mem 113 (swp a b p) := fun p hp => by rw [u1 p hp, xu2_ne (by decide), g1 113 (by decide)]
    have v2 : ∀ p, p < 8 → ∀ k, k < 24 → m2 112 (24 * p + k) = mem 112 (24 * swp a b p + k) := fun p hp k hk => by rw [u3 p hp k hk, xu2_ne (by decide), g1 112 (by decide)]
    have w1 : ∀ p, p < 8 → m2 18 p = mem 18 (swp a b p) := fun p hp => by rw [g2.1 18 (by decide) (by decide)]; exact s1 p hp
    have w2 : ∀ p, p < 8 → ∀ k, k < 24 → m2 (10 + p) k = mem (10 + swp a b p) k := fun p hp k hk => by rw [g2.1 (10 + p) (by simp; omega) (by omega)]; exact s2 p hp k hk
    refine ⟨kTx h g1 g2 (by decide), kRw h g1 g2 (by decide), RTo_of (p0.mv (dj_eqs g1 g2 (by decide))) (pch.mv (dj_eqs g1 g2 (by decide))) (ppe.mv (dj_eqs g1 g2 (by decide))) (fun p hp => ?_) (psh.mv (dj_eqs g1 g2 (by decide))) (pr0.mv (by decide) (dj_eqs g1 g2 (by decide))) (pr1.mv (by decide) (dj_eqs g1 g2 (by decide))), kSt h g1 g2 (by decide), kUn h g1 g2 (by decide), kOl h g1 g2 (by decide), kKe h g1 g2 (by decide), kZe h g1 g2 (by decide)⟩
    obtain ⟨L, q1, q2, q3, q4⟩ := ppl _ (swp_lt (n := 8) (by omega) (by omega) hp : swp a b p < 8)
    refine ⟨L, q1, by rw [w1 p hp]; exact q2, fun z => q3 (by rw [swp_ge ha hb z]; exact z), fun z => ?_⟩
    obtain ⟨q5, q6⟩ := q4 (swp_lt ha hb z)
    refine ⟨by rw [v1 p hp]; exact q5, fun k hk => ?_⟩
    rw [w2 p hp k (by omega), v2 p hp k (by omega)]
    exact q6 k hk
end K
