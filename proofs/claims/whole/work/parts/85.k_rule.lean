/-! rule -/
section K
variable {N R B r d n T : Nat} {mem m' m0 m1 m2 m3 m4 m5 : Nat → Nat → Int32} {Q : xQr} {g : xCf} {D : xD}
theorem c103 {q len : Nat} {tx : Nat → Nat} (hq : q < 2) (hT : TxC mem len tx)
    (k : ∀ m1 v, Ag [1, 94, 95, 96, 98, 20 + 3 * q, 20 + 3 * q + 1] mem m1 → ((goodR tx len ∧ v = nI 0 ∧ RuL m1 (20 + 3 * q) (rsM q len tx)) ∨ (¬ goodR tx len ∧ v = -1 - nI (rdT tx len).1 ∧ m1 (20 + 3 * q) = mem (20 + 3 * q) ∧ m1 (20 + 3 * q + 1) = mem (20 + 3 * q + 1))) → Q (some (.int v)) (LAY, RFu r, m1)) :
    xCall (d + 6) 103 [.ref 0, .ref (20 + 3 * q), .int (nI (if q = 0 then 116 else 115))] (LAY, RFu r, mem) Q := by
  have hr : isRule (20 + 3 * q) := by unfold isRule; omega
  have e0 := hT.1
  have hl := hT.2.1
  refine c_in rfl rfl rfl fun P hP => b103_0 hP hr (fun z => b103_17 hP hr (c44 hT fun m1 a1 t1 t2 t3 => Bk.i ?_)) (fun z => b103_10 hP hr ?_)
  · have hn : 0 < len := Nat.pos_of_ne_zero fun y => z (by rw [e0, y]; decide)
    by_cases hg : (rdT tx len).2.1 = true ∧ (rdT tx len).1 = len
    · rw [b01_t hg]
      refine b103_24 hP hr (fun _ => b103_35 hP hr (c39 (q := 20 + 3 * q) (q1 := 95) hr (by unfold isRule; omega) (by omega) (t3 hg.1) fun m2 a2 r2 => Bk.v (b103_46 hP hr (k m2 _ ((a1.mono (by simp)).trans (a2.mono (by simp))) (Or.inl ⟨Or.inr hg, rfl, ?_⟩))))) (fun z => absurd z (by decide))
      rw [show rsM q len tx = (rdT tx len).2.2 from if_neg (by omega)]
      exact r2
    · rw [b01_f hg]
      refine b103_24 hP hr (fun z => absurd rfl z) (fun _ => b103_27 hP hr (c80 (Bk.i (b103_34 hP hr (k m1 _ (a1.mono (by simp)) (Or.inr ⟨fun w => hg (w.resolve_left (by omega)), by rw [t2], a1 _ (by simp; omega), a1 _ (by simp; omega)⟩))))))
  · have h0 : len = 0 := nI_inj (b := 0) (by rw [← e0]; exact z) (by omega) (by decide)
    refine c37 (x := if q = 0 then 116 else 115) hr (by split <;> decide) fun m1 a1 r1 => Bk.v (b103_15 hP hr (k m1 _ (a1.mono (by simp)) (Or.inl ⟨Or.inl h0, rfl, ?_⟩)))
    rw [show rsM q len tx = (if q = 0 then [nI 1116] else [nI 1115]) from if_pos h0]
    by_cases hq0 : q = 0
    · rw [if_pos hq0] at r1 ⊢; exact r1
    · rw [if_neg hq0] at r1 ⊢; exact r1
theorem tk_rule (x : Int32) : Tk 102 180 [.int x] := by
  intro N R B r mem Q h hB K
  obtain ⟨p0, pch, ppe, ppl, psh, pr0, pr1⟩ := RTo_parts h.2.2.1
  obtain ⟨len, tx, hT, hT2⟩ := id h.1
  have pr : ∀ q, q < 2 → RTru mem q := fun q hq => by
    have : q = 0 ∨ q = 1 := by omega
    rcases this with rfl | rfl
    · exact pr0
    · exact pr1
  -- what the reference does behind it, and what holds then
  have fin : ∀ (v : Int32) m1, Ag [1, 94, 95, 96, 98, 20, 21, 23, 24] mem m1 → ((x ≠ nI 0 ∧ x ≠ nI 1 ∧ v = -100 ∧ Ag [1, 94, 95, 96, 98] mem m1) ∨ ∃ q, q < 2 ∧ x = nI q ∧ Ag [1, 94, 95, 96, 98, 20 + 3 * q, 20 + 3 * q + 1] mem m1 ∧ ((goodR tx len ∧ v = nI 0 ∧ RuL m1 (20 + 3 * q) (rsM q len tx)) ∨ (¬ goodR tx len ∧ v = -1 - nI (rdT tx len).1 ∧ m1 (20 + 3 * q) = mem (20 + 3 * q) ∧ m1 (20 + 3 * q + 1) = mem (20 + 3 * q + 1)))) → Q (some (.int v)) (LAY, RFu r, xu2 m1 1 1 (nI 0)) := fun v m1 a1 hv => by
    refine K _ _ ?_
    intro Q2 k2
    generalize hm1' : xu2 m1 1 1 (nI 0) = m1'
    have g1 : Ag [1, 94, 95, 96, 98, 20, 21, 23, 24] mem m1' := by rw [← hm1']; exact a1.u2 (by simp)
    have hT3 : TxM m1' len tx := by
      unfold TxM at hT2 ⊢
      rw [g1 108 (by decide), g1 122 (by decide)]
      exact hT2
    refine c180 (d := 220) (p0 := x) hT3 fun r2 m2 v2 a2 e17 hv2 => ?_
    have hZ : RZe m2 := kZe h g1 a2 (by decide)
    have tx0 : RTx m2 := ⟨0, tx, ⟨by rw [a2.1 1 (by decide) (by decide), ← hm1', xu2_eq, upd_at], by omega, fun i hi => absurd hi (Nat.not_lt_zero i)⟩, ⟨e17, by omega, fun i hi => absurd hi (Nat.not_lt_zero i)⟩⟩
    have rest : RTru m2 0 → RTru m2 1 → RRc m2 N R B := fun q0 q1 => ⟨tx0, kRw h g1 a2 (by decide), RTo_of (p0.mv (dj_eqs g1 a2 (by decide))) (pch.mv (dj_eqs g1 a2 (by decide))) (ppe.mv (dj_eqs g1 a2 (by decide))) (ppl.mv (dj_eqs g1 a2 (by decide))) (psh.mv (dj_eqs g1 a2 (by decide))) q0 q1, kSt h g1 a2 (by decide), kUn h g1 a2 (by decide), kOl h g1 a2 (by decide), kKe h g1 a2 (by decide), hZ⟩
    have f1 : ∀ c, c ≠ 1 → m1' c = m1 c := fun c hc => by rw [← hm1', xu2_ne hc]
    have f2 : ∀ c, c ∉ [125, 126, 127] → c ≠ 108 → m2 c = m1' c := fun c h1 h2 => a2.1 c h1 h2
    have o125 : ∀ q < 2, 20 + 3 * q ∉ [125, 126, 127] ∧ 20 + 3 * q ≠ 108 ∧ 20 + 3 * q ≠ 1 ∧ 20 + 3 * q + 1 ∉ [125, 126, 127] ∧ 20 + 3 * q + 1 ≠ 108 ∧ 20 + 3 * q + 1 ≠ 1 := by decide
    -- a rule that nobody changed
    have same : ∀ q, q < 2 → m1 (20 + 3 * q) = mem (20 + 3 * q) → m1 (20 + 3 * q + 1) = mem (20 + 3 * q + 1) → m2 (125 + q) = m1' (125 + q) → m2 127 q = m1' 127 q → RTru m2 q := fun q hq w1 w2 w3 w4 => by
      obtain ⟨n, t, ⟨y1, y2, y3, y4⟩, y5⟩ := pr q hq
      obtain ⟨z1, z2, z3, z4, z5, z6⟩ := o125 q hq
      have h125 : ∀ q < 2, 125 + q ∉ [1, 94, 95, 96, 98, 20, 21, 23, 24] := by decide
      refine ⟨n, t, ⟨y1, by rw [w4, g1 127 (by decide)]; exact y2, fun i hi => by rw [w3, g1 _ (h125 q hq)]; exact y3 i hi, y4⟩, ?_⟩
      unfold RuL at y5 ⊢
      rw [f2 _ z1 z2, f1 _ z3, w1, f2 _ z4 z5, f1 _ z6, w2]
      exact y5
    rcases hv with ⟨n0, n1, ev, b1⟩ | ⟨q, hq, ex, b1, hv⟩
    · rcases hv2 with ⟨-, -, ev2, s1, s2, s3⟩ | ⟨q, hq, ex, -⟩
      · rw [ev2, ← ev]
        exact k2 _ _ (kEnd (rest (same 0 (by decide) (b1 _ (by decide)) (b1 _ (by decide)) s1 (by rw [s3])) (same 1 (by decide) (b1 _ (by decide)) (b1 _ (by decide)) s2 (by rw [s3]))) hB)
      · exfalso
        have : q = 0 ∨ q = 1 := by omega
        rcases this with rfl | rfl
        · exact n0 ex
        · exact n1 ex
    · have oth : ∀ q', q' < 2 → q' ≠ q → m1 (20 + 3 * q') = mem (20 + 3 * q') ∧ m1 (20 + 3 * q' + 1) = mem (20 + 3 * q' + 1) := fun q' hq' hne => by
        have : ∀ q < 2, ∀ q' < 2, q' = q ∨ (20 + 3 * q' ∉ [1, 94, 95, 96, 98, 20 + 3 * q, 20 + 3 * q + 1] ∧ 20 + 3 * q' + 1 ∉ [1, 94, 95, 96, 98, 20 + 3 * q, 20 + 3 * q + 1]) := by decide
        have w := (this q hq q' hq').resolve_left hne
        exact ⟨b1 _ w.1, b1 _ w.2⟩
      rcases hv2 with ⟨n0, n1, -⟩ | ⟨q2, hq2, ex2, hv2⟩
      · exfalso
        have : q = 0 ∨ q = 1 := by omega
        rcases this with rfl | rfl
        · exact n0 ex
        · exact n1 ex
      have eq2 : q2 = q := nI_inj (by rw [← ex2, ex]) (by omega) (by omega)
      subst eq2
      have both : ∀ (H : ∀ q', q' < 2 → RTru m2 q'), RRc m2 N R B := fun H => rest (H 0 (by decide)) (H 1 (by decide))
      rcases hv with ⟨hg, ev, hru⟩ | ⟨hg, ev, w1, w2⟩
      · rcases hv2 with ⟨ng, -⟩ | ⟨-, ev2, s1, s2, s3⟩
        · exact absurd hg ng
        rw [ev2, ← ev]
        refine k2 _ _ (kEnd (both fun q' hq' => ?_) hB)
        by_cases e : q' = q2
        · subst e
          have hl40 : len ≤ 40 ∧ (0 < len → (rdT tx len).2.1 = true ∧ (rdT tx len).1 = len) := by
            rcases hg with w | w
            · exact ⟨by omega, fun z => absurd z (by omega)⟩
            · have hle := rd_le (g := gT tx len 40) (lim := min len 40) (fun j hj => gT_lim hj) 400 5 0 0 (Nat.zero_le _)
              change 0 ≤ (rdT tx len).1 ∧ (rdT tx len).1 ≤ min len 40 ∧ _ at hle
              exact ⟨by omega, fun _ => w⟩
          obtain ⟨z1, z2, z3, z4, z5, z6⟩ := o125 q' hq'
          refine ⟨len, tx, ⟨hl40.1, by rw [s1, upd_at], fun i hi => ⟨(hT.2.2 i hi).1, s2 i hi⟩, hl40.2⟩, ?_⟩
          unfold RuL at hru ⊢
          rw [f2 _ z1 z2, f1 _ z3, f2 _ z4 z5, f1 _ z6]
          exact hru
        · have e2 : q' = 1 - q2 := by omega
          refine same q' hq' (oth q' hq' e).1 (oth q' hq' e).2 (by rw [e2, s3]) (by rw [s1, upd_ne e])
      · rcases hv2 with ⟨-, ev2, s1, s2, s3⟩ | ⟨hg', -⟩
        · rw [ev2, ← ev]
          refine k2 _ _ (kEnd (both fun q' hq' => ?_) hB)
          have s12 : m2 (125 + q') = m1' (125 + q') := by
            have : q' = 0 ∨ q' = 1 := by omega
            rcases this with rfl | rfl
            · exact s1
            · exact s2
          by_cases e : q' = q2
          · subst e; exact same q' hq' w1 w2 s12 (by rw [s3])
          · exact same q' hq' (oth q' hq' e).1 (oth q' hq' e).2 s12 (by rw [s3])
        · exact absurd hg' hg
  refine c_in rfl rfl rfl fun P hP => ?_
  have done : ∀ v1 (v : Int32) m1, Ag [1, 94, 95, 96, 98, 20, 21, 23, 24] mem m1 → ((x ≠ nI 0 ∧ x ≠ nI 1 ∧ v = -100 ∧ Ag [1, 94, 95, 96, 98] mem m1) ∨ ∃ q, q < 2 ∧ x = nI q ∧ Ag [1, 94, 95, 96, 98, 20 + 3 * q, 20 + 3 * q + 1] mem m1 ∧ ((goodR tx len ∧ v = nI 0 ∧ RuL m1 (20 + 3 * q) (rsM q len tx)) ∨ (¬ goodR tx len ∧ v = -1 - nI (rdT tx len).1 ∧ m1 (20 + 3 * q) = mem (20 + 3 * q) ∧ m1 (20 + 3 * q + 1) = mem (20 + 3 * q + 1)))) → P 43 [.ref 0, v1, .int v] [] (0, 0) (LAY, RFu r, m1) := fun v1 v m1 a hv => b102_43 hP (c73 (Bk.v (b102_50 hP (fin v m1 a hv))))
  refine b102_0 hP (fun z0 => b102_24 hP (fun z1 => done _ _ mem Ag.rfl' (Or.inl ⟨z0, z1, rfl, Ag.rfl'⟩)) (fun z1 => b102_29 hP ?_)) (fun z0 => b102_7 hP ?_)
  · exact c103 (d := 293) (q := 1) (by decide) hT fun m1 v a hv => Bk.i (b102_42 hP (done _ v m1 (a.mono (by decide)) (Or.inr ⟨1, by decide, z1, a, hv⟩)))
  · exact c103 (d := 293) (q := 0) (by decide) hT fun m1 v a hv => Bk.i (b102_20 hP (done _ v m1 (a.mono (by decide)) (Or.inr ⟨0, by decide, z0, a, hv⟩)))
end K
