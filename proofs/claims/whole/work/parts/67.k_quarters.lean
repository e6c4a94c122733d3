/-! quarters, asks -/
def UC (m : Nat → Nat → Int32) (u : Nat) (U : Nat → Nat → Int32) : Prop := ∃ fr, m 55 0 = nI u ∧ u ≤ 10 ∧ m 55 2 = nI fr ∧ fr < 10 ∧ ∀ k, k < u → m (57 + (fr + 10 - u + k) % 10) = U k
def UM (m : Nat → Nat → Int32) (N u : Nat) (U : Nat → Nat → Int32) : Prop := m 108 37 = nI u ∧ ∀ k, k < u → LV (m 132) (121 * k) N (U k)
def puN (u : Nat) : Nat := if u = 10 then 10 else u + 1
def puU (u : Nat) (U : Nat → Nat → Int32) (c : Nat → Int32) : Nat → Nat → Int32 := if u = 10 then fun k => if k < 9 then U (k + 1) else c else fun k => if k < u then U k else c
theorem RUn_U {m : Nat → Nat → Int32} {N R B : Nat} : RUn m N R B ↔ ∃ u U, UC m u U ∧ UM m N u U ∧ ∀ k, k < u → SV N R B (U k) := by
  constructor
  · rintro ⟨u, fr, h1, h2, h3, h4, h5, h6⟩
    exact ⟨u, fun k => m (57 + (fr + 10 - u + k) % 10), ⟨fr, h1, h2, h3, h4, fun _ _ => rfl⟩, ⟨h5, fun k hk => (h6 k hk).1⟩, fun k hk => (h6 k hk).2⟩
  · rintro ⟨u, U, ⟨fr, h1, h2, h3, h4, h5⟩, ⟨h6, h7⟩, h8⟩
    exact ⟨u, fr, h1, h2, h3, h4, h6, fun k hk => by rw [h5 k hk]; exact ⟨h7 k hk, h8 k hk⟩⟩
theorem UC.mv {m m' : Nat → Nat → Int32} {u : Nat} {U : Nat → Nat → Int32} (h : UC m u U) (e : ∀ c, c ∈ unC → m' c = m c) : UC m' u U := by
  obtain ⟨fr, h1, h2, h3, h4, h5⟩ := h
  have hz : ∀ x < 10, 57 + x ∈ unC := by decide
  exact ⟨fr, by rw [e 55 (by decide), h1], h2, by rw [e 55 (by decide), h3], h4, fun k hk => by rw [e _ (hz _ (Nat.mod_lt _ (by decide)))]; exact h5 k hk⟩
theorem UM.mv {m m' : Nat → Nat → Int32} {N u : Nat} {U : Nat → Nat → Int32} (h : UM m N u U) (e1 : m' 132 = m 132) (e2 : m' 108 37 = m 108 37) : UM m' N u U := ⟨by rw [e2, h.1], fun k hk => by rw [e1]; exact h.2 k hk⟩
section C
variable {d r N R B u : Nat} {mem m' m1 m2 : Nat → Nat → Int32} {Q : xQr} {g : xCf} {c : Nat → Int32} {U : Nat → Nat → Int32} {D : xD}
theorem c25 (h : UC mem u U) (hZ : RZe mem) (k : ∀ m', Ag unC mem m' → UC m' (puN u) (puU u U (mem 48)) → RZe m' → Q none (LAY, RFu r, m')) : xCall (d + 1) 25 [.ref 55, .ref 47] (LAY, RFu r, mem) Q := by
  obtain ⟨fr, h1, h2, h3, h4, h5⟩ := h
  have hin : ∀ x < 10, 57 + x ∈ zC ∧ 57 + x ∈ unC ∧ 57 + x ≠ 55 ∧ 57 + x ≠ 48 := by decide
  have hi := hin fr h4
  refine c_in rfl rfl rfl fun P hP => ?_
  have key := b25_0 (d := d) (P := P) (Q := Q) (r := r) (mem := mem) hP (s := 47) (Or.inl rfl) (by rw [h3]; exact vpn h4 (by decide)) (by decide)
  rw [h3, nIc (by omega)] at key
  have e1 : va_cpy (mem (47 + 1)) (mem (57 + fr)) 0 0 121 = mem 48 := xuA_cpy (fun i hi' => by rw [hZ _ hi.1 i hi', hZ 48 (by decide) i hi'])
  rw [e1, xuA_ne (c := 55) (fun q => hi.2.2.1 q.symm), h3] at key
  have e2 : nI fr + nI 1 - (nI fr + nI 1) / nI 10 * nI 10 = nI ((fr + 1) % 10) := by rw [nI_add, nI_rem (by omega) (by decide) (by decide)]
  rw [e2] at key
  have e3 : xu2 (xuA mem (57 + fr) (mem 48)) 55 2 (nI ((fr + 1) % 10)) 55 0 + nI 1 = nI (u + 1) := by rw [xu2_eq, upd_ne (by decide), xuA_ne (fun q => hi.2.2.1 q.symm), h1, nIs]
  rw [e3] at key
  have e4 : (if nI (u + 1) < nI 10 then nI (u + 1) else nI 10) = nI (puN u) := by
    unfold puN
    by_cases q : u = 10
    · rw [if_pos q, q]; decide
    · rw [if_neg q]
      by_cases q2 : u = 9
      · rw [q2]; decide
      · rw [if_pos (nI_lt (by omega) (by decide))]
  rw [e4] at key
  refine key (k _ (((Ag.rfl'.uA hi.2.1).u2 (by decide)).u2 (by decide)) ⟨(fr + 1) % 10, by rw [xu2_eq, upd_at], ?_, by rw [xu2_eq, upd_ne (by decide), xu2_eq, upd_at], Nat.mod_lt _ (by decide), fun k hk => ?_⟩ (hZ.mv fun x hx => ?_))
  · unfold puN; split <;> omega
  · have hj : ((fr + 1) % 10 + 10 - puN u + k) % 10 < 10 := Nat.mod_lt _ (by decide)
    have hj' := hin _ hj
    rw [xu2_ne hj'.2.2.1, xu2_ne hj'.2.2.1]
    unfold puN at hk hj ⊢
    unfold puU
    by_cases q : u = 10
    · rw [if_pos q] at hk hj
      rw [if_pos q, if_pos q]
      by_cases q2 : k < 9
      · rw [if_pos q2, xuA_ne (by omega)]
        have := h5 (k + 1) (by omega)
        rw [show (fr + 10 - u + (k + 1)) % 10 = ((fr + 1) % 10 + 10 - 10 + k) % 10 by omega] at this
        exact this
      · rw [if_neg q2, show 57 + ((fr + 1) % 10 + 10 - 10 + k) % 10 = 57 + fr by omega, xuA_eq]
    · rw [if_neg q] at hk hj
      rw [if_neg q, if_neg q]
      by_cases q2 : k < u
      · rw [if_pos q2, xuA_ne (by omega)]
        have := h5 k q2
        rw [show (fr + 10 - u + k) % 10 = ((fr + 1) % 10 + 10 - (u + 1) + k) % 10 by omega] at this
        exact this
      · rw [if_neg q2, show 57 + ((fr + 1) % 10 + 10 - (u + 1) + k) % 10 = 57 + fr by omega, xuA_eq]
  · by_cases q : x = 57 + fr
    · refine Or.inr fun i hi' => ?_
      rw [q, xu2_ne hi.2.2.1, xu2_ne hi.2.2.1, xuA_eq]
      exact hZ 48 (by decide) i hi'
    · refine Or.inl ?_
      have : ∀ x ∈ zC, x ≠ 55 := by decide
      rw [xu2_ne (this x hx), xu2_ne (this x hx), xuA_ne q]
def paW : List Nat := [22, 25, 48, 52, 53, 54]
/-- what quarters bring, in the class -/
theorem c110 {n : Nat} (hT : TwD mem 5 D) (hD : DOk D) (hS : SV (dN D) R B (mem 48)) (hB : B < 500000000) (hn : n ≤ 1000) (h : UC mem u U) (hZ : RZe mem)
    (k : ∀ m', Ag (unC ++ paW) mem m' → m' 48 = qtrs (cfD D) (mem 48) n → UC m' (if n = 0 then u else puN u) (if n = 0 then U else puU u U (mem 48)) → RZe m' → Q (some (.int (nI (qAsks (cfD D) (mem 48) n)))) (LAY, RFu r, m')) : xCall (d + 6) 110 [.ref 0, .int (nI n)] (LAY, RFu r, mem) Q := by
  obtain ⟨q1, q2⟩ := TwD_TC hT hD
  obtain ⟨now, n1', n2'⟩ := hS.now
  have hN : fN (cfD D) ≤ 8 := hD.2.1
  refine c_in rfl rfl rfl fun P hP => ?_
  have loop : ∀ m0, Ag unC mem m0 → UC m0 (if n = 0 then u else puN u) (if n = 0 then U else puU u U (mem 48)) → RZe m0 → P 15 [.ref 0, .int (nI n), .null, .null] [] (0, 0) (LAY, RFu r, m0) := fun m0 a0 u0 z0 => by
    have e0 : m0 48 = mem 48 := a0 48 (by decide)
    refine b110_15 hP ?_
    have key := xloop (N := n) (G := fun j => ∀ m', Ag paW m0 m' → m' 48 = qtrs (cfD D) (mem 48) j → P 19 [.ref 0, .int (nI n), .int (nI (qAsks (cfD D) (mem 48) j)), .int (nI j)] [] (0, 0) (LAY, RFu r, m')) ?_ ?_
    · exact key m0 Ag.rfl' e0
    · intro m' hA e
      refine b110_19 hP (fun _ => b110_48 hP (k m' ?_ e (u0.mv fun c hc => hA c ?_) (z0.mv fun c hc => ?_))) (fun z => absurd (Int32.le_refl _) z)
      · exact (a0.mono (fun _ h => List.mem_append_left _ h)).trans (hA.mono (fun _ h => List.mem_append_right _ h))
      · have : ∀ c ∈ unC, c ∉ paW := by decide
        exact this c hc
      · by_cases q : c = 48
        · refine Or.inr fun i hi => ?_
          rw [q, e, qtrs_121 hN hi]
          exact hZ 48 (by decide) i hi
        · refine Or.inl (hA c ?_)
          have : ∀ c ∈ zC, c ∉ paW ∨ c = 48 := by decide
          exact (this c hc).resolve_right q
    · intro j hj ih m' hA e
      have ht : ∀ k, k ∈ tCells → m' (5 + k) = mem (5 + k) := fun k hk => by
        have : ∀ k ∈ tCells, 5 + k ∉ paW ∧ 5 + k ∉ unC := by decide
        rw [hA _ (this k hk).1, a0 _ (this k hk).2]
      refine b110_19 hP (fun z => absurd z (nI_ge hj (by omega))) (fun _ => b110_24 hP (c8g (s := 47) (g := cfD D) (now := now + j) (Or.inl rfl) (Or.inl rfl) (TC_eq ht q1) (by rw [cf_eq ht]; exact q2) (by rw [show m' (47 + 1) = _ from e]; exact OKc_qtrs hN hS.ok j) (by rw [show m' (47 + 1) = _ from e]; exact qtrs_120 hN n2' j) (by omega) fun m2 a2 e2 _ => Bk.i (b110_40 hP ?_)))
      rw [nIs, show m' (47 + 1) = _ from e, nI_add]
      refine ih m2 (hA.trans (a2.mono (by decide))) ?_
      rw [show m2 48 = _ from e2, show m' (47 + 1) = _ from e]
      rfl
  by_cases hn0 : n = 0
  · subst hn0
    refine b110_0 hP (fun _ => loop mem Ag.rfl' (by rw [if_pos rfl, if_pos rfl]; exact h) hZ) (fun z => absurd (Int32.le_refl _) z)
  · refine b110_0 hP (fun z => absurd z (nI_nle (by omega) (by omega))) (fun _ => b110_4 hP (c25 h hZ fun m0 a0 u0 z0 => Bk.v (loop m0 a0 (by rw [if_neg hn0, if_neg hn0]; exact u0) z0)))
/-- the same in the reference -/
def qrW : List Nat := [114, 115, 116, 117, 118, 119, 120, 121, 123, 130, 131, 132]
def qrV : List Nat := [15, 19, 20, 22, 23, 24, 25, 28, 37]
def stC (N : Nat) (c : Nat → Int32) : Nat := cnt (fun p => decide (c (8 + p) = 1)) N
theorem m195 {n : Nat} (b : MB mem g c) (hn : n ≤ 200) (h : UM mem (fN g) u U) (hu : u ≤ 10)
    (k : ∀ r' m', AgM qrW qrV mem m' → MV m' (fN g) (qtrs g c n) → UM m' (fN g) (if n = 0 then u else puN u) (if n = 0 then U else puU u U c) → RwM m' [nI (stC (fN g) (qtrs g c n)), stA g c n] → m' 108 20 = nI 0 → Q (some (.int (nI (qAsks g c n)))) (LAY, RFu r', m')) : xCall (d + 80) 195 [.ref 108, .int (nI n)] (LAY, RFu r, mem) Q := by
  obtain ⟨hC, hPV, hM, now, n1', n2'⟩ := id b
  have hN := hC.2.2.2.1
  have hN0 := hC.2.2.1
  have hR := hC.2.1
  refine c_in rfl rfl rfl fun P hP => b195_0 hP (c158r (a := 0) (b := 200) (by decide) (by decide) (fun q => absurd rfl (q n (by omega) hn)) (fun _ _ _ _ => Bk.i (b195_13 hP (fun _ => ?_) (fun z => absurd z (by decide)))))
  have part2 : ∀ m0, AgM [132] [20, 37] mem m0 → UM m0 (fN g) (if n = 0 then u else puN u) (if n = 0 then U else puU u U c) → m0 108 20 = nI 0 → ∀ v2, P 96 [.ref 108, .int (nI n), v2, .null, .null, .null] [] (0, 0) (LAY, RFu r, m0) := fun m0 a0 u0 t0 v2 => by
    have hM0 : MV m0 (fN g) c := hM.ag a0 (by decide) (by decide)
    have hC0 : CfM m0 g := hC.ag a0 (by decide) (by decide)
    refine b195_96 hP (c194 hM0 (by rw [a0.2 2 (by decide), hN0]) hN (Bk.i (b195_100 hP ?_)))
    have key := xloop (N := n) (G := fun j => ∀ r' m', AgM mqW mqV m0 m' → MV m' (fN g) (qtrs g c j) → P 106 [.ref 108, .int (nI n), .int (sumI (fun p => c (40 + p)) (fN g)), .int (nI (qAsks g c j)), .int (nI j), .null] [] (0, 0) (LAY, RFu r', m')) ?_ ?_
    · exact key r m0 AgM.rfl' hM0
    · intro r' m' hA hMv
      have hN1 : m' 108 2 = nI (fN g) := by rw [hA.2 2 (by decide), a0.2 2 (by decide), hN0]
      have hPVn := qtrs_PV hN hR hPV n
      refine b195_106 hP (fun _ => b195_125 hP ?_) (fun z => absurd (Int32.le_refl _) z)
      have key3 := xloop (N := fN g) (G := fun p => P 131 [.ref 108, .int (nI n), .int (sumI (fun p => c (40 + p)) (fN g)), .int (nI (qAsks g c n)), .int (nI (cnt (fun p => decide (qtrs g c n (8 + p) = 1)) p)), .int (nI p)] [] (0, 0) (LAY, RFu r', m')) ?_ ?_
      · exact key3
      · refine b195_131 hP (fun _ => b195_165 hP (c161 (xs := []) (RwM_nil (by rw [xu2_eq, upd_at])) (by decide) fun m2 a2 w2 => Bk.v (b195_176 hP ?_))) (fun z => absurd (by rw [hN1]; exact Int32.le_refl _) z)
        have a19 : AgM [] [19] m' (xu2 m' 108 19 (nI 0)) := AgM.rfl'.us (by simp)
        have a3 : AgM [123] [19] m' m2 := (a19.mono (by simp) (by simp)).trans a2
        have hM2 : MV m2 (fN g) (qtrs g c n) := hMv.ag a3 (by decide) (by decide)
        refine c194 hM2 (by rw [a3.2 2 (by decide), hN1]) hN (Bk.i (b195_181 hP (c161 w2 (by simp) fun m3 a4 w3 => Bk.v (b195_186 hP ?_))))
        have a5 : AgM [123] [19] m' m3 := a3.trans a4
        rw [← sumI_sub] at w3
        refine k r' m3 (((a0.mono (by decide) (by decide)).trans (hA.mono (by decide) (by decide))).trans (a5.mono (by decide) (by decide))) (hMv.ag a5 (by decide) (by decide)) (u0.mv ?_ ?_) w3 ?_
        · rw [a5.1 132 (by decide) (by decide), hA.1 132 (by decide) (by decide)]
        · rw [a5.2 37 (by decide), hA.2 37 (by decide)]
        · rw [a5.2 20 (by decide), hA.2 20 (by decide), t0]
      · intro p hp ih3
        have cs : cnt (fun p => decide (qtrs g c n (8 + p) = 1)) (p + 1) = cnt (fun p => decide (qtrs g c n (8 + p) = 1)) p + (if decide (qtrs g c n (8 + p) = 1) = true then 1 else 0) := rfl
        rw [cs] at ih3
        refine b195_131 hP (fun z => absurd z (by rw [hN1]; exact nI_ge hp (by omega))) (fun _ => b195_140 hP (c193 hMv hPVn hp hN (Bk.i (b195_148 hP (fun z => b195_155 hP (b195_156 hP ?_)) (fun z => b195_151 hP (b195_156 hP ?_))))))
        · rw [if_neg (by simp [b01_0.mp z])] at ih3
          rw [nI_add, nIs]
          exact ih3
        · rw [if_pos (by simp [Decidable.by_contra fun q => z (b01_f q)])] at ih3
          rw [nI_add, nIs]
          exact ih3
    · intro j hj ih r' m' hA hMv
      refine b195_106 hP (fun z => absurd z (nI_ge hj (by omega))) (fun _ => b195_112 hP (c190 (now := now + j) (hC0.ag hA (by decide) (by decide)) (qtrs_PV hN hR hPV j) hMv (qtrs_120 hN n2' j) (by omega) fun r2 m2 a2 v2 _ _ => Bk.i (b195_117 hP ?_)))
      rw [nIs, nI_add]
      exact ih r2 m2 (hA.trans (a2.mono (by decide) (by decide))) v2
  by_cases hn0 : n = 0
  · subst hn0
    refine b195_18 hP (fun _ => part2 _ (th20.mono (by simp) (by simp)) (by rw [if_pos rfl, if_pos rfl]; exact h.mv (by rw [xu2_ne (by decide)]) (e20 (by decide))) (by rw [xu2_eq, upd_at]) _) (fun z => absurd (Int32.le_refl _) z)
  · -- laid aside at place w: the ones ahead of it are Uw
    have part1 : ∀ (m0 : Nat → Nat → Int32) (w : Nat) (Uw : Nat → Nat → Int32) (v2 : Value), w < 10 → AgM [132] [20, 37] mem m0 → m0 108 37 = nI w → m0 108 20 = nI 0 → (∀ k, k < w → LV (m0 132) (121 * k) (fN g) (Uw k)) → puN u = w + 1 → (∀ k, k < w → puU u U c k = Uw k) → puU u U c w = c → P 71 [.ref 108, .int (nI n), v2, .null, .null, .null] [] (0, 0) (LAY, RFu r, m0) := fun m0 w Uw v2 hw a0 e37 t0 hL e1 e2 e3 => by
      have hM0 : MV m0 (fN g) c := hM.ag a0 (by decide) (by decide)
      refine b195_71 hP ?_
      rw [e37, nI_mul]
      refine c191 (q := 132) (k := 121 * w) (np := 1210) (Or.inl rfl) rfl (by omega) (by decide) hN hM0 fun m2 a2 l2 f2 => Bk.v (b195_86 hP ?_)
      have e372 : m2 108 37 = nI w := by rw [a2.2 37 (by simp), e37]
      rw [e372, nIs]
      have e132 : xu2 m2 108 37 (nI (w + 1)) 132 = m2 132 := xu2_ne (by decide)
      refine part2 _ ((a0.trans (a2.mono (by decide) (by simp))).us (by decide)) ?_ (by rw [xu2_eq, upd_ne (by decide), a2.2 20 (by simp), t0]) _
      rw [if_neg hn0, if_neg hn0]
      refine ⟨by rw [xu2_eq, upd_at, e1], fun k hk => ?_⟩
      rw [e132]
      by_cases q : k = w
      · rw [q, e3]; exact l2
      · rw [e2 k (by omega)]
        exact (hL k (by omega)).congr hN (fun i hi1 hi2 => f2 i (Or.inl (by omega)))
    have b0 : AgM [132] [20, 37] mem (xu2 mem 108 20 (nI 0)) := th20.mono (by simp) (by simp)
    have f37 : xu2 mem 108 20 (nI 0) 108 37 = nI u := by rw [e20 (by decide), h.1]
    have f132 : xu2 mem 108 20 (nI 0) 132 = mem 132 := xu2_ne (by decide)
    refine b195_18 hP (fun z => absurd z (nI_nle (by omega) (by omega))) (fun _ => b195_22 hP (fun z => ?_) (fun z => b195_31 hP ?_))
    · have hu10 : u ≠ 10 := fun q => z (by rw [f37, q])
      exact part1 _ u U _ (by omega) b0 f37 (by rw [xu2_eq, upd_at]) (fun k hk => by rw [f132]; exact h.2 k hk) (by unfold puN; rw [if_neg hu10]) (fun k hk => by unfold puU; rw [if_neg hu10, if_pos hk]) (by unfold puU; rw [if_neg hu10, if_neg (by omega)])
    · rw [f37] at z
      have hu10 : u = 10 := nI_inj z (by omega) (by decide)
      subst hu10
      have key := xloop (N := 1089) (G := fun j => ∀ m', AgM [132] [20, 37] mem m' → m' 108 37 = nI 10 → m' 108 20 = nI 0 → (∀ i, i < j → m' 132 i = mem 132 (i + 121)) → (∀ i, j ≤ i → m' 132 i = mem 132 i) → P 33 [.ref 108, .int (nI n), .int (nI j), .null, .null, .null] [] (0, 0) (LAY, RFu r, m')) ?_ ?_
      · exact key _ b0 f37 (by rw [xu2_eq, upd_at]) (fun i hi => absurd hi (Nat.not_lt_zero i)) (fun i _ => by rw [f132])
      · intro m' hA x37 x20 x1 x2
        refine b195_33 hP (fun _ => b195_61 hP ?_) (fun z => absurd (Int32.le_refl _) z)
        rw [x37, nI_sub (by decide)]
        refine part1 _ 9 (fun k => U (k + 1)) _ (by decide) (hA.us (by decide)) (by rw [xu2_eq, upd_at]) (by rw [xu2_eq, upd_ne (by decide), x20]) (fun k hk => ?_) rfl (fun k hk => by unfold puU; rw [if_pos rfl, if_pos hk]) (by unfold puU; rw [if_pos rfl, if_neg (by decide)])
        rw [xu2_ne (by decide)]
        obtain ⟨l1, l2, l3⟩ := h.2 (k + 1) (by omega)
        refine ⟨fun t ht p hp => ?_, ?_, fun x hx => ?_⟩
        · rw [x1 _ (by omega), show 121 * k + 7 * p + t + 121 = 121 * (k + 1) + 7 * p + t by omega]; exact l1 t ht p hp
        · rw [x1 _ (by omega), show 121 * k + 56 + 121 = 121 * (k + 1) + 56 by omega]; exact l2
        · rw [x1 _ (by omega), show 121 * k + 57 + x + 121 = 121 * (k + 1) + 57 + x by omega]; exact l3 x hx
      · intro j hj ih m' hA x37 x20 x1 x2
        refine b195_33 hP (fun z => absurd z (nI_ge hj (by decide))) (fun _ => b195_40 hP (vpx (by omega) (by decide)) (vpn (by omega) (by decide)) ?_)
        rw [nIx (by omega), nIc (by omega), nIs, x2 (j + 121) (by omega)]
        refine ih _ (hA.u2 (by decide) (by decide)) (by rw [xu2_ne (by decide), x37]) (by rw [xu2_ne (by decide), x20]) (fun i hi => ?_) (fun i hi => ?_)
        · rw [xu2_eq]
          by_cases q : i = j
          · rw [q, upd_at]
          · rw [upd_ne q]; exact x1 i (by omega)
        · rw [xu2_eq, upd_ne (by omega)]; exact x2 i (by omega)
end C
theorem tk_quarters (y : Int32) : Tk 109 195 [.int y] := by
  intro N R B r mem Q h hB K
  obtain ⟨hM, hS⟩ := h.2.2.2.1
  obtain ⟨g1, g2, g3, g4, g5, g6, g7, g8, g9⟩ := RRc_g h
  have hN8 := hS.2.1
  obtain ⟨u, U, uc, um, us⟩ := RUn_U.mp h.2.2.2.2.1
  refine c_in rfl rfl rfl fun P hP => b109_0 hP (c151 (a := 0) (b := 200) (by decide) (by decide) (fun hs => Bk.i (b109_8 hP (fun z => absurd rfl z) (fun _ => b109_11 hP (K _ _ ?_)))) (fun n hn1 hn2 en => Bk.i (b109_8 hP (fun _ => b109_13 hP (c64 (Or.inl rfl) (Bk.i (b109_20 hP ?_)))) (fun z => absurd z (by decide)))))
  · intro Q2 k2
    exact c_in rfl rfl rfl fun P hP => b195_0 hP (c158r (a := 0) (b := 200) (by decide) (by decide) (fun _ => Bk.i (b195_13 hP (fun z => absurd rfl z) (fun _ => b195_16 hP (k2 _ _ (kEnd (kM20 h) hB))))) (fun n hn1 hn2 en => absurd en (hs n hn1 hn2)))
  · subst en
    refine c110 (D := D0 mem) (R := R) (B := B) g8 g7 (by rw [show dN (D0 mem) = N from g1]; exact hS) (by omega) (by omega) uc h.2.2.2.2.2.2.2 fun m1 a1 e1 u1 z1 => Bk.i (b109_26 hP (c31 fun m2 a2 w2 => Bk.v (b109_34 hP (c62 (Or.inl rfl) (Bk.i (b109_46 hP (c237 (mkN8 _) (Bk.i (b109_49 hP (c32 w2 (by simp) fun m3 a3 w3 => Bk.v (b109_52 hP (c64 (Or.inl rfl) (Bk.i (b109_63 hP (c32 w3 (by simp) fun m4 a4 w4 => Bk.v (b109_68 hP (K _ _ ?_)))))))))))))))))
    intro Q2 k2
    change m1 48 = qtrs (gD mem) (mem 48) n at e1
    have e2 : m2 48 = qtrs (gD mem) (mem 48) n := by rw [a2 48 (by decide), e1]
    have e3 : m3 48 = qtrs (gD mem) (mem 48) n := by rw [a3 48 (by decide), e2]
    have hSn : SV N R (B + 4 * n) (qtrs (gD mem) (mem 48) n) := by
      have := SV_qs (f := gD mem) (R := R) (B := B) (c := mem 48) (by rw [g1]; exact hS) (by rw [g2]; exact h.2.2.1.2.1) g6 n (by omega)
      rw [g1] at this
      exact this
    have w4' : RwC m4 [nI (stC N (qtrs (gD mem) (mem 48) n)), stA (gD mem) (mem 48) n] := by
      have x1 : cnt (fun p => (mkN (fun p => decide (m2 (47 + 1) (8 + p) = nI 1)) 8).testBit p) 8 = stC N (qtrs (gD mem) (mem 48) n) := by
        rw [cnt_mk, show m2 (47 + 1) = _ from e2, n1]
        exact cnt_ext hN8 (fun p h1 h2 => by rw [(hSn.out h1 h2).2]; rfl)
      have x2 : sumI (fun p => m3 (47 + 1) (40 + p)) 8 - sumI (fun p => mem (47 + 1) (40 + p)) 8 = stA (gD mem) (mem 48) n := by
        rw [show m3 (47 + 1) = _ from e3]
        exact stA_8 (by rw [g1]; exact hN8)
      rw [x1, x2] at w4
      exact w4
    have a5 : Ag [3, 4] m1 m4 := (((a2.mono (by decide)).trans a3).trans a4)
    have aa : Ag ([3, 4] ++ (unC ++ paW)) mem m4 := (a1.mono (fun _ h => List.mem_append_right _ h)).trans (a5.mono (fun _ h => List.mem_append_left _ h))
    have hMB := RRc_MB h (by omega) aa (by decide) (by decide)
    have um4 : UM m4 (fN (gD mem)) u U := by rw [g1]; exact um.mv (aa 132 (by decide)) (by rw [aa 108 (by decide)])
    obtain ⟨fr, -, hu10, -⟩ := uc
    refine m195 hMB hn2 um4 hu10 fun r' m5 b5 v5 u5 w5 _ => ?_
    rw [g1] at v5 u5 w5
    refine k2 _ _ (kEnd2 (N := N) (R := R) (B' := B + 4 * n) ?_ (by omega) hB)
    have e48 : m5 48 = qtrs (gD mem) (mem 48) n := by rw [b5.1 48 (by decide) (by decide), a5 48 (by decide), e1]
    refine ⟨kTx h aa b5 (by decide), ⟨_, w4'.mv (b5.eqs (by decide) (by decide)), w5⟩, kTo h aa b5 (by decide), ⟨by rw [e48]; exact v5, by rw [e48]; exact hSn⟩, RUn_U.mpr ⟨_, _, u1.mv fun c hc => ?_, u5, fun k hk => ?_⟩, kOl h aa b5 (by decide), (kKe h aa b5 (by decide)).mono (by omega), (z1.mv fun c hc => Or.inl (a5 c ?_)).mv fun c hc => Or.inl (b5.1 c ?_ ?_)⟩
    · have : ∀ c ∈ unC, c ∉ qrW ∧ c ≠ 108 ∧ c ∉ [3, 4] := by decide
      obtain ⟨x1, x2, x3⟩ := this c hc
      rw [b5.1 c x1 x2, a5 c x3]
    · by_cases q : n = 0
      · rw [if_pos q] at hk ⊢
        exact (us k hk).mono (Nat.le_refl _) (by omega)
      · rw [if_neg q] at hk ⊢
        unfold puN at hk
        unfold puU
        split at hk
        · rename_i q2
          rw [if_pos q2]
          split
          · exact (us _ (by omega)).mono (Nat.le_refl _) (by omega)
          · exact hS.mono (Nat.le_refl _) (by omega)
        · rename_i q2
          rw [if_neg q2]
          split
          · exact (us _ (by omega)).mono (Nat.le_refl _) (by omega)
          · exact hS.mono (Nat.le_refl _) (by omega)
    · have : ∀ c ∈ zC, c ∉ [3, 4] := by decide
      exact this c hc
    · have : ∀ c ∈ zC, c ∉ qrW := by decide
      exact this c hc
    · have : ∀ c ∈ zC, c ≠ 108 := by decide
      exact this c hc
theorem tk_asks (x : Int32) : Tk 113 198 [.int x] := by
  intro N R B r mem Q h hB K
  obtain ⟨hR, hR4, hN, hN8, hR2, hN2⟩ := (RTo_parts h.2.2.1).1
  obtain ⟨hM, hS⟩ := h.2.2.2.1
  obtain ⟨g1, g2, g3, g4, g5, g6, g7⟩ := RRc_g h
  obtain ⟨now, w1, w2⟩ := hS.now
  refine c_in rfl rfl rfl fun P hP => b113_0 hP (c82 (Or.inl rfl) hR (by omega) (fun hp => Bk.i (b113_8 hP (fun z => absurd rfl z) (fun _ => b113_11 hP (K _ _ ?_)))) (fun rm hp ep => Bk.i (b113_8 hP (fun _ => b113_13 hP (c153 (n := 1) (g := gD mem) (now := now) (Or.inl rfl) g3 g4 (by rw [g1]; exact hS.ok) w2 (by omega) (fun i hi => h.2.2.2.2.2.2.2 48 (by decide) i hi) (fun i hi => h.2.2.2.2.2.2.2 50 (by decide) i hi) fun m1 a1 e1 t1 => Bk.v ?_)) (fun z => absurd z (by decide)))))
  · intro Q2 k2
    exact c_in rfl rfl rfl fun P hP => b198_0 hP (c164 (R := R) (by rw [e20 (by decide), hR2]) (by omega) (fun _ => Bk.i (b198_10 hP (fun z => absurd rfl z) (fun _ => b198_13 hP (k2 _ _ (kEnd (kM20 h) hB))))) (fun p hp2 ep => absurd ep (hp p hp2)))
  · subst ep
    have hrm4 : rm < 4 := by omega
    have v4 : vp_in (nI rm) 4 := vpn hrm4 (by decide)
    have f1 : FI mem 1 m1 := ⟨a1.mono (by decide), e1⟩
    obtain ⟨t2, t3⟩ := t1 0 rfl rm (by omega)
    change m1 52 rm = oA (rmA (gD mem) (goP (gD mem) (mem 48)) rm) at t2
    change m1 53 rm = oB (rmA (gD mem) (goP (gD mem) (mem 48)) rm) at t3
    -- the reference, up to where it has brought everything back
    have mod : ∀ m2, Ag [3, 4] m1 m2 → ∀ Q2 : xQr, (∀ P : xPr, Cl 299 none 198 P Q2 → ∀ r' m5, AgM (133 :: mqW) (20 :: mqV) m2 m5 → MV m5 N (mem 48) → m5 130 rm = oA (rmA (gD mem) (goP (gD mem) (mem 48)) rm) → (∀ ab, rmA (gD mem) (goP (gD mem) (mem 48)) rm = some ab → m5 131 rm = nI ab.2) → P 38 [.ref 108, .int (nI rm)] [] (0, 0) (LAY, RFu r', m5)) → xCall 300 198 [.ref 108, .int (nI rm)] (LAY, RFu r, m2) Q2 := fun m2 a2 Q2 kk => by
      have aa : Ag (3 :: 4 :: fuW) mem m2 := (f1.1.mono (fun _ h => List.mem_cons_of_mem _ (List.mem_cons_of_mem _ h))).trans (a2.mono (by decide))
      have hMB := RRc_MB h (by omega) aa (by decide) (by decide)
      refine c_in rfl rfl rfl fun P hP => b198_0 hP (c164 (R := R) (by rw [e20 (by decide), aa 108 (by decide), hR2]) (by omega) (fun q => absurd rfl (q rm hp)) (fun _ _ _ => Bk.i (b198_10 hP (fun _ => b198_15 hP (m191 (MB20 hMB) fun m3 i3 => Bk.v (b198_24 hP ?_))) (fun z => absurd z (by decide)))))
      obtain ⟨hC, hPV, hMv, now', n1', n2'⟩ := MB20 (x := nI 0) hMB
      obtain ⟨b1, b2, b3⟩ := id i3
      have hNg := hC.2.2.2.1
      refine c190 (now := now') (hC.ag b1 (by decide) (by decide)) hPV b3 n2' (by omega) fun r4 m4 a4 v4 x4 y4 => Bk.i (b198_28 hP ?_)
      have b4 := b1.trans (a4.mono (W' := 133 :: mqW) (V' := mqV) (by decide) (by decide))
      refine c192 (q := 133) (k := 0) (np := 121) (N := N) (c := mem 48) (Or.inr (Or.inl rfl)) rfl (by decide) (by decide) hN8 (by rw [b4.2 2 (by decide), e20 (by decide), aa 108 (by decide), hN2]) (by rw [a4.1 133 (by decide) (by decide), ← g1]; exact b2) fun m5 a5 v5 => Bk.v (kk P hP r4 m5 (t20 (b4.trans (a5.mono (by decide) (by decide)))) v5 ?_ fun ab hab => ?_)
      · rw [a5.1 130 (by decide) (by decide)]
        exact x4 rm (by omega)
      · rw [a5.1 131 (by decide) (by decide)]
        exact y4 rm (by omega) ab hab
    refine b113_22 hP v4 (fun z => ?_) (fun z => b113_35 hP (K _ _ ?_))
    · rw [nIc (by omega), t2] at z
      cases e : rmA (gD mem) (goP (gD mem) (mem 48)) rm with
      | none => rw [e] at z; exact absurd rfl z
      | some ab =>
        rw [e] at t2 t3
        have hab := askR_N (f := gD mem) (c := rm1 (gD mem) (rms (gD mem) (goP (gD mem) (mem 48)) rm) rm) (r := rm) (a := ab.1) (b := ab.2) e
        refine b113_38 hP (c31 fun m2 a2 w2' => Bk.v (b113_45 hP v4 (c32 w2' (by decide) fun m3 a3 w3 => Bk.v (b113_61 hP v4 ?_))))
        have a4 : Ag [3, 4] m1 m3 := (a2.mono (by decide)).trans a3
        rw [nIc (by omega), a4 52 (by decide), t2]
        rw [nIc (by omega), a2 53 (by decide), t3] at w3
        refine K _ _ ?_
        intro Q2 k2
        refine mod m3 a4 Q2 fun P hP r' m5 a5 v5 x5 y5 => ?_
        rw [e] at x5
        have y5 := y5 ab e
        refine b198_38 hP v4 (fun _ => b198_51 hP v4 ?_) (fun z => absurd (show nI ab.1 = -1 from x5.symm.trans (by rw [nIc (by omega)] at z; exact z)) (nI_nm (by omega)))
        rw [nIc (by omega), xu2_ne (c := 131) (by decide), y5]
        have a19 : AgM [] [19] m5 (xu2 m5 108 19 (nI 0)) := AgM.rfl'.us (by simp)
        refine c161 (xs := []) (RwM_nil (by rw [xu2_eq, upd_at])) (by decide) fun m6 a6 w6 => Bk.v (b198_66 hP v4 ?_)
        have a7 : AgM [123] [19] m5 m6 := (a19.mono (by simp) (by simp)).trans a6
        rw [nIc (by omega), a7.1 130 (by decide) (by decide), x5]
        exact k2 _ _ (kEnd (kR1 h f1 a4 w3 ((a5.mono (by decide) (by decide)).trans (a7.mono (by decide) (by decide))) (v5.ag a7 (by decide) (by decide)) w6) hB)
    · rw [nIc (by omega), t2] at z
      cases e : rmA (gD mem) (goP (gD mem) (mem 48)) rm with
      | some ab =>
        rw [e] at z
        have hab := askR_N (f := gD mem) (c := rm1 (gD mem) (rms (gD mem) (goP (gD mem) (mem 48)) rm) rm) (r := rm) (a := ab.1) (b := ab.2) e
        exact absurd (show nI ab.1 = -1 from z) (nI_nm (by omega))
      | none =>
        intro Q2 k2
        refine mod m1 Ag.rfl' Q2 fun P hP r' m5 a5 v5 x5 y5 => ?_
        rw [e] at x5
        exact b198_38 hP v4 (fun z => absurd (by rw [nIc (by omega)]; exact x5) z) (fun _ => b198_48 hP (k2 _ _ (kEnd (kR0 h f1 Ag.rfl' (Or.inl rfl) a5 v5) hB)))
