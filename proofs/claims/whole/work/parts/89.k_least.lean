/-! least, together -/
theorem RRc_91 {mem : Nat → Nat → Int32} {N R B : Nat} {f : Nat → Int32} (h : RRc mem N R B) (hf : f 0 = 0) : RRc (xuA mem 91 f) N R B := by
  have a1 : Ag [91] mem (xuA mem 91 f) := Ag.rfl'.uA (by simp)
  have a2 : AgM [] [] (xuA mem 91 f) (xuA mem 91 f) := AgM.rfl'
  obtain ⟨came, k1, ⟨k2, k3⟩, k4, k5⟩ := id h.2.2.2.2.2.2.1
  have hk : ∀ i, i < 2 → RK1 mem N R B came i → RK1 (xuA mem 91 f) N R B came i := fun i hi q => by
    have c : ∀ i < 2, 68 + i ≠ 91 ∧ 71 + i ≠ 91 ∧ 74 + i ≠ 91 := by decide
    obtain ⟨c1, c2, c3⟩ := c i hi
    exact q.mv' (h.2.2.1.2.2.2.1) (h.2.2.1.2.1) (by rw [xuA_ne (by decide)]) (by rw [xuA_ne (by decide)]) (by rw [xuA_ne (by decide)]) (by rw [xuA_ne (by decide)]) (xuA_ne c1) (xuA_ne c2) (xuA_ne c3) (fun j _ _ => by rw [xuA_ne (by decide)])
  exact ⟨kTx h a1 a2 (by decide), kRw h a1 a2 (by decide), kTo h a1 a2 (by decide), kSt h a1 a2 (by decide), kUn h a1 a2 (by decide), kOl h a1 a2 (by decide), ⟨came, k1, ⟨by rw [xuA_ne (by decide)]; exact k2, by rw [xuA_eq]; exact hf⟩, hk 0 (by decide) k4, hk 1 (by decide) k5⟩, kZe h a1 a2 (by decide)⟩
/-- the moves as they are told -/
def dgS (D : xD) (two : Bool) (n w j : Nat) : Nat := w / sK D two ^ (n - 1 - j) % sK D two
def rowS (D : xD) (two : Bool) (n w : Nat) : Nat → List Int32
  | 0 => []
  | j + 1 => rowS D two n w j ++ if two = true then [nI (dgS D two n w j / dR D), nI (dgS D two n w j % dR D)] else [nI (dgS D two n w j)]
theorem rowS_len {D : xD} {two : Bool} {n w : Nat} : ∀ j, (rowS D two n w j).length = if two = true then 2 * j else j
  | 0 => by cases two <;> rfl
  | j + 1 => by
    unfold rowS
    rw [List.length_append, rowS_len j]
    cases two with
    | true => rw [if_pos rfl, if_pos rfl, if_pos rfl]; show 2 * j + 2 = _; omega
    | false => rw [if_neg (by decide), if_neg (by decide), if_neg (by decide)]; rfl
def seW : List Nat := [3, 4, 26, 27, 28, 29, 31, 32, 33, 34, 35, 36, 37, 38, 39, 40, 41, 42, 43, 44, 45, 46, 52, 53, 54, 81, 83, 85, 86, 87, 88, 89, 90, 91, 92, 93]
section C
variable {d r t N R B : Nat} {mem m' m0 m1 m2 : Nat → Nat → Int32} {Q : xQr} {g : xCf} {c : Nat → Int32} {D : xD}
theorem c58 {two : Bool} {oth n w : Nat} (hR : 0 < dR D) (hR4 : dR D ≤ 4) (hoth : oth < 8) (h26 : m' 26 0 = nI (dR D)) (h9 : m' 81 9 = (if two = true then nI oth else -1)) (h10 : m' 81 10 = nI n) (hn : n ≤ 5) (hn2 : two = true → n ≤ 3) (h93 : ∀ j, j < n → m' 93 j = nI (dgS D two n w j))
    (k : ∀ m2, Ag [3, 4] m' m2 → RwC m2 (rowS D two n w n) → Q none (LAY, RFu r, m2)) : xCall (d + 2) 58 [.ref 81, .ref 3] (LAY, RFu r, m') Q := by
  have hK16 : sK D two ≤ 16 := by
    unfold sK
    have : dR D * dR D ≤ 4 * 4 := Nat.mul_le_mul hR4 hR4
    split <;> omega
  have hK0 : 0 < sK D two := by
    unfold sK
    split
    · exact Nat.mul_pos hR hR
    · exact hR
  refine c_in rfl rfl rfl fun P hP => b58_0 hP (c31 fun m1 a1 w1 => Bk.v (b58_4 hP ?_))
  have key := xloop (N := n) (G := fun j => ∀ m2, Ag [3, 4] m' m2 → RwC m2 (rowS D two n w j) → P 6 [.ref 81, .ref 3, .int (nI j)] [] (0, 0) (LAY, RFu r, m2)) ?_ ?_
  · exact key m1 (a1.mono (by simp)) w1
  · intro m2 a2 w2
    exact b58_6 hP (fun _ => b58_56 hP (k m2 a2 w2)) (fun z => absurd (by rw [a2 81 (by decide), h10]; exact Int32.le_refl _) z)
  · intro j hj ih m2 a2 w2
    have vj : vp_in (nI j) 6 := vpn (by omega) (by decide)
    have hd : dgS D two n w j < 100 := by
      have : dgS D two n w j < sK D two := Nat.mod_lt _ hK0
      omega
    have hlen := rowS_len (D := D) (two := two) (n := n) (w := w) j
    refine b58_6 hP (fun z => absurd z (by rw [a2 81 (by decide), h10]; exact nI_ge hj (by omega))) (fun _ => b58_14 hP vj ?_)
    rw [nIc (by omega), a2 93 (by decide), h93 j hj]
    have e26 : m2 26 0 = nI (dR D) := by rw [a2 26 (by decide), h26]
    have e9 : m2 81 9 = (if two = true then nI oth else -1) := by rw [a2 81 (by decide), h9]
    cases two with
    | true =>
      rw [if_pos rfl] at e9 hlen h9
      have := hn2 rfl
      refine c_in rfl rfl rfl fun P2 hP2 => b56_0 hP2 (fun z => absurd (e9.symm.trans z) (nI_nm (by omega))) (fun _ => b56_8 hP2 (fun _ => b56_22 hP2 (by rw [e26]; exact nI_ne0 (by omega) (by omega)) (b56_31 hP2 (Bk.i (b58_25 hP ?_)))) (fun z => absurd (by rw [e26]; exact nI_lt hR (by omega)) z))
      rw [e26, nI_div (by omega) (by omega) hR]
      refine c32 w2 (by rw [hlen]; omega) fun m3 a3 w3 => Bk.v (b58_28 hP (fun z => absurd (by rw [a3 81 (by decide), e9] at z; exact z) (nI_nm (by omega))) (fun _ => b58_36 hP vj ?_))
      rw [nIc (by omega), a3 93 (by decide), a2 93 (by decide), h93 j hj]
      have f26 : m3 26 0 = nI (dR D) := by rw [a3 26 (by decide), e26]
      refine c_in rfl rfl rfl fun P2 hP2 => b57_0 hP2 (fun _ => b57_14 hP2 (by rw [f26]; exact nI_ne0 (by omega) (by omega)) (b57_23 hP2 (Bk.i (b58_47 hP ?_)))) (fun z => absurd (by rw [f26]; exact nI_lt hR (by omega)) z)
      rw [f26, nI_rem (by omega) (by omega) hR]
      refine c32 w3 (by rw [List.length_append, hlen]; show 2 * j + 1 < 8; omega) fun m4 a4 w4 => Bk.v (b58_50 hP ?_)
      rw [nIs]
      refine ih m4 ((a2.trans a3).trans a4) ?_
      rw [List.append_assoc] at w4
      exact w4
    | false =>
      rw [if_neg (by decide)] at e9 hlen h9
      refine c_in rfl rfl rfl fun P2 hP2 => b56_0 hP2 (fun _ => b56_18 hP2 (b56_31 hP2 (Bk.i (b58_25 hP ?_)))) (fun z => absurd e9 z)
      refine c32 w2 (by rw [hlen]; omega) fun m3 a3 w3 => Bk.v (b58_28 hP (fun _ => b58_50 hP ?_) (fun z => absurd (by rw [a3 81 (by decide)]; exact e9) z))
      rw [nIs]
      exact ih m3 (a2.trans a3) w3
/-- the class's search as a whole, from the town tried on -/
theorem c54 {two : Bool} {one oth n now : Nat} (hD : DOk D) (hone : one < dN D) (hoth : two = true → oth < dN D ∧ one ≠ oth) (hR : 0 < dR D) (hn : n ≤ 5) (hn2 : two = true → n ≤ 3) (hc : c 120 = nI now) (hnow : now + 10 < 1073741824) (hO : OKc (dN D) c)
    (h : DI D two one oth n m0 m') (h85 : m' 85 = c) (h91 : m' 91 0 = 0) (h81 : m' 81 0 = -1)
    (k : ∀ m2, INV D two one oth n c m0 0 0 m2 → ACC D two one oth n c (sK D two ^ n) m2 → Q none (LAY, RFu r, m2)) : xCall (d + 7) 54 [.ref 81] (LAY, RFu r, m') Q := by
  have hN8 := hD.2.1
  have hR4 := hD.1
  have h26 : m' 26 0 = nI (dR D) := by
    obtain ⟨-, ⟨D', t, hD'⟩, -⟩ := h
    rw [t.1]
    rcases hD' with rfl | ⟨mv, rfl⟩
    · rfl
    · rw [sndD_s.1]
  have h9 : m' 81 9 = (if two = true then nI oth else -1) := h.2.2.2.1
  have hcost : cost (sK D two) n < 900000 := by
    cases two with
    | true =>
      have h1 : sK D true ≤ 16 := by
        show dR D * dR D ≤ 16
        exact Nat.mul_le_mul hR4 hR4
      have h2 : ∀ n ≤ 3, cost 16 n < 900000 := by decide
      exact Nat.lt_of_le_of_lt (cost_mono h1 n) (h2 n (hn2 rfl))
    | false =>
      have h2 : ∀ n ≤ 5, cost 4 n < 900000 := by decide
      exact Nat.lt_of_le_of_lt (cost_mono (show sK D false ≤ 4 from hR4) n) (h2 n hn)
  refine c_in rfl rfl rfl fun P hP => ?_
  have go : P 33 [.ref 81, .null, .null, .null, .null] [.int (nI (sK D two))] (0, 0) (LAY, RFu r, m') := by
    refine b54_33 hP (vpn (by decide) (by decide)) ?_
    rw [nIc (by decide)]
    refine dfs (d := d) (m0 := m0) (c := c) (now := now) hP hD hone hoth hR hn hc hnow hO n 0 0 0 _ _ (by omega) ⟨h.u2 hN8 (Or.inl (Or.inr (Or.inl rfl))), fun j hj => ?_, fun j hj => absurd hj (Nat.not_lt_zero j)⟩ (fun _ => by rw [xu2_eq, upd_at]) ⟨?_, fun q => ?_⟩ (by omega) fun m2 x3 x4 _ h2 a2 => ?_
    · rw [show j = 0 by omega, xu2_ne (by decide), xu2_ne (by decide)]
      exact ⟨h85, h91⟩
    · rw [Nat.zero_mul, xu2_ne (by decide), h81]
      rfl
    · rw [Nat.zero_mul] at q
      exact absurd q (Nat.lt_irrefl 0)
    · rw [Nat.zero_add, Nat.one_mul] at a2
      have em : nI 0 + (-1) = (-1 : Int32) := by decide
      refine b54_163 hP (fun _ => b54_180 hP ?_) (fun z => absurd (by rw [em]; decide) z)
      rw [em]
      exact b54_45 hP (fun _ => b54_186 hP (k m2 h2 a2)) (fun _ => b54_51 hP (fun _ => b54_186 hP (k m2 h2 a2)) (fun z => absurd (by decide) z))
  cases two with
  | true =>
    rw [if_pos rfl] at h9
    refine b54_0 hP (fun _ => b54_18 hP ?_) (fun z => absurd (h9.symm.trans z) (nI_nm (by have := hoth rfl; omega)))
    rw [h26, nI_mul]
    exact go
  | false =>
    rw [if_neg (by decide)] at h9
    refine b54_0 hP (fun z => absurd h9 z) (fun _ => b54_8 hP ?_)
    rw [h26]
    exact go
theorem c53 {two : Bool} {one oth n : Nat} (hT : TwD m1 26 D) (hN : dN D ≤ 8) (hz : ∀ c, c ∈ lvC → ∀ i, 121 ≤ i → m1 c i = 0) (hz48 : ∀ i, 121 ≤ i → m1 48 i = 0) (hn : n ≤ 5)
    (k : ∀ m2, DI D two one oth n m1 m2 → m2 85 = m1 48 → m2 81 0 = -1 → m2 91 = m1 91 → Q none (LAY, RFu r, m2)) : xCall (d + 1) 53 [.ref 81, .ref 47, .int (nI one), .int (if two = true then nI oth else -1), .int (nI n)] (LAY, RFu r, m1) Q := by
  refine c_in rfl rfl rfl fun P hP => b53_0 hP (Or.inl rfl) (vpn (by decide) (by decide)) ?_
  rw [nIc (by decide)]
  have en : (if nI 5 < nI n then nI 5 else nI n) = nI n := if_neg (fun z => absurd z (nI_nlt (by omega) (by omega)))
  rw [en]
  generalize hma : xu2 (xu2 (xu2 (xu2 m1 81 8 (nI one)) 81 9 (if two = true then nI oth else -1)) 81 10 (nI n)) 81 0 (-1) = ma
  have ea : ∀ c, c ≠ 81 → ma c = m1 c := fun c hc => by rw [← hma, xu2_ne hc, xu2_ne hc, xu2_ne hc, xu2_ne hc]
  have ec : va_cpy (ma (47 + 1)) (ma (85 + 0)) 0 0 121 = m1 48 := by
    rw [ea (47 + 1) (by decide), ea (85 + 0) (by decide)]
    exact xuA_cpy (fun j hj => by rw [hz (85 + 0) (by decide) j hj, hz48 j hj])
  rw [ec]
  have e2 : ∀ c, c ≠ 81 → c ≠ 85 → xuA ma (85 + 0) (m1 48) c = m1 c := fun c q1 q2 => by rw [xuA_ne q2, ea c q1]
  have e81 : xuA ma (85 + 0) (m1 48) 81 = ma 81 := xuA_ne (by decide)
  have hc : ∀ k ∈ tCells, 26 + k ≠ 81 ∧ 26 + k ≠ 85 := by decide
  have hl : ∀ c ∈ lvC, c ≠ 81 := by decide
  refine k _ ⟨fun c hc => e2 c (fun q => hc (by rw [q]; decide)) (fun q => hc (by rw [q]; decide)), ⟨D, TwD_mv hN hT (fun k hk => e2 _ (hc k hk).1 (hc k hk).2), Or.inl rfl⟩, ?_, ?_, ?_, fun c hc i hi => ?_⟩ (xuA_eq) ?_ (e2 91 (by decide) (by decide))
  · rw [e81, ← hma, xu2_eq, upd_ne (by decide), xu2_eq, upd_ne (by decide), xu2_eq, upd_ne (by decide), xu2_eq, upd_at]
  · rw [e81, ← hma, xu2_eq, upd_ne (by decide), xu2_eq, upd_ne (by decide), xu2_eq, upd_at]
  · rw [e81, ← hma, xu2_eq, upd_ne (by decide), xu2_eq, upd_at]
  · by_cases q : c = 85
    · rw [q, show xuA ma (85 + 0) (m1 48) 85 = m1 48 from xuA_eq]; exact hz48 i hi
    · rw [e2 c (hl c hc) q]; exact hz c hc i hi
  · rw [e81, ← hma, xu2_eq, upd_at]
theorem kS {xs : List Int32} (h : RRc mem N R B) (aa : Ag seW mem m1) (z91 : m1 91 0 = 0) (hz : ∀ c, c ∈ lvC → ∀ i, 121 ≤ i → m1 c i = 0) (w : RwC m1 xs) (a2 : AgM smW smV m1 m2) (v : MV m2 N (mem 48)) (w2 : RwM m2 xs) : RRc m2 N R B := by
  refine RR_ro (mem := xuA mem 91 (m1 91)) (xs := xs) (RRc_91 h z91) (fun c hc => ?_) (h.2.2.2.2.2.2.2.mv fun c hc => ?_) w a2 (by rw [xuA_ne (by decide)]; exact v) w2
  · by_cases q : c = 91
    · rw [q, xuA_eq]
    · rw [xuA_ne q]
      refine aa c fun w => hc ?_
      have : ∀ c ∈ seW, c = 91 ∨ c ∈ scW := by decide
      exact (this c w).resolve_left q
  · by_cases q : c ∈ lvC
    · exact Or.inr (hz c q)
    · refine Or.inl (aa c fun w => q ?_)
      have : ∀ c ∈ zC, c ∉ seW ∨ c ∈ lvC := by decide
      exact (this c hc).resolve_left (fun y => y w)
/-! the reference's side -/
theorem MwD_P {m : Nat → Nat → Int32} {p a : Nat} (h : MwD m D) (hp : p < 8) (ha : a < 4) : MwD (xu2 m 128 p (nI a)) (dsP D p a) := by
  obtain ⟨h1, h2, h3, h4, h5, h6, h7, h8⟩ := h
  have e : ∀ c, c ≠ 128 → xu2 m 128 p (nI a) c = m c := fun c hc => xu2_ne hc
  refine ⟨by rw [e 108 (by decide)]; exact h1, by rw [e 108 (by decide)]; exact h2, by rw [e 109 (by decide)]; exact h3, by rw [e 110 (by decide), e 111 (by decide)]; exact h4, by rw [e 108 (by decide)]; exact h5, fun q hq => ?_, ?_, ?_⟩
  · obtain ⟨q1, q2, q3⟩ := h6 q hq
    rw [e 113 (by decide), e 129 (by decide), e 112 (by decide), xu2_eq]
    refine ⟨q1, q2, ?_⟩
    by_cases w : q = p
    · refine Or.inr ⟨?_, ?_, ?_⟩
      · rw [w, upd_at]; exact fun z => by have := nI_inj z (by omega) (by decide); omega
      · show (if q = p then 1 else dL D q) = 1
        rw [if_pos w]
      · show (if q = p ∧ 0 = 0 then nI a else dP D q 0) = _
        rw [if_pos ⟨w, rfl⟩, w, upd_at]
    · rw [upd_ne w]
      have f1 : dL (dsP D p a) q = dL D q := if_neg w
      have f2 : ∀ k, dP (dsP D p a) q k = dP D q k := fun k => if_neg (fun z => w z.1)
      rw [f1]
      rcases q3 with ⟨y1, y2, y3, y4⟩ | ⟨y1, y2, y3⟩
      · exact Or.inl ⟨y1, y2, y3, fun k hk => by rw [f2]; exact y4 k hk⟩
      · exact Or.inr ⟨y1, y2, by rw [f2]; exact y3⟩
  · unfold RuE RmT at h7 ⊢
    rw [e (125 + 0) (by decide), e 127 (by decide), e 108 (by decide)]
    exact h7
  · unfold RuE RmT at h8 ⊢
    rw [e (125 + 1) (by decide), e 127 (by decide), e 108 (by decide)]
    exact h8
def MS (D : xD) (two : Bool) (one oth : Nat) (c : Nat → Int32) (mb : Nat → Nat → Int32) (s : Nat → Int32) (m' : Nat → Nat → Int32) : Prop :=
  AgM (128 :: 133 :: mqW) mqV mb m' ∧ LV (m' 133) 0 (dN D) c ∧ MV m' (dN D) s ∧ (∃ D', MwD m' D' ∧ (D' = D ∨ ∃ mv, D' = sndD D two one oth mv)) ∧ ∀ p, p ≠ one → (two = true → p ≠ oth) → m' 128 p = mb 128 p
theorem m190s {two : Bool} {one oth mv now : Nat} {s : Nat → Int32} {mb : Nat → Nat → Int32} (hD : DOk D) (hmv : mv < sK D two) (h : MS D two one oth c mb s m') (a : AgM [128] [] m' m2) (w : MwD m2 (sndD D two one oth mv)) (o : ∀ p, p ≠ one → (two = true → p ≠ oth) → m2 128 p = m' 128 p) (hPV : PV (dN D) s) (hs : s 120 = nI now) (hnow : now < 1073741800)
    (k : ∀ r3 m3 y, MS D two one oth c mb (stpD D two one oth s mv) m3 → Q (some (.int y)) (LAY, RFu r3, m3)) : xCall (d + 73) 190 [.ref 108] (LAY, RFu r, m2) Q := by
  obtain ⟨h1, h2, h3, h4, h5⟩ := h
  have hDs : DOk (sndD D two one oth mv) := DOk_snd hD hmv
  have hNs : dN (sndD D two one oth mv) = dN D := sndD_s.2
  refine c190 (f := cfD (sndD D two one oth mv)) (now := now) (MwD_Cf w hDs) (by show PV (dN (sndD D two one oth mv)) s; rw [hNs]; exact hPV) (by show MV m2 (dN (sndD D two one oth mv)) s; rw [hNs]; exact h3.ag a (by decide) (by simp)) hs hnow fun r3 m3 a3 v3 _ _ => k r3 m3 _ ⟨?_, ?_, ?_, ⟨sndD D two one oth mv, MwD_ag w a3 (by decide) (by decide), Or.inr ⟨mv, rfl⟩⟩, fun p p1 p2 => ?_⟩
  · exact (h1.trans (a.mono (by simp) (by simp))).trans (a3.mono (by decide) (by decide))
  · rw [a3.1 133 (by decide) (by decide), a.1 133 (by decide) (by decide)]; exact h2
  · have v3 : MV m3 (dN (sndD D two one oth mv)) (stpD D two one oth s mv) := v3
    rw [hNs] at v3
    exact v3
  · rw [a3.1 128 (by decide) (by decide), o p p1 p2, h5 p p1 p2]
/-- all as they were -/
theorem MS_end {two : Bool} {one oth : Nat} {s : Nat → Int32} {mb : Nat → Nat → Int32} (h : MS D two one oth c mb s m') (e : m2 128 = mb 128) (a : AgM (128 :: mvC) [15] m' m2) : AgM (133 :: mqW) mqV mb m2 := by
  have q : AgM (128 :: 133 :: mqW) mqV mb m2 := h.1.trans (a.mono (by decide) (by decide))
  exact q.drop e
end C
section K
variable {N R B r d n T : Nat} {mem m' m0 m1 m2 m3 m4 m5 : Nat → Nat → Int32} {Q : xQr} {g : xCf} {D : xD}
/-- how the class stands behind the search -/
theorem c_sea {two : Bool} {one oth n d' : Nat} {k' : (Nat → Nat → Int32) → Prop} (h : RRc mem N R B) (hB : B < 500000000) (hone : one < N) (hoth : two = true → oth < N ∧ one ≠ oth) (hR : 0 < R) (hn : n ≤ 5) :
    ∀ m0, TI mem m0 → Ag trC mem m0 → TwD m0 26 (D0 mem) → ∀ {Q1 : xQr}, (∀ m2, DI (D0 mem) two one oth n m0 m2 → m2 85 = mem 48 → m2 91 0 = 0 → m2 81 0 = -1 → Q1 none (LAY, RFu r, m2)) → xCall (d + 1) 53 [.ref 81, .ref 47, .int (nI one), .int (if two = true then nI oth else -1), .int (nI n)] (LAY, RFu r, m0) Q1 := fun m0 f0 a0 t0 Q1 k => by
  obtain ⟨g1, g2, g3, g4, g5, g6, g7, g8, g9⟩ := RRc_g h
  have hZ := h.2.2.2.2.2.2.2
  have hl : ∀ c ∈ lvC, c ∈ zC ∧ c ∉ trC := by decide
  obtain ⟨came, -, ⟨-, k91⟩, -⟩ := h.2.2.2.2.2.2.1
  refine c53 t0 g7.2.1 (fun c hc i hi => by rw [a0 c (hl c hc).2]; exact hZ c (hl c hc).1 i hi) (fun i hi => by rw [a0 48 (by decide)]; exact hZ 48 (by decide) i hi) hn fun m2 d2 e85 e81 e91 => k m2 d2 (by rw [e85, a0 48 (by decide)]) (by rw [e91, a0 91 (by decide)]; exact k91) e81
end K
