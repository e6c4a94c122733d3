/-! the class's search goes through all moves -/
def cost (K : Nat) : Nat → Nat
  | 0 => 0
  | m + 1 => K * (cost K m + 2)
theorem cost_mono {K K' : Nat} (h : K ≤ K') : ∀ m, cost K m ≤ cost K' m
  | 0 => Nat.le_refl _
  | m + 1 => Nat.mul_le_mul h (Nat.add_le_add_right (cost_mono h m) 2)
section C
variable {d r t N R B : Nat} {mem m' m0 m1 m2 : Nat → Nat → Int32} {Q : xQr} {g : xCf} {c : Nat → Int32} {D : xD}
def sTD (D : xD) (two : Bool) (one oth : Nat) (c : Nat → Int32) : Nat → Nat → Nat → Int32 := sT (sK D two) (stpD D two one oth) c
def sGD (D : xD) (two : Bool) (one oth : Nat) (c : Nat → Int32) : Nat → Nat → Nat := sG (sK D two) (stpD D two one oth) (okD two one oth) c
def sAD (D : xD) (two : Bool) (one oth n : Nat) (c : Nat → Int32) : Nat → Nat × Nat := sA (sK D two) n (stpD D two one oth) (okD two one oth) c
/-- on the way at depth i, in the node w -/
def INV (D : xD) (two : Bool) (one oth n : Nat) (c : Nat → Int32) (m0 : Nat → Nat → Int32) (i w : Nat) (m' : Nat → Nat → Int32) : Prop :=
  DI D two one oth n m0 m' ∧ (∀ j, j ≤ i → m' (85 + j) = sTD D two one oth c j (w / sK D two ^ (i - j)) ∧ m' 91 j = nI (sGD D two one oth c j (w / sK D two ^ (i - j)))) ∧ ∀ j, j < i → m' 92 j = nI (w / sK D two ^ (i - 1 - j) % sK D two)
/-- the best of the first k leaves -/
def ACC (D : xD) (two : Bool) (one oth n : Nat) (c : Nat → Int32) (k : Nat) (m' : Nat → Nat → Int32) : Prop :=
  m' 81 0 = plC (sAD D two one oth n c k).1 ∧ (0 < (sAD D two one oth n c k).1 → ∀ j, j < n → m' 93 j = nI ((sAD D two one oth n c k).2 / sK D two ^ (n - 1 - j) % sK D two))
theorem dfs {two : Bool} {one oth n now : Nat} {P : xPr} (hP : Cl (d + 6) none 54 P Q) (hD : DOk D) (hone : one < dN D) (hoth : two = true → oth < dN D ∧ one ≠ oth) (hR : 0 < dR D) (hn : n ≤ 5) (hc : c 120 = nI now) (hnow : now + 10 < 1073741824) (hO : OKc (dN D) c) :
    ∀ m i w x3 v4 m', i + m = n → INV D two one oth n c m0 i w m' → (m ≠ 0 → m' 92 i = nI 0) → ACC D two one oth n c (w * sK D two ^ m) m' → x3 + cost (sK D two) m < 1000000 →
      (∀ m2 x3' x4, x3' ≤ x3 + cost (sK D two) m → INV D two one oth n c m0 i w m2 → ACC D two one oth n c ((w + 1) * sK D two ^ m) m2 → P 163 [.ref 81, .int (nI (sK D two)), .int (nI i), .int (nI x3'), x4] [] (0, 0) (LAY, RFu r, m2)) →
      P 45 [.ref 81, .int (nI (sK D two)), .int (nI i), .int (nI x3), v4] [] (0, 0) (LAY, RFu r, m') := by
  have hN8 := hD.2.1
  have hR4 := hD.1
  have hK0 : 0 < sK D two := by
    unfold sK
    split
    · exact Nat.mul_pos hR hR
    · exact hR
  have hK16 : sK D two ≤ 16 := by
    unfold sK
    have : dR D * dR D ≤ 4 * 4 := Nat.mul_le_mul hR4 hR4
    split <;> omega
  have hst : ∀ i w, OKc (dN D) (sTD D two one oth c i w) ∧ sTD D two one oth c i w 120 = nI (now + i) := fun i w => by
    refine sT_ind (Pr := fun i s => OKc (dN D) s ∧ s 120 = nI (now + i)) hK0 ⟨hO, hc⟩ (fun i s mv hmv h => ?_) i w
    have hs2 : fN (cfD (sndD D two one oth mv)) = dN D := sndD_s.2
    refine ⟨?_, ?_⟩
    · have := OKc_qtr (f := cfD (sndD D two one oth mv)) (c := s) (by omega) (by rw [hs2]; exact h.1)
      rw [hs2] at this
      exact this
    · show qtr _ s 120 = _
      rw [qtr_120 (by omega), h.2, show (1 : Int32) = nI 1 from rfl, nIs]
      rfl
  generalize hK : sK D two = K at *
  have gle : ∀ i w, sGD D two one oth c i w ≤ i := fun i w => sG_le1 i w
  have ale : ∀ k, (sAD D two one oth n c k).1 ≤ n + 1 := fun k => (sA_lt k).1
  -- is there more to win from here?
  have opn : ∀ i w m' x1 x3 v4 k, i ≤ n → INV D two one oth n c m0 i w m' → ACC D two one oth n c k m' → x3 < 1000000 → (sGD D two one oth c i w + (n - i) + 1 ≤ (sAD D two one oth n c k).1 → P 80 [.ref 81, .int x1, .int (nI i), .int (nI x3), v4] [.int (nI 0)] (0, 0) (LAY, RFu r, m')) → (¬ sGD D two one oth c i w + (n - i) + 1 ≤ (sAD D two one oth n c k).1 → P 80 [.ref 81, .int x1, .int (nI i), .int (nI x3), v4] [.int (nI 1)] (0, 0) (LAY, RFu r, m')) → P 45 [.ref 81, .int x1, .int (nI i), .int (nI x3), v4] [] (0, 0) (LAY, RFu r, m') := fun i w m' x1 x3 v4 k hi h ha hx k0 k1 => by
    have eg : m' 91 i = nI (sGD D two one oth c i w) := by
      have := (h.2.1 i (Nat.le_refl _)).2
      rw [Nat.sub_self, Nat.pow_zero, Nat.div_one] at this
      exact this
    have e10 : m' 81 10 = nI n := h.1.2.2.2.2.1
    have gl := gle i w
    have al := ale k
    have ee : nI (sGD D two one oth c i w) + nI n - nI i = nI (sGD D two one oth c i w + (n - i)) := by
      rw [nI_add, nI_sub (by omega)]
      congr 1
      omega
    refine b54_45 hP (fun z => absurd z (nI_ge (by omega) (by decide))) (fun _ => b54_51 hP (fun z => absurd z (nI_pos (by omega))) (fun _ => b54_55 hP (vpn (by omega) (by decide)) (fun z => b54_79 hP (k0 ?_)) (fun z => b54_75 hP (k1 ?_)))) <;> rw [nIc (by omega), eg, e10, ha.1, ee, plC_le (by omega) (by omega)] at z
    · exact z
    · exact z
  intro m
  induction m with
  | zero =>
    intro i w x3 v4 m' him h _ ha hx k
    have hi : i = n := by omega
    subst hi
    rw [Nat.pow_zero, Nat.mul_one] at ha
    rw [show cost K 0 = 0 from rfl] at k hx
    have k := fun m2 x4 h1 h2 => k m2 x3 x4 (by omega) h1 h2
    rw [Nat.pow_zero, Nat.mul_one] at k
    have e10 : m' 81 10 = nI i := h.1.2.2.2.2.1
    have es : sAD D two one oth i c (w + 1) = if (sAD D two one oth i c w).1 < sGD D two one oth c i w + 1 then (sGD D two one oth c i w + 1, w) else sAD D two one oth i c w := by
      unfold sAD sGD
      rfl
    refine opn i w m' _ x3 _ w (Nat.le_refl _) h ha (by omega) (fun z => ?_) (fun z => ?_)
    · rw [Nat.sub_self] at z
      rw [if_neg (by omega)] at es
      refine b54_80 hP (fun _ => b54_123 hP (fun y => absurd e10.symm y) (fun _ => b54_131 hP (fun _ => k m' _ h ?_) (fun y => absurd rfl y))) (fun y => absurd (by rw [e10]; exact Int32.le_refl _) y)
      unfold ACC at ha ⊢
      rw [es]
      exact ha
    · rw [Nat.sub_self] at z
      rw [if_pos (by omega)] at es
      have eg : m' 91 i = nI (sGD D two one oth c i w) := by
        have := (h.2.1 i (Nat.le_refl _)).2
        rw [Nat.sub_self, Nat.pow_zero, Nat.div_one] at this
        exact this
      have h81 : ∀ x, xu2 m' 81 0 x 81 10 = nI i := fun x => by rw [xu2_eq, upd_ne (by decide), e10]
      refine b54_80 hP (fun _ => b54_123 hP (fun y => absurd e10.symm y) (fun _ => b54_131 hP (fun y => absurd y (by decide)) (fun _ => b54_136 hP (vpn (by omega) (by decide)) (by rw [h81]; exact pw (by omega)) (by rw [h81, nIc (by omega)]; omega) ?_))) (fun y => absurd (by rw [e10]; exact Int32.le_refl _) y)
      rw [nIc (by omega), h81, nIc (by omega), eg, xu2_ne (c := 92) (by decide), xu2_ne (c := 93) (by decide)]
      generalize hm2 : xuA (xu2 m' 81 0 (nI (sGD D two one oth c i w))) 93 (va_cpy (m' 92) (m' 93) 0 0 i) = m2
      have hDI : DI D two one oth i m0 m2 := by rw [← hm2]; exact (h.1.u2 hN8 (Or.inr ⟨rfl, rfl⟩)).uA hN8
      have f2 : ∀ c, c ≠ 81 → c ≠ 93 → m2 c = m' c := fun c q1 q2 => by rw [← hm2, xuA_ne q2, xu2_ne q1]
      refine k m2 _ ⟨hDI, fun j hj => ?_, fun j hj => ?_⟩ ⟨?_, fun _ j hj => ?_⟩
      · rw [f2 _ (by omega) (by omega), f2 91 (by decide) (by decide)]; exact h.2.1 j hj
      · rw [f2 92 (by decide) (by decide)]; exact h.2.2 j hj
      · rw [es, ← hm2, xuA_ne (by decide), xu2_eq, upd_at]
        exact (if_neg (by omega)).symm
      · rw [es, ← hm2, xuA_eq, cpy_lt hj]
        exact h.2.2 j hj
  | succ m ih =>
    intro i w x3 v4 m' him h h92 ha hx k
    have hcm : cost K (m + 1) = K * (cost K m + 2) := rfl
    have e10 : ∀ {m'}, INV D two one oth n c m0 i w m' → m' 81 10 = nI n := fun h => h.1.2.2.2.2.1
    have e1 : ∀ j, (w * K + j) * K ^ m = w * K ^ (m + 1) + j * K ^ m := fun j => by rw [Nat.pow_succ, Nat.add_mul, Nat.mul_assoc, Nat.mul_comm K (K ^ m)]
    have eK : w * K ^ (m + 1) + K * K ^ m = (w + 1) * K ^ (m + 1) := by rw [Nat.add_mul, Nat.one_mul, Nat.pow_succ, Nat.mul_comm K (K ^ m)]
    have key := xloop (N := K) (G := fun j => ∀ m2 y3 v4, y3 ≤ x3 + j * (cost K m + 2) → INV D two one oth n c m0 i w m2 → m2 92 i = nI j → ACC D two one oth n c (w * K ^ (m + 1) + j * K ^ m) m2 → P 45 [.ref 81, .int (nI K), .int (nI i), .int (nI y3), v4] [] (0, 0) (LAY, RFu r, m2)) ?_ ?_
    · refine key m' x3 v4 (by omega) h (h92 (by omega)) ?_
      rw [Nat.zero_mul, Nat.add_zero]
      exact ha
    · intro m2 y3 v4 hy h2 h92' ha2
      rw [eK] at ha2
      have d123 : ∀ v4, P 123 [.ref 81, .int (nI K), .int (nI i), .int (nI y3), v4] [] (0, 0) (LAY, RFu r, m2) → P 123 [.ref 81, .int (nI K), .int (nI i), .int (nI y3), v4] [] (0, 0) (LAY, RFu r, m2) := fun _ q => q
      have o123 : ∀ y : Int32, P 80 [.ref 81, .int (nI K), .int (nI i), .int (nI y3), v4] [.int y] (0, 0) (LAY, RFu r, m2) := fun y =>
        b54_80 hP (fun z => absurd (by rw [e10 h2] at z; exact z) (nI_ge (by omega) (by omega))) (fun _ => b54_90 hP (vpn (by omega) (by decide)) (fun _ => b54_123 hP (fun _ => k m2 y3 _ (by omega) h2 ha2) (fun z => absurd (by rw [e10 h2] at z; exact z) (fun q => by have := nI_inj q (by omega) (by omega); omega))) (fun z => absurd (by rw [nIc (by omega), h92']; exact Int32.le_refl _) z))
      exact opn i w m2 _ y3 _ _ (by omega) h2 ha2 (by omega) (fun _ => o123 _) (fun _ => o123 _)
    · intro j hj ih2 m2 y3 v4 hy h2 h92' ha2
      have hjc : j * (cost K m + 2) + (cost K m + 2) ≤ K * (cost K m + 2) := by
        rw [← Nat.succ_mul]
        exact Nat.mul_le_mul_right _ hj
      have gl := gle i w
      refine opn i w m2 _ y3 _ _ (by omega) h2 ha2 (by omega) (fun z => ?_) (fun z => ?_)
      · -- no more to win: the rest of them changes nothing
        have hsame : sAD D two one oth n c ((w + 1) * K ^ (m + 1)) = sAD D two one oth n c (w * K ^ (m + 1) + j * K ^ m) := by
          have hle : j * K ^ m ≤ K * K ^ m := Nat.mul_le_mul_right _ (Nat.le_of_lt hj)
          rw [← eK, show w * K ^ (m + 1) + K * K ^ m = w * K ^ (m + 1) + j * K ^ m + (K * K ^ m - j * K ^ m) by omega]
          refine sA_same _ (fun x hx1 hx2 => ?_)
          have hxw : x / K ^ (m + 1) = w := by
            refine Nat.div_eq_of_lt_le ?_ ?_
            · omega
            · rw [← Nat.succ_eq_add_one, ← eK] at *
              omega
          have := sG_le (K := sK D two) (stp := stpD D two one oth) (ok := okD two one oth) (c := c) i (m + 1) x
          rw [hK, hxw, show i + (m + 1) = n by omega] at this
          have z' : sG (sK D two) (stpD D two one oth) (okD two one oth) c i w + (n - i) + 1 ≤ (sA (sK D two) n (stpD D two one oth) (okD two one oth) c (w * K ^ (m + 1) + j * K ^ m)).1 := z
          rw [hK] at z'
          rw [hK]
          omega
        have ha3 : ACC D two one oth n c ((w + 1) * K ^ (m + 1)) m2 := by
          unfold ACC at ha2 ⊢
          rw [hsame]
          exact ha2
        refine b54_80 hP (fun z => absurd (by rw [e10 h2] at z; exact z) (nI_ge (by omega) (by omega))) (fun _ => b54_90 hP (vpn (by omega) (by decide)) (fun z => absurd z (by rw [nIc (by omega), h92']; exact nI_ge hj (by omega))) (fun _ => b54_100 hP (fun _ => b54_123 hP (fun _ => k m2 y3 _ (by omega) h2 ha3) (fun z => absurd (by rw [e10 h2] at z; exact z) (fun q => by have := nI_inj q (by omega) (by omega); omega))) (fun z => absurd rfl z)))
      · -- one further down
        have hdj : (w * K + j) / K = w := by rw [Nat.mul_comm, Nat.mul_add_div hK0, Nat.div_eq_of_lt hj, Nat.add_zero]
        have hmj : (w * K + j) % K = j := by rw [Nat.mul_comm, Nat.mul_add_mod, Nat.mod_eq_of_lt hj]
        obtain ⟨q1, q2⟩ := h2.2.1 i (Nat.le_refl _)
        rw [Nat.sub_self, Nat.pow_zero, Nat.div_one] at q1 q2
        have hTs : sTD D two one oth c (i + 1) (w * K + j) = stpD D two one oth (sTD D two one oth c i w) j := by
          show stpD D two one oth (sTD D two one oth c i ((w * K + j) / sK D two)) ((w * K + j) % sK D two) = _
          rw [hK, hdj, hmj]
        have hGs : sGD D two one oth c (i + 1) (w * K + j) = sGD D two one oth c i w + if okD two one oth (stpD D two one oth (sTD D two one oth c i w) j) = true then 1 else 0 := by
          rw [← hTs]
          show sGD D two one oth c i ((w * K + j) / sK D two) + (if okD two one oth (sTD D two one oth c (i + 1) (w * K + j)) = true then 1 else 0) = _
          rw [hK, hdj]
        have hst' := hst i w
        refine b54_80 hP (fun z => absurd (by rw [e10 h2] at z; exact z) (nI_ge (by omega) (by omega))) (fun _ => b54_90 hP (vpn (by omega) (by decide)) (fun z => absurd z (by rw [nIc (by omega), h92']; exact nI_ge hj (by omega))) (fun _ => b54_100 hP (fun z => absurd z (by decide)) (fun _ => b54_105 hP (c55 (d := d) (two := two) (one := one) (oth := oth) (n := n) (i := i) (mv := j) (now := now + i) (s := sTD D two one oth c i w) (gd := sGD D two one oth c i w) hD hone hoth h2.1 (by omega) (by rw [hK]; exact hj) hR h92' q1 q2 hst'.2 (by omega) hst'.1 fun m3 d3 t3 g3 o3 p3 r3 u3 => Bk.v (b54_110 hP (by rw [nIs]; exact vpn (by omega) (by decide)) (b54_180 hP ?_))))))
        rw [nIs, nIs, nIc (by omega)]
        have hI3 : INV D two one oth n c m0 (i + 1) (w * K + j) (xu2 m3 92 (i + 1) (nI 0)) := by
          refine ⟨d3.u2 hN8 (Or.inl (Or.inr (Or.inl rfl))), fun x hx => ?_, fun x hx => ?_⟩
          · rw [xu2_ne (by omega), xu2_ne (by decide)]
            by_cases q : x = i + 1
            · rw [q, Nat.sub_self, Nat.pow_zero, Nat.div_one, t3, g3, hTs, hGs]
              exact ⟨rfl, rfl⟩
            · rw [(o3 x (by omega)).1, (o3 x (by omega)).2, show i + 1 - x = (i - x) + 1 by omega, hK, pw_succ, hdj]
              have := h2.2.1 x (by omega)
              rw [hK] at this
              exact this
          · rw [xu2_eq, upd_ne (by omega), p3, hK]
            by_cases q : x = i
            · rw [q, h92', show i + 1 - 1 - i = 0 by omega, Nat.pow_zero, Nat.div_one, hmj]
            · have := h2.2.2 x (by omega)
              rw [this, hK, show i + 1 - 1 - x = (i - 1 - x) + 1 by omega, pw_succ, hdj]
        have hA3 : ACC D two one oth n c ((w * K + j) * K ^ m) (xu2 m3 92 (i + 1) (nI 0)) := by
          rw [e1]
          unfold ACC at ha2 ⊢
          rw [xu2_ne (by decide), xu2_ne (by decide), u3, r3]
          exact ha2
        refine ih (i + 1) (w * K + j) (y3 + 1) _ _ (by omega) hI3 (fun _ => by rw [xu2_eq, upd_at]) hA3 (by omega) fun m4 z3 x4 hz h4 ha4 => ?_
        have em : nI (i + 1) + (-1) = nI i := topI
        refine b54_163 hP (fun y => absurd y (by rw [em]; exact pw (by omega))) (fun _ => ?_)
        rw [em]
        refine b54_170 hP (vpn (by omega) (by decide)) (vpn (by omega) (by decide)) (b54_180 hP ?_)
        rw [nIc (by omega), nIs]
        have e92i : m4 92 i = nI j := by
          have := h4.2.2 i (by omega)
          rw [hK, show i + 1 - 1 - i = 0 by omega, Nat.pow_zero, Nat.div_one, hmj] at this
          exact this
        rw [e92i, nIs]
        refine ih2 (xu2 m4 92 i (nI (j + 1))) (z3 + 1) _ ?_ ⟨h4.1.u2 hN8 (Or.inl (Or.inr (Or.inl rfl))), fun x hx => ?_, fun x hx => ?_⟩ (by rw [xu2_eq, upd_at]) ?_
        · rw [Nat.succ_mul]; omega
        · rw [xu2_ne (by omega), xu2_ne (by decide)]
          have := h4.2.1 x (by omega)
          rw [hK, show i + 1 - x = (i - x) + 1 by omega, pw_succ, hdj] at this
          rw [hK]
          exact this
        · rw [xu2_eq, upd_ne (by omega)]
          have := h4.2.2 x (by omega)
          rw [hK, show i + 1 - 1 - x = (i - 1 - x) + 1 by omega, pw_succ, hdj] at this
          rw [hK]
          exact this
        · rw [Nat.succ_mul, ← Nat.add_assoc, ← e1 j]
          have : (w * K + j + 1) * K ^ m = (w * K + j) * K ^ m + K ^ m := by rw [Nat.add_mul, Nat.one_mul]
          rw [this] at ha4
          unfold ACC at ha4 ⊢
          rw [xu2_ne (by decide), xu2_ne (by decide)]
          exact ha4
end C
