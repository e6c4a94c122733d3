/-! day: how it is read -/
abbrev xAcT : Type := Nat × Nat × Nat × Nat
def acF (g : Nat → Nat) (a : Nat) : Bool × Nat × xAcT :=
  if g a = 113 then
    if 48 ≤ g (a + 1) ∧ g (a + 1) ≤ 57 then (true, (numF g 2 (a + 1) 0).1, (113, 0, 0, (numF g 2 (a + 1) 0).2)) else (false, a + 1, (0, 0, 0, 0))
  else if g a = 99 then
    if 48 ≤ g (a + 1) ∧ g (a + 1) ≤ 57 then
      if g (a + 1 + 1) = 61 then
        if 48 ≤ g (a + 1 + 1 + 1) ∧ g (a + 1 + 1 + 1) ≤ 56 then (true, a + 1 + 1 + 1 + 1, (99, g (a + 1) - 48, 0, g (a + 1 + 1 + 1) - 48)) else (false, a + 1 + 1 + 1, (0, 0, 0, 0))
      else (false, a + 1 + 1, (0, 0, 0, 0))
    else (false, a + 1, (0, 0, 0, 0))
  else if g a = 115 ∨ g a = 119 then
    if 48 ≤ g (a + 1) ∧ g (a + 1) ≤ 57 then (true, a + 1 + 1, (g a, g (a + 1) - 48, 0, 0)) else (false, a + 1, (0, 0, 0, 0))
  else if g a = 108 then
    if 48 ≤ g (a + 1) ∧ g (a + 1) ≤ 57 then
      if g (a + 1 + 1) = 62 then
        if 48 ≤ g (a + 1 + 1 + 1) ∧ g (a + 1 + 1 + 1) ≤ 57 then
          if g (a + 1 + 1 + 1 + 1) = 42 then
            if 48 ≤ g (a + 1 + 1 + 1 + 1 + 1) ∧ g (a + 1 + 1 + 1 + 1 + 1) ≤ 57 then (true, (numF g 2 (a + 1 + 1 + 1 + 1 + 1) 0).1, (108, g (a + 1) - 48, g (a + 1 + 1 + 1) - 48, (numF g 2 (a + 1 + 1 + 1 + 1 + 1) 0).2)) else (false, a + 1 + 1 + 1 + 1 + 1, (0, 0, 0, 0))
          else (false, a + 1 + 1 + 1 + 1, (0, 0, 0, 0))
        else (false, a + 1 + 1 + 1, (0, 0, 0, 0))
      else (false, a + 1 + 1, (0, 0, 0, 0))
    else (false, a + 1, (0, 0, 0, 0))
  else (false, a, (0, 0, 0, 0))
def AcC (m : Nat → Nat → Int32) (k : Nat) (c : xAcT) : Prop := m 100 k = nI c.1 ∧ (c.1 = 113 → m 103 k = nI c.2.2.2) ∧ (c.1 = 99 → m 101 k = nI c.2.1 ∧ m 103 k = nI c.2.2.2) ∧ (c.1 = 115 ∨ c.1 = 119 → m 101 k = nI c.2.1) ∧ (c.1 = 108 → m 101 k = nI c.2.1 ∧ m 102 k = nI c.2.2.1 ∧ m 103 k = nI c.2.2.2)
def AcM (m : Nat → Nat → Int32) (k : Nat) (c : xAcT) : Prop := m 134 (4 * k) = nI c.1 ∧ (c.1 = 113 → m 134 (4 * k + 1) = nI c.2.2.2) ∧ (c.1 = 99 → m 134 (4 * k + 1) = nI c.2.1 ∧ m 134 (4 * k + 2) = nI c.2.2.2) ∧ (c.1 = 115 ∨ c.1 = 119 → m 134 (4 * k + 1) = nI c.2.1) ∧ (c.1 = 108 → m 134 (4 * k + 1) = nI c.2.1 ∧ m 134 (4 * k + 2) = nI c.2.2.1 ∧ m 134 (4 * k + 3) = nI c.2.2.2)
def AcOk (c : xAcT) : Prop := (c.1 = 113 ∨ c.1 = 99 ∨ c.1 = 115 ∨ c.1 = 119 ∨ c.1 = 108) ∧ c.2.1 < 10 ∧ c.2.2.1 < 10 ∧ c.2.2.2 < 100 ∧ (c.1 = 99 → c.2.2.2 ≤ 8)
theorem acF_ok {g : Nat → Nat} {a e : Nat} {c : xAcT} (h : acF g a = (true, e, c)) : AcOk c ∧ a + 2 ≤ e := by
  have n2 : ∀ b, 48 ≤ g b ∧ g b ≤ 57 → b + 1 ≤ (numF g 2 b 0).1 ∧ (numF g 2 b 0).2 < 100 := fun b hb => by
    have h1 := (numF_le (g := g) (d := 1) (a := b + 1) (v := 10 * 0 + (g b - 48))).1
    have h2 := (numF_le (g := g) (d := 2) (a := b) (v := 0)).2.2
    have e : numF g 2 b 0 = numF g 1 (b + 1) (10 * 0 + (g b - 48)) := by rw [numF_s, if_pos hb]
    refine ⟨by rw [e]; exact h1, by omega⟩
  unfold acF at h
  by_cases c1 : g a = 113
  · rw [if_pos c1] at h
    by_cases c2 : 48 ≤ g (a + 1) ∧ g (a + 1) ≤ 57
    · rw [if_pos c2] at h
      simp only [Prod.mk.injEq, true_and] at h
      obtain ⟨rfl, rfl⟩ := h
      have := n2 (a + 1) c2
      exact ⟨⟨Or.inl rfl, by show (0 : Nat) < 10; decide, by show (0 : Nat) < 10; decide, this.2, fun z => absurd z (by show ¬ (113 : Nat) = 99; decide)⟩, by omega⟩
    · rw [if_neg c2] at h; simp at h
  · rw [if_neg c1] at h
    by_cases c1 : g a = 99
    · rw [if_pos c1] at h
      by_cases c2 : 48 ≤ g (a + 1) ∧ g (a + 1) ≤ 57
      · rw [if_pos c2] at h
        by_cases c3 : g (a + 1 + 1) = 61
        · rw [if_pos c3] at h
          by_cases c4 : 48 ≤ g (a + 1 + 1 + 1) ∧ g (a + 1 + 1 + 1) ≤ 56
          · rw [if_pos c4] at h
            simp only [Prod.mk.injEq, true_and] at h
            obtain ⟨rfl, rfl⟩ := h
            exact ⟨⟨Or.inr (Or.inl rfl), by show g (a + 1) - 48 < 10; omega, by show (0 : Nat) < 10; decide, by show g (a + 1 + 1 + 1) - 48 < 100; omega, fun _ => by show g (a + 1 + 1 + 1) - 48 ≤ 8; omega⟩, by omega⟩
          · rw [if_neg c4] at h; simp at h
        · rw [if_neg c3] at h; simp at h
      · rw [if_neg c2] at h; simp at h
    · rw [if_neg c1] at h
      by_cases c1 : g a = 115 ∨ g a = 119
      · rw [if_pos c1] at h
        by_cases c2 : 48 ≤ g (a + 1) ∧ g (a + 1) ≤ 57
        · rw [if_pos c2] at h
          simp only [Prod.mk.injEq, true_and] at h
          obtain ⟨rfl, rfl⟩ := h
          exact ⟨⟨by show g a = 113 ∨ g a = 99 ∨ g a = 115 ∨ g a = 119 ∨ g a = 108; omega, by show g (a + 1) - 48 < 10; omega, by show (0 : Nat) < 10; decide, by show (0 : Nat) < 100; decide, fun _ => Nat.zero_le _⟩, by omega⟩
        · rw [if_neg c2] at h; simp at h
      · rw [if_neg c1] at h
        by_cases c1 : g a = 108
        · rw [if_pos c1] at h
          by_cases c2 : 48 ≤ g (a + 1) ∧ g (a + 1) ≤ 57
          · rw [if_pos c2] at h
            by_cases c3 : g (a + 1 + 1) = 62
            · rw [if_pos c3] at h
              by_cases c4 : 48 ≤ g (a + 1 + 1 + 1) ∧ g (a + 1 + 1 + 1) ≤ 57
              · rw [if_pos c4] at h
                by_cases c5 : g (a + 1 + 1 + 1 + 1) = 42
                · rw [if_pos c5] at h
                  by_cases c6 : 48 ≤ g (a + 1 + 1 + 1 + 1 + 1) ∧ g (a + 1 + 1 + 1 + 1 + 1) ≤ 57
                  · rw [if_pos c6] at h
                    simp only [Prod.mk.injEq, true_and] at h
                    obtain ⟨rfl, rfl⟩ := h
                    have := n2 (a + 1 + 1 + 1 + 1 + 1) c6
                    exact ⟨⟨Or.inr (Or.inr (Or.inr (Or.inr rfl))), by show g (a + 1) - 48 < 10; omega, by show g (a + 1 + 1 + 1) - 48 < 10; omega, this.2, fun z => absurd z (by show ¬ (108 : Nat) = 99; decide)⟩, by omega⟩
                  · rw [if_neg c6] at h; simp at h
                · rw [if_neg c5] at h; simp at h
              · rw [if_neg c4] at h; simp at h
            · rw [if_neg c3] at h; simp at h
          · rw [if_neg c2] at h; simp at h
        · rw [if_neg c1] at h; simp at h
theorem hcx_ti {x c : Nat} (hc : c < 256) : (hcx x).toInt = (c : Int) ↔ x = c := by
  unfold hcx
  by_cases q : x < 256
  · rw [if_pos q, nI_toInt (by omega)]; omega
  · rw [if_neg q]
    have : ((-1 : Int32)).toInt = -1 := by decide
    rw [this]; omega
def ASm (mem m' : Nat → Nat → Int32) (k : Nat) : Prop := Ag [1, 100, 101, 102, 103] mem m' ∧ ∀ i, i ≠ k → m' 100 i = mem 100 i ∧ m' 101 i = mem 101 i ∧ m' 102 i = mem 102 i ∧ m' 103 i = mem 103 i
section K
variable {d r k : Nat} {mem m' : Nat → Nat → Int32} {Q : xQr} {len lim a b : Nat} {g : Nat → Nat} {x : Int32}
theorem ASm.tx (h : ASm mem m' k) : ASm mem (txM m' b) k := ⟨h.1.trans (txM_ag.mono (by simp)), fun i hi => by rw [txM_ag 100 (by decide), txM_ag 101 (by decide), txM_ag 102 (by decide), txM_ag 103 (by decide)]; exact h.2 i hi⟩
theorem ASm.s {c : Nat} (h : ASm mem m' k) (hc : c = 100 ∨ c = 101 ∨ c = 102 ∨ c = 103) : ASm mem (xu2 m' c k x) k := by
  refine ⟨h.1.u2 (by simp; omega), fun i hi => ?_⟩
  have e : ∀ j, xu2 m' c k x j i = m' j i := fun j => by
    by_cases q : j = c
    · rw [q, xu2_eq, upd_ne hi]
    · rw [xu2_ne q]
  rw [e, e, e, e]
  exact h.2 i hi
theorem RC.st {c : Nat} (h : RC mem len lim a g) (hc : c = 100 ∨ c = 101 ∨ c = 102 ∨ c = 103) : RC (xu2 mem c k x) len lim a g := h.sm (by rw [xu2_ne (by omega)]) (by rw [xu2_ne (by omega)])
theorem c20 (hM : RC mem len lim a g) (hk : k < 60) (k0 : ¬ (48 ≤ g a ∧ g a ≤ 57) → Q (some (.int (nI 0))) (LAY, RFu r, xu2 mem 101 k (-1))) (k1 : 48 ≤ g a ∧ g a ≤ 57 → Q (some (.int (nI 1))) (LAY, RFu r, xu2 (txM mem (a + 1)) 101 k (nI (g a - 48)))) : xCall (d + 3) 20 [.ref 99, .int (nI k)] (LAY, RFu r, mem) Q := by
  have vk : vp_in (nI k) 60 := vpn hk (by decide)
  have ck : (nI k).toNatClampNeg = k := nIc (by omega)
  refine c_in rfl rfl rfl fun P hP => b20_0 hP (c77d (x := 9) hM (by decide) (fun h => Bk.i (b20_14 hP vk vk (fun _ => b20_29 hP (b20_30 hP (Or.inl rfl) ?_)) (fun z => absurd (by rw [ck, xu2_eq, upd_at]) z))) (fun h1 h2 => Bk.i (b20_14 hP vk vk (fun z => absurd z ?_) (fun _ => b20_25 hP (b20_30 hP (Or.inr rfl) ?_)))))
  · rw [ck]; exact k0 h
  · rw [ck, xu2_eq, upd_at]; exact nI_nm (by omega)
  · rw [ck]; exact k1 ⟨h1, h2⟩
theorem c21 (hM : RC mem len lim a g) (hk : k < 60) (k0 : ¬ (48 ≤ g a ∧ g a ≤ 57) → Q (some (.int (nI 0))) (LAY, RFu r, xu2 mem 102 k (-1))) (k1 : 48 ≤ g a ∧ g a ≤ 57 → Q (some (.int (nI 1))) (LAY, RFu r, xu2 (txM mem (a + 1)) 102 k (nI (g a - 48)))) : xCall (d + 3) 21 [.ref 99, .int (nI k)] (LAY, RFu r, mem) Q := by
  have vk : vp_in (nI k) 60 := vpn hk (by decide)
  have ck : (nI k).toNatClampNeg = k := nIc (by omega)
  refine c_in rfl rfl rfl fun P hP => b21_0 hP (c77d (x := 9) hM (by decide) (fun h => Bk.i (b21_14 hP vk vk (fun _ => b21_29 hP (b21_30 hP (Or.inl rfl) ?_)) (fun z => absurd (by rw [ck, xu2_eq, upd_at]) z))) (fun h1 h2 => Bk.i (b21_14 hP vk vk (fun z => absurd z ?_) (fun _ => b21_25 hP (b21_30 hP (Or.inr rfl) ?_)))))
  · rw [ck]; exact k0 h
  · rw [ck, xu2_eq, upd_at]; exact nI_nm (by omega)
  · rw [ck]; exact k1 ⟨h1, h2⟩
theorem c22 (hM : RC mem len lim a g) (hk : k < 60) (k0 : ¬ (48 ≤ g a ∧ g a ≤ 57) → Q (some (.int (nI 0))) (LAY, RFu r, xu2 mem 103 k (-1))) (k1 : 48 ≤ g a ∧ g a ≤ 57 → Q (some (.int (nI 1))) (LAY, RFu r, xu2 (txM mem (numF g 2 a 0).1) 103 k (nI (numF g 2 a 0).2))) : xCall (d + 4) 22 [.ref 99, .int (nI k)] (LAY, RFu r, mem) Q := by
  have vk : vp_in (nI k) 60 := vpn hk (by decide)
  have ck : (nI k).toNatClampNeg = k := nIc (by omega)
  have nl := (numF_le (g := g) (d := 2) (a := a) (v := 0)).2.2
  refine c_in rfl rfl rfl fun P hP => b22_0 hP (c78 (dd := 1) hM (by decide) (fun h => Bk.i (b22_13 hP vk vk (fun _ => b22_28 hP (b22_29 hP (Or.inl rfl) ?_)) (fun z => absurd (by rw [ck, xu2_eq, upd_at]) z))) (fun h1 h2 => Bk.i (b22_13 hP vk vk (fun z => absurd z ?_) (fun _ => b22_24 hP (b22_29 hP (Or.inr rfl) ?_)))))
  · rw [ck]; exact k0 h
  · rw [ck, xu2_eq, upd_at]; exact nI_nm (by show (numF g 2 a 0).2 < _; omega)
  · rw [ck]; exact k1 ⟨h1, h2⟩
theorem c23 (hM : RC mem len lim a g) (hk : k < 60) (k0 : ¬ (48 ≤ g a ∧ g a ≤ 56) → Q (some (.int (nI 0))) (LAY, RFu r, xu2 mem 103 k (-1))) (k1 : 48 ≤ g a ∧ g a ≤ 56 → Q (some (.int (nI 1))) (LAY, RFu r, xu2 (txM mem (a + 1)) 103 k (nI (g a - 48)))) : xCall (d + 3) 23 [.ref 99, .int (nI k)] (LAY, RFu r, mem) Q := by
  have vk : vp_in (nI k) 60 := vpn hk (by decide)
  have ck : (nI k).toNatClampNeg = k := nIc (by omega)
  refine c_in rfl rfl rfl fun P hP => b23_0 hP (c77d (x := 8) hM (by decide) (fun h => Bk.i (b23_14 hP vk vk (fun _ => b23_29 hP (b23_30 hP (Or.inl rfl) ?_)) (fun z => absurd (by rw [ck, xu2_eq, upd_at]) z))) (fun h1 h2 => Bk.i (b23_14 hP vk vk (fun z => absurd z ?_) (fun _ => b23_25 hP (b23_30 hP (Or.inr rfl) ?_)))))
  · rw [ck]; exact k0 h
  · rw [ck, xu2_eq, upd_at]; exact nI_nm (by omega)
  · rw [ck]; exact k1 ⟨h1, h2⟩
theorem numF_lim2 (hM : RC mem len lim b g) (h : 48 ≤ g a ∧ g a ≤ 57) : (numF g 2 a 0).1 ≤ lim := by
  have h0 : a + 1 ≤ lim := hM.lt (by omega)
  rw [numF_s, if_pos h, numF_s]
  split
  · rename_i w
    exact hM.lt (by omega)
  · exact h0
theorem c19 {ok : Bool} {e : Nat} {ac : xAcT} (hM : RC mem len lim a g) (hk : k < 60) (hX : acF g a = (ok, e, ac))
    (k0 : ok = false → ∀ m', ASm mem m' k → m' 1 2 = nI e → Q (some (.int (nI 0))) (LAY, RFu r, m'))
    (k1 : ok = true → ∀ m', ASm mem m' k → RC m' len lim e g → AcC m' k ac → Q (some (.int (nI 1))) (LAY, RFu r, m')) : xCall (d + 5) 19 [.ref 99, .int (nI k)] (LAY, RFu r, mem) Q := by
  have vk : vp_in (nI k) 60 := vpn hk (by decide)
  have ck : (nI k).toNatClampNeg = k := nIc (by omega)
  have hga := hM.le a
  refine c_in rfl rfl rfl fun P hP => b19_0 hP (c75 hM (Bk.i ?_))
  have key := b19_12 (d := d + 4) (Q := Q) (r := r) (mem := mem) (x1 := nI k) (y1 := nI k) (y2 := hcx (g a)) hP vk vk vk vk vk
  rw [ck] at key
  generalize hm1 : xu2 (xu2 (xu2 (xu2 mem 100 k (hcx (g a))) 101 k (-1)) 102 k (-1)) 103 k (-1) = m1 at key
  have a1 : ASm mem m1 k := by
    rw [← hm1]
    have a00 : ASm mem mem k := ⟨Ag.rfl', fun i _ => ⟨rfl, rfl, rfl, rfl⟩⟩
    exact ((((a00).s (by omega)).s (by omega)).s (by omega)).s (by omega)
  have e100 : m1 100 k = hcx (g a) := by rw [← hm1, xu2_ne (by decide), xu2_ne (by decide), xu2_ne (by decide), xu2_eq, upd_at]
  have hM1 : RC m1 len lim a g := by rw [← hm1]; exact (((hM.st (by omega)).st (by omega)).st (by omega)).st (by omega)
  rw [e100] at key
  clear hm1
  have f282 : ok = false → e = a → P 282 [.ref 99, .int (nI k)] [] (0, 0) (LAY, RFu r, m1) := fun h1 h2 => b19_282 hP (Or.inl rfl) (k0 h1 m1 a1 (by rw [h2]; exact hM1.at'))
  have bd : ∀ {m2 : Nat → Nat → Int32} {b : Nat}, RC m2 len lim b g → m2 1 2 = nI b := fun h => h.at'
  have hal : ∀ c, c < 256 → g a = c → a + 1 ≤ lim := fun c hc h => hM.lt (by omega)
  have l1 : ∀ b, g b < 256 → b + 1 ≤ lim := fun b hb => hM.lt hb
  unfold acF at hX
  refine key (fun h1 h2 h3 h4 h5 => ?_) (fun h => ?_) (fun h => ?_) (fun h => ?_) (fun h => ?_) (fun h => ?_)
  · have h1 := fun q => h1 ((hcx_ti (c := 99) (by decide)).mpr q)
    have h2 := fun q => h2 ((hcx_ti (c := 108) (by decide)).mpr q)
    have h3 := fun q => h3 ((hcx_ti (c := 113) (by decide)).mpr q)
    have h4 := fun q => h4 ((hcx_ti (c := 115) (by decide)).mpr q)
    have h5 := fun q => h5 ((hcx_ti (c := 119) (by decide)).mpr q)
    rw [if_neg h3, if_neg h1, if_neg (fun q => q.elim h4 h5), if_neg h2] at hX
    simp only [Prod.mk.injEq] at hX
    obtain ⟨rfl, rfl, -⟩ := hX
    exact f282 rfl rfl
  · -- c
    have h := (hcx_ti (c := 99) (by decide)).mp h
    rw [if_neg (by omega), if_pos h] at hX
    have hM2 := hM1.tx (l1 a (by omega))
    refine b19_118 hP (c76 (c := 99) hM1 (by decide) (fun q => absurd h q) (fun _ => Bk.i (b19_127 hP (fun z => absurd z (by decide)) (fun _ => b19_130 hP (c20 hM2 hk (fun c2 => Bk.i (b19_135 hP (fun _ => b19_162 hP (b19_163 hP (Or.inl rfl) ?_)) (fun z => absurd rfl z))) (fun c2 => Bk.i (b19_135 hP (fun z => absurd z (by decide)) (fun _ => b19_138 hP ?_))))))))
    · rw [if_neg c2] at hX
      simp only [Prod.mk.injEq] at hX
      obtain ⟨rfl, rfl, -⟩ := hX
      exact k0 rfl _ (a1.tx.s (by omega)) (bd (hM2.st (by omega)))
    · rw [if_pos c2] at hX
      have hM3 : RC (xu2 (txM (txM m1 (a + 1)) (a + 1 + 1)) 101 k (nI (g (a + 1) - 48))) len lim (a + 1 + 1) g := (hM2.tx (l1 (a + 1) (by omega))).st (by omega)
      have a3 : ASm mem (xu2 (txM (txM m1 (a + 1)) (a + 1 + 1)) 101 k (nI (g (a + 1) - 48))) k := a1.tx.tx.s (by omega)
      have e1 : xu2 (txM (txM m1 (a + 1)) (a + 1 + 1)) 101 k (nI (g (a + 1) - 48)) 101 k = nI (g (a + 1) - 48) := by rw [xu2_eq, upd_at]
      have e0 : xu2 (txM (txM m1 (a + 1)) (a + 1 + 1)) 101 k (nI (g (a + 1) - 48)) 100 k = nI 99 := by rw [xu2_ne (by decide), txM_ag 100 (by decide), txM_ag 100 (by decide), e100, h]; rfl
      generalize xu2 (txM (txM m1 (a + 1)) (a + 1 + 1)) 101 k (nI (g (a + 1) - 48)) = m3 at hM3 a3 e1 e0 ⊢
      refine c76 (c := 61) hM3 (by decide) (fun c3 => Bk.i (b19_147 hP (fun _ => b19_162 hP (b19_163 hP (Or.inl rfl) ?_)) (fun z => absurd rfl z))) (fun c3 => Bk.i (b19_147 hP (fun z => absurd z (by decide)) (fun _ => b19_150 hP (c23 (hM3.tx (l1 (a + 1 + 1) (by omega))) hk (fun c4 => Bk.i (b19_155 hP (fun _ => b19_162 hP (b19_163 hP (Or.inl rfl) ?_)) (fun z => absurd rfl z))) (fun c4 => Bk.i (b19_155 hP (fun z => absurd z (by decide)) (fun _ => b19_158 hP (b19_163 hP (Or.inr rfl) ?_))))))))
      · rw [if_neg c3] at hX
        simp only [Prod.mk.injEq] at hX
        obtain ⟨rfl, rfl, -⟩ := hX
        exact k0 rfl _ a3 (bd hM3)
      · rw [if_pos c3, if_neg c4] at hX
        simp only [Prod.mk.injEq] at hX
        obtain ⟨rfl, rfl, -⟩ := hX
        exact k0 rfl _ (a3.tx.s (by omega)) (bd ((hM3.tx (l1 (a + 1 + 1) (by omega))).st (by omega)))
      · rw [if_pos c3, if_pos c4] at hX
        simp only [Prod.mk.injEq] at hX
        obtain ⟨rfl, rfl, rfl⟩ := hX
        refine k1 rfl _ (a3.tx.tx.s (by omega)) (((hM3.tx (l1 (a + 1 + 1) (by omega))).tx (l1 (a + 1 + 1 + 1) (by omega))).st (by omega)) ⟨?_, fun z => absurd z (by show ¬ (99 : Nat) = 113; decide), fun _ => ⟨?_, ?_⟩, fun z => absurd z (by show ¬ ((99 : Nat) = 115 ∨ (99 : Nat) = 119); decide), fun z => absurd z (by show ¬ (99 : Nat) = 108; decide)⟩
        · rw [xu2_ne (by decide), txM_ag 100 (by decide), txM_ag 100 (by decide), e0]
        · rw [xu2_ne (by decide), txM_ag 101 (by decide), txM_ag 101 (by decide), e1]
        · rw [xu2_eq, upd_at]
  · -- l
    have h := (hcx_ti (c := 108) (by decide)).mp h
    rw [if_neg (by omega), if_neg (by omega), if_neg (by omega), if_pos h] at hX
    have hM2 := hM1.tx (l1 a (by omega))
    refine b19_216 hP (c76 (c := 108) hM1 (by decide) (fun q => absurd h q) (fun _ => Bk.i (b19_225 hP (fun z => absurd z (by decide)) (fun _ => b19_228 hP (c20 hM2 hk (fun c2 => Bk.i (b19_233 hP (fun _ => b19_280 hP (b19_281 hP (Or.inl rfl) ?_)) (fun z => absurd rfl z))) (fun c2 => Bk.i (b19_233 hP (fun z => absurd z (by decide)) (fun _ => b19_236 hP ?_))))))))
    · rw [if_neg c2] at hX
      simp only [Prod.mk.injEq] at hX
      obtain ⟨rfl, rfl, -⟩ := hX
      exact k0 rfl _ (a1.tx.s (by omega)) (bd (hM2.st (by omega)))
    · rw [if_pos c2] at hX
      have hM3 : RC (xu2 (txM (txM m1 (a + 1)) (a + 1 + 1)) 101 k (nI (g (a + 1) - 48))) len lim (a + 1 + 1) g := (hM2.tx (l1 (a + 1) (by omega))).st (by omega)
      have a3 : ASm mem (xu2 (txM (txM m1 (a + 1)) (a + 1 + 1)) 101 k (nI (g (a + 1) - 48))) k := a1.tx.tx.s (by omega)
      have e1 : xu2 (txM (txM m1 (a + 1)) (a + 1 + 1)) 101 k (nI (g (a + 1) - 48)) 101 k = nI (g (a + 1) - 48) := by rw [xu2_eq, upd_at]
      have e0 : xu2 (txM (txM m1 (a + 1)) (a + 1 + 1)) 101 k (nI (g (a + 1) - 48)) 100 k = nI 108 := by rw [xu2_ne (by decide), txM_ag 100 (by decide), txM_ag 100 (by decide), e100, h]; rfl
      generalize xu2 (txM (txM m1 (a + 1)) (a + 1 + 1)) 101 k (nI (g (a + 1) - 48)) = m3 at hM3 a3 e1 e0 ⊢
      refine c76 (c := 62) hM3 (by decide) (fun c3 => Bk.i (b19_245 hP (fun _ => b19_280 hP (b19_281 hP (Or.inl rfl) ?_)) (fun z => absurd rfl z))) (fun c3 => Bk.i (b19_245 hP (fun z => absurd z (by decide)) (fun _ => b19_248 hP (c21 (hM3.tx (l1 (a + 1 + 1) (by omega))) hk (fun c4 => Bk.i (b19_253 hP (fun _ => b19_280 hP (b19_281 hP (Or.inl rfl) ?_)) (fun z => absurd rfl z))) (fun c4 => Bk.i (b19_253 hP (fun z => absurd z (by decide)) (fun _ => b19_256 hP ?_)))))))
      · rw [if_neg c3] at hX
        simp only [Prod.mk.injEq] at hX
        obtain ⟨rfl, rfl, -⟩ := hX
        exact k0 rfl _ a3 (bd hM3)
      · rw [if_pos c3, if_neg c4] at hX
        simp only [Prod.mk.injEq] at hX
        obtain ⟨rfl, rfl, -⟩ := hX
        exact k0 rfl _ (a3.tx.s (by omega)) (bd ((hM3.tx (l1 (a + 1 + 1) (by omega))).st (by omega)))
      · rw [if_pos c3, if_pos c4] at hX
        have hM4 : RC (xu2 (txM (txM m3 (a + 1 + 1 + 1)) (a + 1 + 1 + 1 + 1)) 102 k (nI (g (a + 1 + 1 + 1) - 48))) len lim (a + 1 + 1 + 1 + 1) g := ((hM3.tx (l1 (a + 1 + 1) (by omega))).tx (l1 (a + 1 + 1 + 1) (by omega))).st (by omega)
        have a4 : ASm mem (xu2 (txM (txM m3 (a + 1 + 1 + 1)) (a + 1 + 1 + 1 + 1)) 102 k (nI (g (a + 1 + 1 + 1) - 48))) k := a3.tx.tx.s (by omega)
        have i2 : xu2 (txM (txM m3 (a + 1 + 1 + 1)) (a + 1 + 1 + 1 + 1)) 102 k (nI (g (a + 1 + 1 + 1) - 48)) 102 k = nI (g (a + 1 + 1 + 1) - 48) := by rw [xu2_eq, upd_at]
        have i1 : xu2 (txM (txM m3 (a + 1 + 1 + 1)) (a + 1 + 1 + 1 + 1)) 102 k (nI (g (a + 1 + 1 + 1) - 48)) 101 k = nI (g (a + 1) - 48) := by rw [xu2_ne (by decide), txM_ag 101 (by decide), txM_ag 101 (by decide), e1]
        have i0 : xu2 (txM (txM m3 (a + 1 + 1 + 1)) (a + 1 + 1 + 1 + 1)) 102 k (nI (g (a + 1 + 1 + 1) - 48)) 100 k = nI 108 := by rw [xu2_ne (by decide), txM_ag 100 (by decide), txM_ag 100 (by decide), e0]
        generalize xu2 (txM (txM m3 (a + 1 + 1 + 1)) (a + 1 + 1 + 1 + 1)) 102 k (nI (g (a + 1 + 1 + 1) - 48)) = m4 at hM4 a4 i0 i1 i2 ⊢
        refine c76 (c := 42) hM4 (by decide) (fun c5 => Bk.i (b19_265 hP (fun _ => b19_280 hP (b19_281 hP (Or.inl rfl) ?_)) (fun z => absurd rfl z))) (fun c5 => Bk.i (b19_265 hP (fun z => absurd z (by decide)) (fun _ => b19_268 hP (c22 (hM4.tx (l1 (a + 1 + 1 + 1 + 1) (by omega))) hk (fun c6 => Bk.i (b19_273 hP (fun _ => b19_280 hP (b19_281 hP (Or.inl rfl) ?_)) (fun z => absurd rfl z))) (fun c6 => Bk.i (b19_273 hP (fun z => absurd z (by decide)) (fun _ => b19_276 hP (b19_281 hP (Or.inr rfl) ?_))))))))
        · rw [if_neg c5] at hX
          simp only [Prod.mk.injEq] at hX
          obtain ⟨rfl, rfl, -⟩ := hX
          exact k0 rfl _ a4 (bd hM4)
        · rw [if_pos c5, if_neg c6] at hX
          simp only [Prod.mk.injEq] at hX
          obtain ⟨rfl, rfl, -⟩ := hX
          exact k0 rfl _ (a4.tx.s (by omega)) (bd ((hM4.tx (l1 (a + 1 + 1 + 1 + 1) (by omega))).st (by omega)))
        · rw [if_pos c5, if_pos c6] at hX
          simp only [Prod.mk.injEq] at hX
          obtain ⟨rfl, rfl, rfl⟩ := hX
          refine k1 rfl _ (a4.tx.tx.s (by omega)) (((hM4.tx (l1 (a + 1 + 1 + 1 + 1) (by omega))).tx (numF_lim2 hM c6)).st (by omega)) ⟨?_, fun z => absurd z (by show ¬ (108 : Nat) = 113; decide), fun z => absurd z (by show ¬ (108 : Nat) = 99; decide), fun z => absurd z (by show ¬ ((108 : Nat) = 115 ∨ (108 : Nat) = 119); decide), fun _ => ⟨?_, ?_, ?_⟩⟩
          · rw [xu2_ne (by decide), txM_ag 100 (by decide), txM_ag 100 (by decide), i0]
          · rw [xu2_ne (by decide), txM_ag 101 (by decide), txM_ag 101 (by decide), i1]
          · rw [xu2_ne (by decide), txM_ag 102 (by decide), txM_ag 102 (by decide), i2]
          · rw [xu2_eq, upd_at]
  · -- q
    have h := (hcx_ti (c := 113) (by decide)).mp h
    rw [if_pos h] at hX
    have hM2 := hM1.tx (l1 a (by omega))
    refine b19_92 hP (c76 (c := 113) hM1 (by decide) (fun q => absurd h q) (fun _ => Bk.i (b19_101 hP (fun z => absurd z (by decide)) (fun _ => b19_104 hP (c22 hM2 hk (fun c2 => Bk.i (b19_109 hP (fun _ => b19_116 hP (b19_117 hP (Or.inl rfl) ?_)) (fun z => absurd rfl z))) (fun c2 => Bk.i (b19_109 hP (fun z => absurd z (by decide)) (fun _ => b19_112 hP (b19_117 hP (Or.inr rfl) ?_)))))))))
    · rw [if_neg c2] at hX
      simp only [Prod.mk.injEq] at hX
      obtain ⟨rfl, rfl, -⟩ := hX
      exact k0 rfl _ (a1.tx.s (by omega)) (bd (hM2.st (by omega)))
    · rw [if_pos c2] at hX
      simp only [Prod.mk.injEq] at hX
      obtain ⟨rfl, rfl, rfl⟩ := hX
      refine k1 rfl _ (a1.tx.tx.s (by omega)) ((hM2.tx (numF_lim2 hM c2)).st (by omega)) ⟨?_, fun _ => ?_, fun z => absurd z (by show ¬ (113 : Nat) = 99; decide), fun z => absurd z (by show ¬ ((113 : Nat) = 115 ∨ (113 : Nat) = 119); decide), fun z => absurd z (by show ¬ (113 : Nat) = 108; decide)⟩
      · rw [xu2_ne (by decide), txM_ag 100 (by decide), txM_ag 100 (by decide), e100, h]; rfl
      · rw [xu2_eq, upd_at]
  · -- s
    have h := (hcx_ti (c := 115) (by decide)).mp h
    rw [if_neg (by omega), if_neg (by omega), if_pos (Or.inl h)] at hX
    have hM2 := hM1.tx (l1 a (by omega))
    refine b19_164 hP (c76 (c := 115) hM1 (by decide) (fun q => absurd h q) (fun _ => Bk.i (b19_173 hP (fun z => absurd z (by decide)) (fun _ => b19_176 hP (c20 hM2 hk (fun c2 => Bk.i (b19_181 hP (fun _ => b19_188 hP (b19_189 hP (Or.inl rfl) ?_)) (fun z => absurd rfl z))) (fun c2 => Bk.i (b19_181 hP (fun z => absurd z (by decide)) (fun _ => b19_184 hP (b19_189 hP (Or.inr rfl) ?_)))))))))
    · rw [if_neg c2] at hX
      simp only [Prod.mk.injEq] at hX
      obtain ⟨rfl, rfl, -⟩ := hX
      exact k0 rfl _ (a1.tx.s (by omega)) (bd (hM2.st (by omega)))
    · rw [if_pos c2] at hX
      simp only [Prod.mk.injEq] at hX
      obtain ⟨rfl, rfl, rfl⟩ := hX
      refine k1 rfl _ (a1.tx.tx.s (by omega)) ((hM2.tx (l1 (a + 1) (by omega))).st (by omega)) ⟨?_, fun z => absurd z (by show ¬ g a = 113; omega), fun z => absurd z (by show ¬ g a = 99; omega), fun _ => ?_, fun z => absurd z (by show ¬ g a = 108; omega)⟩
      · rw [xu2_ne (by decide), txM_ag 100 (by decide), txM_ag 100 (by decide), e100]
        show hcx (g a) = nI (g a)
        rw [h]; rfl
      · rw [xu2_eq, upd_at]
  · -- w
    have h := (hcx_ti (c := 119) (by decide)).mp h
    rw [if_neg (by omega), if_neg (by omega), if_pos (Or.inr h)] at hX
    have hM2 := hM1.tx (l1 a (by omega))
    refine b19_190 hP (c76 (c := 119) hM1 (by decide) (fun q => absurd h q) (fun _ => Bk.i (b19_199 hP (fun z => absurd z (by decide)) (fun _ => b19_202 hP (c20 hM2 hk (fun c2 => Bk.i (b19_207 hP (fun _ => b19_214 hP (b19_215 hP (Or.inl rfl) ?_)) (fun z => absurd rfl z))) (fun c2 => Bk.i (b19_207 hP (fun z => absurd z (by decide)) (fun _ => b19_210 hP (b19_215 hP (Or.inr rfl) ?_)))))))))
    · rw [if_neg c2] at hX
      simp only [Prod.mk.injEq] at hX
      obtain ⟨rfl, rfl, -⟩ := hX
      exact k0 rfl _ (a1.tx.s (by omega)) (bd (hM2.st (by omega)))
    · rw [if_pos c2] at hX
      simp only [Prod.mk.injEq] at hX
      obtain ⟨rfl, rfl, rfl⟩ := hX
      refine k1 rfl _ (a1.tx.tx.s (by omega)) ((hM2.tx (l1 (a + 1) (by omega))).st (by omega)) ⟨?_, fun z => absurd z (by show ¬ g a = 113; omega), fun z => absurd z (by show ¬ g a = 99; omega), fun _ => ?_, fun z => absurd z (by show ¬ g a = 108; omega)⟩
      · rw [xu2_ne (by decide), txM_ag 100 (by decide), txM_ag 100 (by decide), e100]
        show hcx (g a) = nI (g a)
        rw [h]; rfl
      · rw [xu2_eq, upd_at]
def rdD (g : Nat → Nat) : Nat → Nat → List xAcT → Bool × Nat × List xAcT
  | 0, a, l => (false, a, l)
  | f + 1, a, l => if (acF g a).1 = true then (if g (acF g a).2.1 = 59 then rdD g f ((acF g a).2.1 + 1) (l ++ [(acF g a).2.2]) else (true, (acF g a).2.1, l ++ [(acF g a).2.2])) else (false, (acF g a).2.1, l)
def dyF (g : Nat → Nat) (len : Nat) : Bool × Nat × List xAcT := if len = 0 then (true, 0, []) else rdD g 61 0 []
theorem get_snoc {α : Type} {l : List α} {x y : α} {j : Nat} (h : (l ++ [x])[j]? = some y) : (j < l.length ∧ l[j]? = some y) ∨ (j = l.length ∧ y = x) := by
  rw [List.getElem?_append] at h
  by_cases q : j < l.length
  · rw [if_pos q] at h; exact Or.inl ⟨q, h⟩
  · rw [if_neg q] at h
    by_cases e : j - l.length = 0
    · rw [e] at h
      simp at h
      exact Or.inr ⟨by omega, h.symm⟩
    · rw [List.getElem?_eq_none (by simp; omega)] at h
      cases h
def LsOk (l : List xAcT) : Prop := ∀ (j : Nat) (c : xAcT), l[j]? = some c → AcOk c
theorem rdD_ok {g : Nat → Nat} : ∀ {f a : Nat} {l : List xAcT} {ok : Bool} {e : Nat} {l' : List xAcT}, LsOk l → 3 * l.length ≤ a → rdD g f a l = (ok, e, l') → LsOk l' ∧ (ok = true → 3 * l'.length ≤ e + 1)
  | 0, a, l, ok, e, l', hl, ha, h => by
    have h : (false, a, l) = (ok, e, l') := h
    simp only [Prod.mk.injEq] at h
    obtain ⟨rfl, rfl, rfl⟩ := h
    exact ⟨hl, fun z => absurd z (by decide)⟩
  | f + 1, a, l, ok, e, l', hl, ha, h => by
    unfold rdD at h
    by_cases c1 : (acF g a).1 = true
    · rw [if_pos c1] at h
      obtain ⟨x1, x2⟩ := acF_ok (g := g) (a := a) (e := (acF g a).2.1) (c := (acF g a).2.2) (Prod.ext c1 rfl)
      have hl2 : LsOk (l ++ [(acF g a).2.2]) := fun j c hj => by
        rcases get_snoc hj with ⟨_, q⟩ | ⟨_, q⟩
        · exact hl j c q
        · rw [q]; exact x1
      have hlen : (l ++ [(acF g a).2.2]).length = l.length + 1 := by simp
      by_cases c2 : g (acF g a).2.1 = 59
      · rw [if_pos c2] at h
        exact rdD_ok hl2 (by rw [hlen]; omega) h
      · rw [if_neg c2] at h
        simp only [Prod.mk.injEq] at h
        obtain ⟨rfl, rfl, rfl⟩ := h
        exact ⟨hl2, fun _ => by rw [hlen]; omega⟩
    · rw [if_neg c1] at h
      simp only [Prod.mk.injEq] at h
      obtain ⟨rfl, rfl, rfl⟩ := h
      exact ⟨hl, fun z => absurd z (by decide)⟩
def dyR : List Nat := [1, 99, 100, 101, 102, 103]
theorem AcC.sm {m1 m2 : Nat → Nat → Int32} {j : Nat} {c : xAcT} (h : AcC m1 j c) (e : m2 100 j = m1 100 j ∧ m2 101 j = m1 101 j ∧ m2 102 j = m1 102 j ∧ m2 103 j = m1 103 j) : AcC m2 j c := by
  unfold AcC at h ⊢
  rw [e.1, e.2.1, e.2.2.1, e.2.2.2]
  exact h
theorem c18 {tx : Nat → Nat} {ok : Bool} {e : Nat} {l' : List xAcT} (hT : TxC mem len tx) (hX : dyF (gT tx len 60) len = (ok, e, l'))
    (kf : ¬ (ok = true ∧ e = len) → ∀ m', Ag dyR mem m' → m' 1 2 = nI e → Q (some (.int (nI 0))) (LAY, RFu r, m'))
    (kt : ok = true → e = len → ∀ m', Ag dyR mem m' → m' 99 4 = nI l'.length → (∀ (j : Nat) (c : xAcT), l'[j]? = some c → AcC m' j c) → Q (some (.int (nI 1))) (LAY, RFu r, m')) : xCall (d + 6) 18 [.ref 99] (LAY, RFu r, mem) Q := by
  refine c_in rfl rfl rfl fun P hP => b18_0 hP ?_
  have a0 : Ag dyR mem (xu2 mem 99 4 (nI 0)) := Ag.rfl'.u2 (by decide)
  have hT0 : TxC (xu2 mem 99 4 (nI 0)) len tx := by
    unfold TxC at hT ⊢
    rw [xu2_ne (by decide), xu2_ne (by decide)]
    exact hT
  refine c74 (lim := 60) (by decide) hT0 fun m1 a1 r1 => Bk.v (b18_14 hP (fun z => ?_) (fun z => ?_)) <;> rw [r1.1] at z
  · have hl0 : len ≠ 0 := fun q => z (by rw [q]; rfl)
    unfold dyF at hX
    rw [if_neg hl0] at hX
    generalize gT tx len 60 = g at hX r1
    have stop : ∀ m' v1, Ag dyR mem m' → RC m' len (min len 60) e g → ok = true → m' 99 4 = nI l'.length → (∀ (j : Nat) (c : xAcT), l'[j]? = some c → AcC m' j c) → P 75 [.ref 99, v1] [] (0, 0) (LAY, RFu r, m') := fun m' v1 a hM hk h4 hc => by
      refine b18_75 hP (c79 hM (Bk.i ?_))
      by_cases q : e = len
      · rw [b01_t q]
        exact b18_82 hP (Or.inr rfl) (kt hk q m' a h4 hc)
      · rw [b01_f q]
        exact b18_82 hP (Or.inl rfl) (kf (fun w => q w.2) m' a hM.at')
    have main : ∀ f a l m', 61 ≤ a + f → 3 * l.length ≤ a → RC m' len (min len 60) a g → Ag dyR mem m' → m' 99 4 = nI l.length → (∀ (j : Nat) (c : xAcT), l[j]? = some c → AcC m' j c) → rdD g f a l = (ok, e, l') → P 28 [.ref 99, .int (nI l.length)] [] (0, 0) (LAY, RFu r, m') := by
      intro f
      induction f with
      | zero =>
        intro a l m' hf hl hM
        have := hM.2.2.2.2.2.1
        omega
      | succ f ih =>
        intro a l m' hf hl hM ag h4 hc h
        have hal := hM.2.2.2.2.2.1
        unfold rdD at h
        obtain ⟨ok1, b, ac', hA⟩ : ∃ ok1 b ac', acF g a = (ok1, b, ac') := ⟨_, _, _, rfl⟩
        rw [hA] at h
        dsimp only at h
        refine b18_28 hP (fun z => absurd z (nI_ge (by omega) (by decide))) (fun _ => b18_34 hP (c19 (k := l.length) hM (by omega) hA (fun h1 m2 a2 e2 => Bk.i (b18_39 hP (fun z => absurd rfl z) (fun _ => b18_42 hP (Or.inl rfl) (kf ?_ m2 (ag.trans (a2.1.mono (by decide))) ?_)))) (fun h1 m2 a2 hM2 ac => Bk.i (b18_39 hP (fun _ => b18_44 hP ?_) (fun z => absurd z (by decide))))))
        · rw [if_neg (by rw [h1]; decide)] at h
          simp only [Prod.mk.injEq] at h
          intro w
          rw [← h.1] at w
          exact absurd w.1 (by decide)
        · rw [if_neg (by rw [h1]; decide)] at h
          simp only [Prod.mk.injEq] at h
          rw [e2, h.2.1]
        · rw [if_pos h1] at h
          rw [h1] at hA
          have hge := (acF_ok hA).2
          have e4 : m2 99 4 = nI l.length := by rw [a2.1 99 (by decide), h4]
          rw [e4, nIs]
          have hlen : (l ++ [ac']).length = l.length + 1 := by simp
          have hc2 : ∀ (j : Nat) (c : xAcT), (l ++ [ac'])[j]? = some c → AcC m2 j c := fun j c hj => by
            rcases get_snoc hj with ⟨q1, q2⟩ | ⟨q1, q2⟩
            · exact (hc j c q2).sm (a2.2 j (by omega))
            · rw [q1, q2]; exact ac
          have ag3 : Ag dyR mem (xu2 m2 99 4 (nI (l.length + 1))) := (ag.trans (a2.1.mono (by decide))).u2 (by decide)
          have hM3 : RC (xu2 m2 99 4 (nI (l.length + 1))) len (min len 60) b g := hM2.sm (by rw [xu2_ne (by decide)]) (by rw [xu2_ne (by decide)])
          have f4 : xu2 m2 99 4 (nI (l.length + 1)) 99 4 = nI (l ++ [ac']).length := by rw [xu2_eq, upd_at, hlen]
          have hc3 : ∀ (j : Nat) (c : xAcT), (l ++ [ac'])[j]? = some c → AcC (xu2 m2 99 4 (nI (l.length + 1))) j c := fun j c hj => (hc2 j c hj).sm (by rw [xu2_ne (by decide), xu2_ne (by decide), xu2_ne (by decide), xu2_ne (by decide)]; exact ⟨rfl, rfl, rfl, rfl⟩)
          generalize xu2 m2 99 4 (nI (l.length + 1)) = m3 at ag3 hM3 f4 hc3
          refine c76 (c := 59) hM3 (by decide) (fun c4 => Bk.i (b18_63 hP (fun z => absurd rfl z) (fun _ => b18_66 hP ?_))) (fun c4 => Bk.i (b18_63 hP (fun _ => b18_69 hP ?_) (fun z => absurd z (by decide))))
          · rw [if_neg c4] at h
            simp only [Prod.mk.injEq] at h
            obtain ⟨rfl, rfl, rfl⟩ := h
            exact stop m3 _ ag3 hM3 rfl f4 hc3
          · rw [if_pos c4] at h
            have hlt := hM3.lt (i := b) (by omega)
            rw [nIs, ← hlen]
            refine ih (b + 1) (l ++ [ac']) _ (by omega) (by rw [hlen]; omega) (hM3.tx hlt) (ag3.trans (txM_ag.mono (by decide))) (by rw [txM_ag 99 (by decide), f4]) (fun j c hj => (hc3 j c hj).sm (by rw [txM_ag 100 (by decide), txM_ag 101 (by decide), txM_ag 102 (by decide), txM_ag 103 (by decide)]; exact ⟨rfl, rfl, rfl, rfl⟩)) h
    exact b18_26 hP (main 61 0 [] m1 (by decide) (by decide) r1 (a0.trans (a1.mono (by decide))) (by rw [a1 99 (by decide), xu2_eq, upd_at]; rfl) (fun j c hj => by cases hj) hX)
  · have hl0 : len = 0 := nI_inj z (by have := hT.2.1; omega) (by decide)
    unfold dyF at hX
    rw [if_pos hl0] at hX
    simp only [Prod.mk.injEq] at hX
    obtain ⟨rfl, rfl, rfl⟩ := hX
    exact b18_24 hP (Or.inr rfl) (kt rfl hl0.symm m1 (a0.trans (a1.mono (by decide))) (by rw [a1 99 (by decide), xu2_eq, upd_at]; rfl) (fun j c hj => by cases hj))
end K
/-! day: how the reference reads it -/
section K
variable {d r k : Nat} {mem m' : Nat → Nat → Int32} {Q : xQr} {n tp a b e : Nat} {g : Nat → Nat} {x w : Int32}
theorem c201 {c : Nat} (hM : RM mem 123 122 n tp a w g) (hc : c < 128) (kd : w ≠ -1 → Q none (LAY, RFu 123, mem)) (k0 : w = -1 → g a ≠ c → Q none (LAY, RFu 123, xu2 mem 108 25 (nI a))) (k1 : w = -1 → g a = c → Q none (LAY, RFu 123, xu2 mem 108 24 (nI (a + 1)))) : xCall (d + 3) 201 [.ref 108, .int (nI c)] (LAY, RFu 123, mem) Q := by
  have g7 : mem 108 24 = nI a := hM.2.2.2.2.2.2.1
  have g9 : mem 108 25 = w := hM.2.2.2.2.2.2.2.2.1
  refine c_in rfl rfl rfl fun P hP => b201_0 hP (c171 hM hc (fun h => Bk.i (b201_5 hP (fun z => absurd rfl z) (fun _ => b201_8 hP (c170 (Bk.v (b201_16 hP ?_)))))) (fun h1 h2 => Bk.i (b201_5 hP (fun _ => b201_16 hP (k1 h1 h2)) (fun z => absurd z (by decide)))))
  by_cases q : w = -1
  · rw [g9, if_pos q, g7]
    exact k0 q (fun z => h ⟨q, z⟩)
  · rw [g9, if_neg q]
    exact kd q
def SMm (mem m' : Nat → Nat → Int32) (k n tp : Nat) (g : Nat → Nat) (w : Int32) (a : Nat) : Prop := AgM [134] [24, 25] mem m' ∧ RM m' 123 122 n tp a w g ∧ ∀ i, (i < 4 * k ∨ 4 * k + 4 ≤ i) → m' 134 i = mem 134 i
theorem SMm.s {i : Nat} (h : SMm mem m' k n tp g w a) (h1 : 4 * k ≤ i) (h2 : i < 4 * k + 4) : SMm mem (xu2 m' 134 i x) k n tp g w a := by
  obtain ⟨s1, s2, s3⟩ := h
  refine ⟨s1.u2 (by simp) (by decide), RM_mv (W := [134]) (V := []) s2 (AgM.rfl'.u2 (by simp) (by decide)) (by decide) (by simp) (by simp) (by rw [xu2_ne (by decide)]; exact s2.2.2.2.2.2.2.1) s2.2.2.2.2.2.2.2.1 (by rw [xu2_ne (by decide)]; exact s2.2.2.2.2.2.2.2.2.1), fun j hj => ?_⟩
  rw [xu2_eq, upd_ne (by omega)]
  exact s3 j hj
theorem SMm.m {w2 : Int32} {m2 : Nat → Nat → Int32} (h : SMm mem m' k n tp g w a) (ag : AgM [] [24, 25] m' m2) (e1 : m2 108 24 = nI b) (hb : b < 10000) (e2 : m2 108 25 = w2) : SMm mem m2 k n tp g w2 b := by
  obtain ⟨s1, s2, s3⟩ := h
  refine ⟨s1.trans (ag.mono (by simp) (by simp)), RM_mv (W := []) (V := [24, 25]) s2 ag (by simp) (by simp) (by simp) e1 hb e2, fun j hj => ?_⟩
  rw [ag.1 134 (by simp) (by decide)]
  exact s3 j hj
theorem SMm.t (h : SMm mem m' k n tp g w a) (hb : b < 10000) : SMm mem (xu2 m' 108 24 (nI b)) k n tp g w b := h.m (AgM.rfl'.us (by simp)) (by rw [xu2_eq, upd_at]) hb (by rw [xu2_eq, upd_ne (by decide)]; exact h.2.1.2.2.2.2.2.2.2.2.1)
theorem SMm.flt (h : SMm mem m' k n tp g w a) : SMm mem (xu2 m' 108 25 (nI e)) k n tp g (nI e) a := h.m (AgM.rfl'.us (by simp)) (by rw [xu2_eq, upd_ne (by decide)]; exact h.2.1.2.2.2.2.2.2.1) h.2.1.2.2.2.2.2.2.2.1 (by rw [xu2_eq, upd_at])
theorem SMm.at' (h : SMm mem m' k n tp g w a) : m' 108 24 = nI a := h.2.1.2.2.2.2.2.2.1
theorem SMm.wr (h : SMm mem m' k n tp g w a) : m' 108 25 = w := h.2.1.2.2.2.2.2.2.2.2.1
theorem num1 (h : 48 ≤ g b ∧ g b ≤ 57) : numF g 1 b 0 = (b + 1, g b - 48) := by
  rw [numF_s, if_pos h]
  show (b + 1, 10 * 0 + (g b - 48)) = _
  rw [Nat.mul_zero, Nat.zero_add]
theorem num0 {dd : Nat} (h : ¬ (48 ≤ g b ∧ g b ≤ 57)) : numF g (dd + 1) b 0 = (b, 0) := by rw [numF_s, if_neg h]
theorem num2_ne (h : 48 ≤ g b ∧ g b ≤ 57) : (numF g 2 b 0).1 ≠ b := by
  have h1 := (numF_le (g := g) (d := 1) (a := b + 1) (v := 10 * 0 + (g b - 48))).1
  have e : numF g 2 b 0 = numF g 1 (b + 1) (10 * 0 + (g b - 48)) := by rw [numF_s, if_pos h]
  rw [e]; omega
theorem c202 {ok : Bool} {ac : xAcT} (hM : RM mem 123 122 n tp a (-1) g) (ha : a < 900) (hk : 4 * k + 4 ≤ 320) (hX : acF g a = (ok, e, ac))
    (k0 : ok = false → ∀ m' a', SMm mem m' k n tp g (nI e) a' → Q none (LAY, RFu 123, m'))
    (k1 : ok = true → ∀ m', SMm mem m' k n tp g (-1) e → AcM m' k ac → Q none (LAY, RFu 123, m')) : xCall (d + 6) 202 [.ref 108, .int (nI (4 * k))] (LAY, RFu 123, mem) Q := by
  have i1 : nI (4 * k) + nI 1 = nI (4 * k + 1) := nI_add _ _
  have i2 : nI (4 * k) + nI 2 = nI (4 * k + 2) := nI_add _ _
  have i3 : nI (4 * k) + nI 3 = nI (4 * k + 3) := nI_add _ _
  have v0 : vp_in (nI (4 * k)) 320 := vpn (by omega) (by decide)
  have v1 : vp_in (nI (4 * k + 1)) 320 := vpn (by omega) (by decide)
  have v2 : vp_in (nI (4 * k + 2)) 320 := vpn (by omega) (by decide)
  have v3 : vp_in (nI (4 * k + 3)) 320 := vpn (by omega) (by decide)
  have c0 : (nI (4 * k)).toNatClampNeg = 4 * k := nIc (by omega)
  have c1 : (nI (4 * k + 1)).toNatClampNeg = 4 * k + 1 := nIc (by omega)
  have c2 : (nI (4 * k + 2)).toNatClampNeg = 4 * k + 2 := nIc (by omega)
  have c3 : (nI (4 * k + 3)).toNatClampNeg = 4 * k + 3 := nIc (by omega)
  refine c_in rfl rfl rfl fun P hP => ?_
  have he9 : ok = false → e < 1000 := fun h => by
    unfold acF at hX
    have le : ∀ b, (false, b, ((0, 0, 0, 0) : xAcT)) = (ok, e, ac) → b < 1000 → e < 1000 := fun b hb h9 => by
      simp only [Prod.mk.injEq] at hb
      omega
    have nt : ∀ b c, (true, b, c) = (ok, e, ac) → e < 1000 := fun b c hb => by
      simp only [Prod.mk.injEq] at hb
      rw [← hb.1] at h
      cases h
    split at hX
    · split at hX
      · exact nt _ _ hX
      · exact le _ hX (by omega)
    · split at hX
      · split at hX
        · split at hX
          · split at hX
            · exact nt _ _ hX
            · exact le _ hX (by omega)
          · exact le _ hX (by omega)
        · exact le _ hX (by omega)
      · split at hX
        · split at hX
          · exact nt _ _ hX
          · exact le _ hX (by omega)
        · split at hX
          · split at hX
            · split at hX
              · split at hX
                · split at hX
                  · split at hX
                    · exact nt _ _ hX
                    · exact le _ hX (by omega)
                  · exact le _ hX (by omega)
                · exact le _ hX (by omega)
              · exact le _ hX (by omega)
            · exact le _ hX (by omega)
          · exact le _ hX (by omega)
  -- behind a fault
  have nf : ok = false → nI e ≠ -1 := fun h => nI_nm (by have := he9 h; omega)
  have D174 : ∀ m' a' x0 x1 x2, ok = false → SMm mem m' k n tp g (nI e) a' → P 174 [x0, x1, x2] [] (0, 0) (LAY, RFu 123, m') := fun m' a' x0 x1 x2 hf s => b202_174 hP (k0 hf m' a' s)
  have D161 : ∀ m' a' v2, ok = false → SMm mem m' k n tp g (nI e) a' → P 161 [.ref 108, .int (nI (4 * k)), v2] [] (0, 0) (LAY, RFu 123, m') := fun m' a' v2 hf s => by
    refine b202_161 hP (c172f (by rw [s.wr]; exact nf hf) (Bk.i ?_))
    rw [i3]
    refine b202_173 hP v3 ?_
    rw [c3]
    exact D174 _ a' _ _ _ hf (s.s (by omega) (by omega))
  have D154 : ∀ m' a' v2 y, ok = false → SMm mem m' k n tp g (nI e) a' → P 154 [.ref 108, .int (nI (4 * k)), v2] [.int y, .int (nI (4 * k + 2)), .ref 134] (0, 0) (LAY, RFu 123, m') := fun m' a' v2' y hf s => by
    refine b202_154 hP v2 ?_
    rw [c2]
    have s2 := s.s (x := y) (i := 4 * k + 2) (by omega) (by omega)
    exact c201 (c := 42) s2.2.1 (by decide) (fun _ => Bk.v (D161 _ a' _ hf s2)) (fun h => absurd h (nf hf)) (fun h => absurd h (nf hf))
  have D142 : ∀ m' a' v2, ok = false → SMm mem m' k n tp g (nI e) a' → P 142 [.ref 108, .int (nI (4 * k)), v2] [] (0, 0) (LAY, RFu 123, m') := fun m' a' v2 hf s => by
    refine b202_142 hP (c172f (by rw [s.wr]; exact nf hf) (Bk.i ?_))
    rw [i2]
    exact D154 m' a' _ _ hf s
  have D136 : ∀ m' a' v2, ok = false → SMm mem m' k n tp g (nI e) a' → P 136 [.ref 108, .int (nI (4 * k)), v2] [] (0, 0) (LAY, RFu 123, m') := fun m' a' v2 hf s =>
    b202_136 hP (c201 (c := 62) s.2.1 (by decide) (fun _ => Bk.v (D142 m' a' _ hf s)) (fun h => absurd h (nf hf)) (fun h => absurd h (nf hf)))
  have D130 : ∀ m' a' x2, ok = false → SMm mem m' k n tp g (nI e) a' → P 130 [.ref 108, .int (nI (4 * k)), .int x2] [] (0, 0) (LAY, RFu 123, m') := fun m' a' x2 hf s => b202_130 hP (fun _ => D174 m' a' _ _ _ hf s) (fun _ => D136 m' a' _ hf s)
  have D117 : ∀ m' a' x2, ok = false → SMm mem m' k n tp g (nI e) a' → P 117 [.ref 108, .int (nI (4 * k)), .int x2] [] (0, 0) (LAY, RFu 123, m') := fun m' a' x2 hf s => by
    refine b202_117 hP (c172f (by rw [s.wr]; exact nf hf) (Bk.i ?_))
    rw [i2]
    refine b202_129 hP v2 ?_
    rw [c2]
    exact D130 _ a' _ hf (s.s (by omega) (by omega))
  have D95 : ∀ m' a' x2, ok = false → SMm mem m' k n tp g (nI e) a' → P 95 [.ref 108, .int (nI (4 * k)), .int x2] [] (0, 0) (LAY, RFu 123, m') := fun m' a' x2 hf s => by
    refine b202_95 hP (c168 s.2.1 (Bk.i (b202_99 hP (c158 (Bk.i (b202_106 hP (fun _ => D117 m' a' _ hf s) (fun _ => b202_109 hP (c170 (Bk.v ?_)))))))))
    rw [if_neg (by rw [s.wr]; exact nf hf)]
    exact D117 m' a' _ hf s
  have D82 : ∀ m' a' x2 y, ok = false → SMm mem m' k n tp g (nI e) a' → P 82 [.ref 108, .int (nI (4 * k)), .int x2] [.int y, .int (nI (4 * k + 1)), .ref 134] (0, 0) (LAY, RFu 123, m') := fun m' a' x2 y hf s => by
    have s2 := s.s (x := y) (i := 4 * k + 1) (by omega) (by omega)
    refine b202_82 hP v1 (fun _ => ?_) (fun _ => b202_89 hP ?_)
    · rw [c1]; exact D130 _ a' _ hf s2
    · rw [c1]
      exact c201 (c := 61) s2.2.1 (by decide) (fun _ => Bk.v (D95 _ a' _ hf s2)) (fun h => absurd h (nf hf)) (fun h => absurd h (nf hf))
  have s0 : SMm mem mem k n tp g (-1) a := ⟨AgM.rfl', hM, fun _ _ => rfl⟩
  have hga := RM_le hM a
  -- from the first sign on
  have P43 : ∀ m' w (P2 : Int32), SMm mem m' k n tp g w a → (∀ m3 y3, SMm mem m3 k n tp g w (a + 1) → m3 134 (4 * k) = P2 → (P2 = nI 113 → y3 = nI 2) → (P2 ≠ nI 113 → y3 = nI 1) → P 79 [.ref 108, .int (nI (4 * k)), .int P2] [.int y3, .ref 108, .int (nI (4 * k + 1)), .ref 134] (0, 0) (LAY, RFu 123, m3)) → P 43 [.ref 108, .int (nI (4 * k)), .int P2] [] (0, 0) (LAY, RFu 123, m') := fun m' w P2 s kk => by
    have s3 : SMm mem (xu2 (xu2 m' 108 24 (nI (a + 1))) 134 (4 * k) P2) k n tp g w (a + 1) := (s.t (by omega)).s (Nat.le_refl _) (by omega)
    have e3 : xu2 (xu2 m' 108 24 (nI (a + 1))) 134 (4 * k) P2 134 (4 * k) = P2 := by rw [xu2_eq, upd_at]
    have et : m' 108 24 + nI 1 = nI (a + 1) := by rw [s.at', nIs]
    refine b202_43 hP v0 (fun z => b202_78 hP ?_) (fun z => b202_74 hP ?_)
    · rw [et, c0, i1]
      exact kk _ _ s3 e3 (fun q => absurd q z) (fun _ => rfl)
    · rw [et, c0, i1]
      exact kk _ _ s3 e3 (fun _ => rfl) (fun q => absurd z q)
  have hre : ∀ c, c < 128 → (hr (g a) = nI c ↔ g a = c) := fun c hc => hr_eq hc
  -- a digit behind it
  have one : ∀ m3 x2 y3, SMm mem m3 k n tp g (-1) (a + 1) → y3 = nI 1 → (¬ (48 ≤ g (a + 1) ∧ g (a + 1) ≤ 57) → ok = false ∧ e = a + 1) → (48 ≤ g (a + 1) ∧ g (a + 1) ≤ 57 → ∀ m4, SMm mem m4 k n tp g (-1) (a + 1 + 1) → m4 134 (4 * k) = m3 134 (4 * k) → m4 134 (4 * k + 1) = nI (g (a + 1) - 48) → (¬ x2 = nI 99 → P 130 [.ref 108, .int (nI (4 * k)), .int x2] [] (0, 0) (LAY, RFu 123, m4)) ∧ (x2 = nI 99 → P 89 [.ref 108, .int (nI (4 * k)), .int x2] [] (0, 0) (LAY, RFu 123, m4))) → P 79 [.ref 108, .int (nI (4 * k)), .int x2] [.int y3, .ref 108, .int (nI (4 * k + 1)), .ref 134] (0, 0) (LAY, RFu 123, m3) := fun m3 x2 y3 s hy kf kt => by
    subst hy
    refine b202_79 hP (c172 (dd := 1) s.2.1 (by omega) (by decide) fun m4 a4 h24 h25 => Bk.i ?_)
    by_cases q : 48 ≤ g (a + 1) ∧ g (a + 1) ≤ 57
    · rw [num1 q] at h24 h25 ⊢
      rw [if_neg (by show ¬ a + 1 + 1 = a + 1; omega)] at h25
      have s4 : SMm mem m4 k n tp g (-1) (a + 1 + 1) := s.m a4 h24 (by omega) h25
      have s5 := s4.s (x := nI (g (a + 1) - 48)) (i := 4 * k + 1) (by omega) (by omega)
      obtain ⟨w1, w2⟩ := kt q _ s5 (by rw [xu2_eq, upd_ne (by omega), a4.1 134 (by simp) (by decide)]) (by rw [xu2_eq, upd_at])
      refine b202_82 hP v1 (fun z => ?_) (fun z => ?_)
      · rw [c1]; exact w1 z
      · rw [c1]; exact w2 z
    · obtain ⟨f1, f2⟩ := kf q
      rw [num0 (dd := 0) q] at h24 h25 ⊢
      rw [if_pos rfl] at h25
      have s4 : SMm mem m4 k n tp g (nI e) (a + 1) := s.m a4 h24 (by omega) (by rw [h25, f2])
      exact D82 _ (a + 1) _ _ f1 s4
  refine b202_0 hP (c168 hM (Bk.i ?_))
  unfold acF at hX
  by_cases q113 : g a = 113
  · -- q
    rw [if_pos q113] at hX
    have hx2 : hr (g a) = nI 113 := (hre 113 (by decide)).mpr q113
    rw [hx2]
    refine b202_4 hP (fun _ => P43 mem (-1) _ s0 fun m3 y3 s3 e3 y1 _ => ?_) (fun z => absurd rfl z)
    rw [y1 rfl]
    refine b202_79 hP (c172 (dd := 2) s3.2.1 (by omega) (by decide) fun m4 a4 h24 h25 => Bk.i (b202_82 hP v1 (fun _ => b202_130 hP (fun _ => ?_) (fun z => absurd z (by decide))) (fun z => absurd z (by decide))))
    rw [c1]
    have nl := numF_le (g := g) (d := 2) (a := a + 1) (v := 0)
    by_cases q : 48 ≤ g (a + 1) ∧ g (a + 1) ≤ 57
    · rw [if_pos q] at hX
      rw [if_neg (num2_ne q)] at h25
      simp only [Prod.mk.injEq] at hX
      obtain ⟨rfl, rfl, rfl⟩ := hX
      have s4 := s3.m a4 h24 (by omega) h25
      refine b202_174 hP (k1 rfl _ (s4.s (by omega) (by omega)) ⟨?_, fun _ => ?_, fun z => absurd z (by show ¬ (113 : Nat) = 99; decide), fun z => absurd z (by show ¬ ((113 : Nat) = 115 ∨ (113 : Nat) = 119); decide), fun z => absurd z (by show ¬ (113 : Nat) = 108; decide)⟩)
      · rw [xu2_eq, upd_ne (by omega), a4.1 134 (by simp) (by decide), e3]
      · rw [xu2_eq, upd_at]
    · rw [if_neg q] at hX
      have e0 : (numF g 2 (a + 1) 0).1 = a + 1 := by rw [num0 (dd := 1) q]
      rw [if_pos e0] at h25
      simp only [Prod.mk.injEq] at hX
      obtain ⟨rfl, rfl, -⟩ := hX
      have s4 := s3.m a4 h24 (by omega) h25
      exact D174 _ _ _ _ _ rfl (s4.s (by omega) (by omega))
  · rw [if_neg q113] at hX
    have n113 : hr (g a) ≠ nI 113 := fun z => q113 ((hre 113 (by decide)).mp z)
    by_cases q99 : g a = 99
    · -- c
      rw [if_pos q99] at hX
      have hx2 : hr (g a) = nI 99 := (hre 99 (by decide)).mpr q99
      rw [hx2] at n113 ⊢
      refine b202_4 hP (fun z => absurd z n113) (fun _ => b202_11 hP (fun _ => P43 mem (-1) _ s0 fun m3 y3 s3 e3 _ y1 => one m3 _ y3 s3 (y1 n113) (fun q => ?_) (fun q m4 s4 f0 f1 => ⟨fun z => absurd rfl z, fun _ => b202_89 hP (c201 (c := 61) s4.2.1 (by decide) (fun z => absurd rfl z) (fun _ q2 => Bk.v ?_) (fun _ q2 => Bk.v ?_))⟩)) (fun z => absurd rfl z))
      · rw [if_neg q] at hX
        simp only [Prod.mk.injEq] at hX
        exact ⟨hX.1.symm, hX.2.1.symm⟩
      · rw [if_pos q, if_neg q2] at hX
        simp only [Prod.mk.injEq] at hX
        obtain ⟨rfl, rfl, -⟩ := hX
        exact D95 _ _ _ rfl s4.flt
      · rw [if_pos q, if_pos q2] at hX
        have s5 := s4.t (b := a + 1 + 1 + 1) (by omega)
        have g0 : xu2 m4 108 24 (nI (a + 1 + 1 + 1)) 134 (4 * k) = nI 99 := by rw [xu2_ne (by decide), f0, e3]
        have g1 : xu2 m4 108 24 (nI (a + 1 + 1 + 1)) 134 (4 * k + 1) = nI (g (a + 1) - 48) := by rw [xu2_ne (by decide), f1]
        generalize xu2 m4 108 24 (nI (a + 1 + 1 + 1)) = m5 at s5 g0 g1
        have hg3 := RM_le s5.2.1 (a + 1 + 1 + 1)
        have hd : ∀ x < 257, (nI 48 ≤ hr x ∧ hr x ≤ nI 56) ↔ (48 ≤ x ∧ x ≤ 56) := by decide +kernel
        have hd := hd (g (a + 1 + 1 + 1)) (by omega)
        refine b202_95 hP (c168 s5.2.1 (Bk.i (b202_99 hP (c158 (Bk.i (b202_106 hP (fun z => ?_) (fun z => b202_109 hP (c170 (Bk.v ?_)))))))))
        · have q3 : 48 ≤ g (a + 1 + 1 + 1) ∧ g (a + 1 + 1 + 1) ≤ 56 := hd.mp (Decidable.by_contra fun w => z (b01_f w))
          rw [if_pos q3] at hX
          simp only [Prod.mk.injEq] at hX
          obtain ⟨rfl, rfl, rfl⟩ := hX
          refine b202_117 hP (c172 (dd := 1) s5.2.1 (by omega) (by decide) fun m6 a6 h24 h25 => Bk.i ?_)
          have q3' : 48 ≤ g (a + 1 + 1 + 1) ∧ g (a + 1 + 1 + 1) ≤ 57 := ⟨q3.1, by omega⟩
          rw [num1 q3'] at h24 h25 ⊢
          rw [if_neg (by show ¬ a + 1 + 1 + 1 + 1 = a + 1 + 1 + 1; omega)] at h25
          have s6 := s5.m a6 h24 (by show a + 1 + 1 + 1 + 1 < 10000; omega) h25
          rw [i2]
          refine b202_129 hP v2 (b202_130 hP (fun _ => ?_) (fun z => absurd z (by decide)))
          rw [c2]
          refine b202_174 hP (k1 rfl _ (s6.s (by omega) (by omega)) ⟨?_, fun z => absurd z (by show ¬ (99 : Nat) = 113; decide), fun _ => ⟨?_, ?_⟩, fun z => absurd z (by show ¬ ((99 : Nat) = 115 ∨ (99 : Nat) = 119); decide), fun z => absurd z (by show ¬ (99 : Nat) = 108; decide)⟩)
          · rw [xu2_eq, upd_ne (by omega), a6.1 134 (by simp) (by decide), g0]
          · rw [xu2_eq, upd_ne (by omega), a6.1 134 (by simp) (by decide), g1]
          · rw [xu2_eq, upd_at]
        · have q3 : ¬ (48 ≤ g (a + 1 + 1 + 1) ∧ g (a + 1 + 1 + 1) ≤ 56) := fun w => b01_0.mp z (hd.mpr w)
          rw [if_neg q3] at hX
          simp only [Prod.mk.injEq] at hX
          obtain ⟨rfl, rfl, -⟩ := hX
          rw [if_pos s5.wr, s5.at']
          exact D117 _ _ _ rfl s5.flt
    · rw [if_neg q99] at hX
      have n99 : hr (g a) ≠ nI 99 := fun z => q99 ((hre 99 (by decide)).mp z)
      by_cases qsw : g a = 115 ∨ g a = 119
      · -- s, w
        rw [if_pos qsw] at hX
        have n108 : hr (g a) ≠ nI 108 := fun z => by have := (hre 108 (by decide)).mp z; omega
        have go : P 43 [.ref 108, .int (nI (4 * k)), .int (hr (g a))] [] (0, 0) (LAY, RFu 123, mem) := by
          refine P43 mem (-1) _ s0 fun m3 y3 s3 e3 _ y1 => one m3 _ y3 s3 (y1 n113) (fun q => ?_) (fun q m4 s4 f0 f1 => ⟨fun _ => b202_130 hP (fun _ => ?_) (fun z => absurd z n108), fun z => absurd z n99⟩)
          · rw [if_neg q] at hX
            simp only [Prod.mk.injEq] at hX
            exact ⟨hX.1.symm, hX.2.1.symm⟩
          · rw [if_pos q] at hX
            simp only [Prod.mk.injEq] at hX
            obtain ⟨rfl, rfl, rfl⟩ := hX
            refine b202_174 hP (k1 rfl _ s4 ⟨?_, fun z => absurd z (by show ¬ g a = 113; omega), fun z => absurd z (by show ¬ g a = 99; omega), fun _ => f1, fun z => absurd z (by show ¬ g a = 108; omega)⟩)
            rw [f0, e3]
            exact (hre (g a) (by omega)).mpr rfl
        refine b202_4 hP (fun z => absurd z n113) (fun _ => b202_11 hP (fun z => absurd z n99) (fun _ => b202_17 hP (fun _ => go) (fun n115 => b202_23 hP (fun _ => go) (fun n119 => ?_))))
        rcases qsw with w | w
        · exact absurd ((hre 115 (by decide)).mpr w) n115
        · exact absurd ((hre 119 (by decide)).mpr w) n119
      · rw [if_neg qsw] at hX
        have n115 : hr (g a) ≠ nI 115 := fun z => qsw (Or.inl ((hre 115 (by decide)).mp z))
        have n119 : hr (g a) ≠ nI 119 := fun z => qsw (Or.inr ((hre 119 (by decide)).mp z))
        refine b202_4 hP (fun z => absurd z n113) (fun _ => b202_11 hP (fun z => absurd z n99) (fun _ => b202_17 hP (fun z => absurd z n115) (fun _ => b202_23 hP (fun z => absurd z n119) (fun _ => b202_29 hP (fun z => ?_) (fun z => b202_35 hP (c170 (Bk.v ?_)))))))
        · -- l
          have q108 := (hre 108 (by decide)).mp z
          rw [if_pos q108] at hX
          rw [z] at n113 n99 ⊢
          refine P43 mem (-1) _ s0 fun m3 y3 s3 e3 _ y1 => one m3 _ y3 s3 (y1 n113) (fun q => ?_) (fun q m4 s4 f0 f1 => ⟨fun _ => b202_130 hP (fun z => absurd rfl z) (fun _ => b202_136 hP (c201 (c := 62) s4.2.1 (by decide) (fun z => absurd rfl z) (fun _ q2 => Bk.v ?_) (fun _ q2 => Bk.v ?_))), fun z => absurd z n99⟩)
          · rw [if_neg q] at hX
            simp only [Prod.mk.injEq] at hX
            exact ⟨hX.1.symm, hX.2.1.symm⟩
          · rw [if_pos q, if_neg q2] at hX
            simp only [Prod.mk.injEq] at hX
            obtain ⟨rfl, rfl, -⟩ := hX
            exact D142 _ _ _ rfl s4.flt
          · rw [if_pos q, if_pos q2] at hX
            have s5 := s4.t (b := a + 1 + 1 + 1) (by omega)
            have g0 : xu2 m4 108 24 (nI (a + 1 + 1 + 1)) 134 (4 * k) = nI 108 := by rw [xu2_ne (by decide), f0, e3]
            have g1 : xu2 m4 108 24 (nI (a + 1 + 1 + 1)) 134 (4 * k + 1) = nI (g (a + 1) - 48) := by rw [xu2_ne (by decide), f1]
            generalize xu2 m4 108 24 (nI (a + 1 + 1 + 1)) = m5 at s5 g0 g1
            refine b202_142 hP (c172 (dd := 1) s5.2.1 (by omega) (by decide) fun m6 a6 h24 h25 => Bk.i ?_)
            rw [i2]
            by_cases q3 : 48 ≤ g (a + 1 + 1 + 1) ∧ g (a + 1 + 1 + 1) ≤ 57
            · rw [if_pos q3] at hX
              rw [num1 q3] at h24 h25 ⊢
              rw [if_neg (by show ¬ a + 1 + 1 + 1 + 1 = a + 1 + 1 + 1; omega)] at h25
              have s6 := (s5.m a6 h24 (by show a + 1 + 1 + 1 + 1 < 10000; omega) h25).s (x := nI (g (a + 1 + 1 + 1) - 48)) (i := 4 * k + 2) (by omega) (by omega)
              have j0 : xu2 m6 134 (4 * k + 2) (nI (g (a + 1 + 1 + 1) - 48)) 134 (4 * k) = nI 108 := by rw [xu2_eq, upd_ne (by omega), a6.1 134 (by simp) (by decide), g0]
              have j1 : xu2 m6 134 (4 * k + 2) (nI (g (a + 1 + 1 + 1) - 48)) 134 (4 * k + 1) = nI (g (a + 1) - 48) := by rw [xu2_eq, upd_ne (by omega), a6.1 134 (by simp) (by decide), g1]
              have j2 : xu2 m6 134 (4 * k + 2) (nI (g (a + 1 + 1 + 1) - 48)) 134 (4 * k + 2) = nI (g (a + 1 + 1 + 1) - 48) := by rw [xu2_eq, upd_at]
              refine b202_154 hP v2 ?_
              rw [c2]
              generalize xu2 m6 134 (4 * k + 2) (nI (g (a + 1 + 1 + 1) - 48)) = m7 at s6 j0 j1 j2 ⊢
              refine c201 (c := 42) s6.2.1 (by decide) (fun z => absurd rfl z) (fun _ q4 => Bk.v ?_) (fun _ q4 => Bk.v ?_)
              · rw [if_neg q4] at hX
                simp only [Prod.mk.injEq] at hX
                obtain ⟨rfl, rfl, -⟩ := hX
                exact D161 _ _ _ rfl s6.flt
              · rw [if_pos q4] at hX
                have s7 := s6.t (b := a + 1 + 1 + 1 + 1 + 1) (by omega)
                have l0 : xu2 m7 108 24 (nI (a + 1 + 1 + 1 + 1 + 1)) 134 = m7 134 := xu2_ne (by decide)
                generalize xu2 m7 108 24 (nI (a + 1 + 1 + 1 + 1 + 1)) = m8 at s7 l0
                refine b202_161 hP (c172 (dd := 2) s7.2.1 (by omega) (by decide) fun m9 a9 h24 h25 => Bk.i ?_)
                rw [i3]
                refine b202_173 hP v3 ?_
                rw [c3]
                have nl := numF_le (g := g) (d := 2) (a := a + 1 + 1 + 1 + 1 + 1) (v := 0)
                by_cases q5 : 48 ≤ g (a + 1 + 1 + 1 + 1 + 1) ∧ g (a + 1 + 1 + 1 + 1 + 1) ≤ 57
                · rw [if_pos q5] at hX
                  rw [if_neg (num2_ne q5)] at h25
                  simp only [Prod.mk.injEq] at hX
                  obtain ⟨rfl, rfl, rfl⟩ := hX
                  have s9 := s7.m a9 h24 (by omega) h25
                  refine b202_174 hP (k1 rfl _ (s9.s (by omega) (by omega)) ⟨?_, fun z => absurd z (by show ¬ (108 : Nat) = 113; decide), fun z => absurd z (by show ¬ (108 : Nat) = 99; decide), fun z => absurd z (by show ¬ ((108 : Nat) = 115 ∨ (108 : Nat) = 119); decide), fun _ => ⟨?_, ?_, ?_⟩⟩)
                  · rw [xu2_eq, upd_ne (by omega), a9.1 134 (by simp) (by decide), l0, j0]
                  · rw [xu2_eq, upd_ne (by omega), a9.1 134 (by simp) (by decide), l0, j1]
                  · rw [xu2_eq, upd_ne (by omega), a9.1 134 (by simp) (by decide), l0, j2]
                  · rw [xu2_eq, upd_at]
                · rw [if_neg q5] at hX
                  have e0 : (numF g 2 (a + 1 + 1 + 1 + 1 + 1) 0).1 = a + 1 + 1 + 1 + 1 + 1 := by rw [num0 (dd := 1) q5]
                  rw [if_pos e0] at h25
                  simp only [Prod.mk.injEq] at hX
                  obtain ⟨rfl, rfl, -⟩ := hX
                  have s9 := s7.m a9 h24 (by omega) h25
                  exact D174 _ _ _ _ _ rfl (s9.s (by omega) (by omega))
            · rw [if_neg q3] at hX
              simp only [Prod.mk.injEq] at hX
              obtain ⟨rfl, rfl, -⟩ := hX
              rw [num0 (dd := 0) q3] at h24 h25 ⊢
              rw [if_pos rfl] at h25
              exact D154 _ _ _ _ rfl (s5.m a6 h24 (by show a + 1 + 1 + 1 < 10000; omega) h25)
        · -- no such act
          have q108 : ¬ g a = 108 := fun w => z ((hre 108 (by decide)).mpr w)
          rw [if_neg q108] at hX
          simp only [Prod.mk.injEq] at hX
          obtain ⟨rfl, rfl, -⟩ := hX
          rw [if_pos s0.wr, s0.at']
          refine P43 _ (nI a) _ s0.flt fun m3 y3 s3 _ _ _ => b202_79 hP (c172f (by rw [s3.wr]; exact nf rfl) (Bk.i (D82 m3 _ _ _ rfl s3)))
end K
theorem acF_bd {g : Nat → Nat} {a e L : Nat} {ok : Bool} {ac : xAcT} (hX : acF g a = (ok, e, ac)) (hl : ∀ i, g i < 256 → i < L) : e ≤ a + 8 ∧ (ok = true → e ≤ L) := by
  have hn : ∀ b, 48 ≤ g b ∧ g b ≤ 57 → (numF g 2 b 0).1 ≤ b + 2 ∧ (numF g 2 b 0).1 ≤ L := fun b h => by
    refine ⟨(numF_le (g := g) (d := 2) (a := b) (v := 0)).2.1, ?_⟩
    have h0 := hl b (by omega)
    rw [numF_s, if_pos h, numF_s]
    split
    · rename_i w
      exact hl (b + 1) (by omega)
    · exact h0
  have le : ∀ b, (false, b, ((0, 0, 0, 0) : xAcT)) = (ok, e, ac) → b ≤ a + 8 → e ≤ a + 8 ∧ (ok = true → e ≤ L) := fun b hb h9 => by
    simp only [Prod.mk.injEq] at hb
    refine ⟨by omega, fun z => ?_⟩
    rw [← hb.1] at z
    cases z
  have nt : ∀ b c, (true, b, c) = (ok, e, ac) → b ≤ a + 8 → b ≤ L → e ≤ a + 8 ∧ (ok = true → e ≤ L) := fun b c hb h1 h2 => by
    simp only [Prod.mk.injEq] at hb
    exact ⟨by omega, fun _ => by omega⟩
  unfold acF at hX
  split at hX
  · split at hX
    · rename_i w
      have := hn (a + 1) w
      exact nt _ _ hX (by omega) (by omega)
    · exact le _ hX (by omega)
  · split at hX
    · split at hX
      · split at hX
        · split at hX
          · rename_i w
            exact nt _ _ hX (by omega) (hl (a + 1 + 1 + 1) (by omega))
          · exact le _ hX (by omega)
        · exact le _ hX (by omega)
      · exact le _ hX (by omega)
    · split at hX
      · split at hX
        · rename_i w
          exact nt _ _ hX (by omega) (hl (a + 1) (by omega))
        · exact le _ hX (by omega)
      · split at hX
        · split at hX
          · split at hX
            · split at hX
              · split at hX
                · split at hX
                  · rename_i w
                    have := hn (a + 1 + 1 + 1 + 1 + 1) w
                    exact nt _ _ hX (by omega) (by omega)
                  · exact le _ hX (by omega)
                · exact le _ hX (by omega)
              · exact le _ hX (by omega)
            · exact le _ hX (by omega)
          · exact le _ hX (by omega)
        · exact le _ hX (by omega)
section K
variable {d r : Nat} {m1 m2 mem m' : Nat → Nat → Int32} {Q : xQr} {g : Nat → Nat}
theorem AcM.sm {j : Nat} {c : xAcT} (h : AcM m1 j c) (e : ∀ i, 4 * j ≤ i → i < 4 * j + 4 → m2 134 i = m1 134 i) : AcM m2 j c := by
  unfold AcM at h ⊢
  rw [e (4 * j) (by omega) (by omega), e (4 * j + 1) (by omega) (by omega), e (4 * j + 2) (by omega) (by omega), e (4 * j + 3) (by omega) (by omega)]
  exact h
def dyV : List Nat := [17, 20, 22, 23, 24, 25]
theorem m200r {P : xPr} {len : Nat} {tx : Nat → Nat} {ok : Bool} {e : Nat} {l' : List xAcT} (hP : Cl (d + 7) none 200 P Q) (hT : TxM m1 len tx) (hX : dyF (gT tx len 60) len = (ok, e, l'))
    (kf : ¬ (ok = true ∧ e = len) → ∀ m', AgM [134] dyV m1 m' → m' 108 17 = nI 0 → Q (some (.int (-1 - nI e))) (LAY, RFu 123, m'))
    (kt : ok = true → e = len → ∀ m' v2 v3 v4 v5 v6 v7 v8, AgM [134] dyV m1 m' → m' 108 17 = nI 0 → (∀ (j : Nat) (c : xAcT), l'[j]? = some c → AcM m' j c) → P 103 [.ref 108, .int (nI l'.length), v2, v3, v4, v5, v6, v7, v8] [] (0, 0) (LAY, RFu 123, m')) :
    P 0 [.ref 108, .null, .null, .null, .null, .null, .null, .null, .null] [] (0, 0) (LAY, RFu r, m1) := by
  obtain ⟨t1, t2, t3⟩ := id hT
  refine b200_0 hP ?_
  have e17 : xu2 m1 108 20 (nI 0) 108 17 = nI len := by rw [e20 (by decide), t1]
  rw [e17]
  have hL : LAY[122]? = some (14, 80) := rfl
  refine c167 hL fun m2 a2 e1 e2 e3 e4 => Bk.v ?_
  have a2' : AgM [134] dyV m1 (xu2 m2 108 17 (nI 0)) := ((th20.mono (by simp) (by decide)).trans (a2.mono (by simp) (by decide))).us (by decide)
  have hM0 : RM m2 123 122 len 60 0 (-1) (gT tx len 60) := gT_RM hL t2 (by decide) (by decide) (by omega) e1 e2 e3 e4 (fun i hi => ⟨(t3 i hi).1, by rw [a2.1 122 (by simp) (by decide), xu2_ne (by decide)]; exact (t3 i hi).2⟩)
  have hM : RM (xu2 m2 108 17 (nI 0)) 123 122 len 60 0 (-1) (gT tx len 60) := RM_mv (W := []) (V := [17]) hM0 (AgM.rfl'.us (by simp)) (by simp) (by simp) (by simp) (by rw [xu2_eq, upd_ne (by decide), e3]) (by decide) (by rw [xu2_eq, upd_ne (by decide), e4])
  have f17 : xu2 m2 108 17 (nI 0) 108 17 = nI 0 := by rw [xu2_eq, upd_at]
  have f22 : xu2 m2 108 17 (nI 0) 108 22 = nI len := by rw [xu2_eq, upd_ne (by decide), e1]
  have key := b200_19 (d := d + 7) (Q := Q) (r := 123) (mem := m2) (v1 := .null) (v2 := .null) (v3 := .null) (v4 := .null) (v5 := .null) (v6 := .null) (v7 := .null) (v8 := .null) hP
  rw [f22] at key
  have hlim : ∀ i, gT tx len 60 i < 256 → i < min len 60 := fun i hi => Decidable.by_contra fun q => by rw [gT_lim (by omega)] at hi; omega
  unfold dyF at hX
  generalize gT tx len 60 = g at hX hM hlim
  generalize xu2 m2 108 17 (nI 0) = m2 at a2' hM f17 key
  -- a fault
  have f89 : ∀ m' x1 v2 v3 v4 v5 v6 v7 v8, AgM [134] dyV m1 m' → m' 108 17 = nI 0 → m' 108 25 = nI e → e < 1000 → ¬ (ok = true ∧ e = len) → P 89 [.ref 108, .int x1, v2, v3, v4, v5, v6, v7, v8] [] (0, 0) (LAY, RFu 123, m') := fun m' x1 v2 v3 v4 v5 v6 v7 v8 a h17 h25 he hno => by
    refine b200_89 hP (c169 (Bk.i (b200_93 hP (fun z => absurd (b01_f (fun q => nI_nm (a := e) (by omega) (by rw [← h25]; exact q))) z) (fun _ => b200_96 hP ?_))))
    rw [h25]
    exact kf hno m' a h17
  have stop : ∀ m' v2 v3 v4 v5 v6 v7 v8, AgM [134] dyV m1 m' → m' 108 17 = nI 0 → RM m' 123 122 len 60 e (-1) g → ok = true → e ≤ min len 60 → (∀ (j : Nat) (c : xAcT), l'[j]? = some c → AcM m' j c) → P 70 [.ref 108, .int (nI l'.length), v2, v3, v4, v5, v6, v7, v8] [] (0, 0) (LAY, RFu 123, m') := fun m' v2 v3 v4 v5 v6 v7 v8 a h17 hM hk hle hc => by
    obtain ⟨-, -, -, -, r22, r23, r24, -, r25, -, -⟩ := id hM
    refine b200_70 hP (fun w => b200_89 hP (c169 (Bk.i (b200_93 hP (fun _ => kt hk ?_ m' _ _ _ _ _ _ _ a h17 hc) (fun q => absurd q (by rw [b01_t r25]; decide)))))) (fun w => b200_81 hP (c170 (Bk.v ?_))) <;> rw [r22, r24, nI_leI (by omega) (by omega)] at w
    · omega
    · rw [if_pos r25, r24]
      exact f89 _ _ _ _ _ _ _ _ _ (a.us (by decide)) (by rw [xu2_eq, upd_ne (by decide), h17]) (by rw [xu2_eq, upd_at]) (by omega) (by omega)
  have main : ∀ f a l m' v3 v4 v5 v6 v7 v8, 61 ≤ a + f → 3 * l.length ≤ a → a ≤ min len 60 → AgM [134] dyV m1 m' → m' 108 17 = nI 0 → RM m' 123 122 len 60 a (-1) g → (∀ (j : Nat) (c : xAcT), l[j]? = some c → AcM m' j c) → rdD g f a l = (ok, e, l') → P 39 [.ref 108, .int (nI l.length), .int (nI 1), v3, v4, v5, v6, v7, v8] [] (0, 0) (LAY, RFu 123, m') := by
    intro f
    induction f with
    | zero =>
      intro a l m' v3 v4 v5 v6 v7 v8 hf hl ha
      omega
    | succ f ih =>
      intro a l m' v3 v4 v5 v6 v7 v8 hf hl ha ag h17 hM hc h
      obtain ⟨-, -, -, -, r22, r23, r24, -, r25, -, -⟩ := id hM
      unfold rdD at h
      obtain ⟨ok1, b, ac', hA⟩ : ∃ ok1 b ac', acF g a = (ok1, b, ac') := ⟨_, _, _, rfl⟩
      rw [hA] at h
      dsimp only at h
      refine b200_39 hP (fun z => absurd z (by decide)) (fun _ => b200_43 hP (c169 (Bk.i (b200_47 hP (fun z => absurd z (by rw [b01_t r25]; decide)) (fun _ => b200_50 hP ?_)))))
      rw [nI_mul]
      refine c202 (k := l.length) hM (by omega) (by omega) hA (fun hf' m3 a' s => Bk.v (b200_57 hP ?_)) (fun hk' m3 s hac => Bk.v (b200_57 hP ?_))
      · rw [hf', if_neg (by decide)] at h
        simp only [Prod.mk.injEq] at h
        obtain ⟨rfl, rfl, rfl⟩ := h
        have hb : b < 1000 := by
          have := (acF_bd hA hlim).1
          omega
        have ag3 : AgM [134] dyV m1 m3 := ag.trans (s.1.mono (by simp) (by decide))
        have h17' : m3 108 17 = nI 0 := by rw [s.1.2 17 (by decide), h17]
        refine c171 (c := 59) s.2.1 (by decide) (fun _ => Bk.i (b200_66 hP (b200_39 hP (fun _ => b200_70 hP (fun _ => f89 m3 _ _ _ _ _ _ _ _ ag3 h17' s.wr hb (fun q => absurd q.1 (by decide))) (fun _ => b200_81 hP (c170 (Bk.v ?_)))) (fun z => absurd rfl z)))) (fun w _ => absurd w (nI_nm (by omega)))
        rw [if_neg (by rw [s.wr]; exact nI_nm (by omega))]
        exact f89 m3 _ _ _ _ _ _ _ _ ag3 h17' s.wr hb (fun q => absurd q.1 (by decide))
      · rw [hk', if_pos rfl] at h
        rw [hk'] at hA
        have hge := (acF_ok hA).2
        have hlen : (l ++ [ac']).length = l.length + 1 := by simp
        have ag3 : AgM [134] dyV m1 m3 := ag.trans (s.1.mono (by simp) (by decide))
        have h17' : m3 108 17 = nI 0 := by rw [s.1.2 17 (by decide), h17]
        have hc3 : ∀ (j : Nat) (c : xAcT), (l ++ [ac'])[j]? = some c → AcM m3 j c := fun j c hj => by
          rcases get_snoc hj with ⟨q1, q2⟩ | ⟨q1, q2⟩
          · exact (hc j c q2).sm (fun i _ hi => s.2.2 i (by omega))
          · rw [q1, q2]; exact hac
        rw [nIs, ← hlen]
        have hble : b ≤ min len 60 := (acF_bd hA hlim).2 rfl
        refine c171 (c := 59) s.2.1 (by decide) (fun w => Bk.i (b200_66 hP (b200_39 hP (fun _ => ?_) (fun z => absurd rfl z)))) (fun _ w => Bk.i (b200_66 hP ?_))
        · have w : ¬ g b = 59 := fun q => w ⟨rfl, q⟩
          rw [if_neg w] at h
          simp only [Prod.mk.injEq] at h
          obtain ⟨rfl, rfl, rfl⟩ := h
          exact stop m3 _ _ _ _ _ _ _ ag3 h17' s.2.1 rfl hble hc3
        · rw [if_pos w] at h
          have hlt := hlim b (by omega)
          exact ih (b + 1) (l ++ [ac']) _ _ _ _ _ _ _ (by omega) (by rw [hlen]; omega) (by omega) (ag3.us (by decide)) (by rw [xu2_eq, upd_ne (by decide), h17']) (RM_mv (W := []) (V := [24]) s.2.1 (AgM.rfl'.us (by simp)) (by simp) (by simp) (by simp) (by rw [xu2_eq, upd_at]) (by omega) (by rw [xu2_eq, upd_ne (by decide)]; exact s.wr)) (fun j c hj => (hc3 j c hj).sm (fun i _ _ => by rw [xu2_ne (by decide)])) h
  refine key (fun z => b200_37 hP (b200_38 hP (b200_39 hP (fun _ => ?_) (fun z => absurd rfl z)))) (fun z => b200_33 hP (b200_38 hP ?_))
  · have hl0 : len = 0 := Decidable.by_contra fun q => nI_nle (by omega) (by omega) z
    rw [if_pos hl0] at hX
    simp only [Prod.mk.injEq] at hX
    obtain ⟨rfl, rfl, rfl⟩ := hX
    exact stop m2 _ _ _ _ _ _ _ a2' f17 hM rfl (Nat.zero_le _) (fun j c hj => by cases hj)
  · have hl0 : len ≠ 0 := fun q => z (by rw [q]; decide)
    rw [if_neg hl0] at hX
    exact main 61 0 [] m2 _ _ _ _ _ _ (by decide) (by decide) (Nat.zero_le _) a2' f17 hM (fun j c hj => by cases hj) hX
end K
/-! day: what is done -/
abbrev dyS : Type := xD × (Nat → Int32) × Nat × (Nat → Nat → Int32)
def dyC (c : Nat → Int32) (a b n : Nat) : Nat → Int32 := upd (upd c (48 + a) (c (48 + a) + nI n)) (48 + b) (c (48 + b) - nI n)
def dyOk (s : dyS) (c : xAcT) : Bool := decide (c.1 = 113 ∨ (c.1 = 99 ∧ c.2.1 < dR s.1) ∨ (c.1 = 108 ∧ c.2.1 < dN s.1 ∧ c.2.2.1 < dN s.1 ∧ c.2.1 ≠ c.2.2.1 ∧ 1 ≤ c.2.2.2) ∨ ((c.1 = 115 ∨ c.1 = 119) ∧ c.2.1 < dN s.1))
def dyX (s : dyS) (c : xAcT) : dyS :=
  if c.1 = 113 then (s.1, qtrs (cfD s.1) s.2.1 c.2.2.2, (if c.2.2.2 = 0 then s.2.2.1 else puN s.2.2.1), (if c.2.2.2 = 0 then s.2.2.2 else puU s.2.2.1 s.2.2.2 s.2.1))
  else if c.1 = 99 then (dsH s.1 (fun x => if x = c.2.1 then c.2.2.2 else dH s.1 x), s.2)
  else if c.1 = 108 then (s.1, dyC s.2.1 c.2.1 c.2.2.1 c.2.2.2, 0, s.2.2.2)
  else (dsK s.1 (fun x => if x = c.2.1 then (if c.1 = 115 then nI 1 else nI 0) else dK s.1 x), s.2)
def dyP (c : xAcT) : Nat := if c.1 = 113 then c.2.2.2 else 0
def dyA (s : dyS) (c : xAcT) : Nat := if c.1 = 113 then qAsks (cfD s.1) s.2.1 c.2.2.2 else 0
def dyL : List xAcT → dyS → Nat → Nat → Nat → dyS × Nat × Nat × Nat × Bool
  | [], s, p, q, k => (s, p, q, k, false)
  | c :: t, s, p, q, k => if dyOk s c = true then dyL t (dyX s c) (p + dyP c) (q + dyA s c) (k + 1) else (s, p, q, k, true)
theorem dyL_k : ∀ {t : List xAcT} {s : dyS} {p q k : Nat} {s' : dyS} {p' q' k' : Nat} {f : Bool}, dyL t s p q k = (s', p', q', k', f) → k' ≤ k + t.length ∧ (f = true ↔ k' < k + t.length)
  | [], s, p, q, k, s', p', q', k', f, h => by
    have h : (s, p, q, k, false) = (s', p', q', k', f) := h
    simp only [Prod.mk.injEq] at h
    obtain ⟨-, -, -, rfl, rfl⟩ := h
    exact ⟨Nat.le_refl _, fun z => absurd z (by decide), fun z => absurd z (by simp)⟩
  | c :: t, s, p, q, k, s', p', q', k', f, h => by
    unfold dyL at h
    have e : (c :: t).length = t.length + 1 := rfl
    split at h
    · obtain ⟨h1, h2⟩ := dyL_k h
      rw [e]
      exact ⟨by omega, by rw [h2]; omega⟩
    · simp only [Prod.mk.injEq] at h
      obtain ⟨-, -, -, rfl, rfl⟩ := h
      rw [e]
      exact ⟨by omega, fun _ => by omega, fun _ => rfl⟩
def dyI (N R B : Nat) (s : dyS) : Prop := dN s.1 = N ∧ dR s.1 = R ∧ DOk s.1 ∧ (∀ r, r < 4 → dH s.1 r ≤ 8) ∧ SV N R B s.2.1 ∧ s.2.2.1 ≤ 10 ∧ ∀ k, k < s.2.2.1 → SV N R B (s.2.2.2 k)
theorem dyC_o {c : Nat → Int32} {a b n i : Nat} (ha : a < 8) (hb : b < 8) (h : i < 48 ∨ 56 ≤ i) : dyC c a b n i = c i := by
  unfold dyC
  rw [upd_ne (by omega), upd_ne (by omega)]
theorem dyC_p {c : Nat → Int32} {a b n p : Nat} (hab : a ≠ b) : dyC c a b n (48 + p) = if p = a then c (48 + a) + nI n else if p = b then c (48 + b) - nI n else c (48 + p) := by
  unfold dyC
  by_cases q : p = a
  · subst q; rw [if_pos rfl, upd_ne (by omega), upd_at]
  · rw [if_neg q]
    by_cases q2 : p = b
    · subst q2; rw [if_pos rfl, upd_at]
    · rw [if_neg q2, upd_ne (by omega), upd_ne (by omega)]
theorem dyI_X {N R B : Nat} {s : dyS} {c : xAcT} (h : dyI N R B s) (hc : AcOk c) (ho : dyOk s c = true) (hB : B + 400 < 500000000) : dyI N R (B + 400) (dyX s c) := by
  obtain ⟨h1, h2, h3, h4, h5, h6, h7⟩ := h
  obtain ⟨k1, k2, k3, k4, k5⟩ := hc
  have ho := of_decide_eq_true ho
  have h7' : ∀ k, k < s.2.2.1 → SV N R (B + 400) (s.2.2.2 k) := fun k hk => (h7 k hk).mono (Nat.le_refl _) (by omega)
  unfold dyX
  by_cases c1 : c.1 = 113
  · rw [if_pos c1]
    have hS : SV N R (B + 400) (qtrs (cfD s.1) s.2.1 c.2.2.2) := by
      have := SV_qs (f := cfD s.1) (R := R) (B := B) (c := s.2.1) (by show SV (dN s.1) R B s.2.1; rw [h1]; exact h5) h3.1 (by rw [← h2]; exact fPok_D h3) c.2.2.2 (by omega)
      have this : SV (dN s.1) R (B + 4 * c.2.2.2) (qtrs (cfD s.1) s.2.1 c.2.2.2) := this
      rw [h1] at this
      exact this.mono (Nat.le_refl _) (by omega)
    refine ⟨h1, h2, h3, h4, hS, ?_, fun k hk => ?_⟩
    · show (if c.2.2.2 = 0 then s.2.2.1 else puN s.2.2.1) ≤ 10
      split
      · exact h6
      · unfold puN; split <;> omega
    · have hk : k < if c.2.2.2 = 0 then s.2.2.1 else puN s.2.2.1 := hk
      show SV N R (B + 400) ((if c.2.2.2 = 0 then s.2.2.2 else puU s.2.2.1 s.2.2.2 s.2.1) k)
      have hs0 : SV N R (B + 400) s.2.1 := h5.mono (Nat.le_refl _) (by omega)
      by_cases q : c.2.2.2 = 0
      · rw [if_pos q] at hk ⊢
        exact h7' k hk
      · rw [if_neg q] at hk ⊢
        unfold puN at hk
        unfold puU
        split at hk
        · rename_i q2
          rw [if_pos q2]
          split
          · exact h7' _ (by omega)
          · exact hs0
        · rename_i q2
          rw [if_neg q2]
          split
          · exact h7' _ (by omega)
          · exact hs0
  · rw [if_neg c1]
    by_cases c2 : c.1 = 99
    · rw [if_pos c2]
      have hf : ∀ r, r < 4 → (fun x => if x = c.2.1 then c.2.2.2 else dH s.1 x) r ≤ 8 := fun r hr => by
        show (if r = c.2.1 then c.2.2.2 else dH s.1 r) ≤ 8
        split
        · exact k5 c2
        · exact h4 r hr
      exact ⟨h1, h2, DOk_H h3 (fun r hr => Nat.le_trans (hf r hr) (by decide)), hf, h5.mono (Nat.le_refl _) (by omega), h6, h7'⟩
    · rw [if_neg c2]
      by_cases c3 : c.1 = 108
      · rw [if_pos c3]
        have hN8 := h5.2.1
        have ho2 : c.2.1 < dN s.1 ∧ c.2.2.1 < dN s.1 ∧ c.2.1 ≠ c.2.2.1 ∧ 1 ≤ c.2.2.2 := by
          rcases ho with w | w | w | w
          · exact absurd w c1
          · exact absurd w.1 c2
          · exact w.2
          · omega
        obtain ⟨o1, o2, o3, o4⟩ := ho2
        rw [h1] at o1 o2
        refine ⟨h1, h2, h3, h4, ?_, by show 0 ≤ 10; decide, fun k hk => absurd hk (Nat.not_lt_zero k)⟩
        exact SV_cred h5 (fun i hi => dyC_o (by omega) (by omega) hi) (fun p hp1 hp2 => by
          show dyC s.2.1 c.2.1 c.2.2.1 c.2.2.2 (48 + p) = 0
          rw [dyC_p o3, if_neg (by omega), if_neg (by omega)]
          exact (h5.2.2.2.1 p hp1 hp2).2 6 (by decide) (by decide)) ((h5.2.2.2.2.2.2.2.2.pay (by omega) (by omega) o3 (nI_toInt (by omega)) (by omega) (fun p hp => dyC_p o3)).mono (by omega)) (by omega)
      · rw [if_neg c3]
        refine ⟨h1, h2, DOk_K h3 (fun p hp => ?_), h4, h5.mono (Nat.le_refl _) (by omega), h6, h7'⟩
        show (if p = c.2.1 then (if c.1 = 115 then nI 1 else nI 0) else dK s.1 p) = 0 ∨ (if p = c.2.1 then (if c.1 = 115 then nI 1 else nI 0) else dK s.1 p) = 1
        split
        · split
          · exact Or.inr rfl
          · exact Or.inl rfl
        · exact h3.2.2.2.1 p hp
def dyCS (m : Nat → Nat → Int32) (s : dyS) : Prop := TwD m 5 s.1 ∧ m 48 = s.2.1 ∧ UC m s.2.2.1 s.2.2.2 ∧ RZe m
def dyMS (m : Nat → Nat → Int32) (s : dyS) : Prop := MwD m s.1 ∧ MV m (dN s.1) s.2.1 ∧ UM m (dN s.1) s.2.2.1 s.2.2.2
def dyW : List Nat := [6, 8] ++ (unC ++ paW)
def dyMW : List Nat := [109, 111, 120] ++ qrW
section K
variable {N R B r d : Nat} {mem m m' m0 m1 m2 m3 m4 m5 : Nat → Nat → Int32} {Q : xQr} {D : xD} {s : dyS} {c : xAcT}
theorem TwD_H5 (h : TwD m 5 D) {r v : Nat} : TwD (xu2 m 6 r (nI v)) 5 (dsH D (fun x => if x = r then v else dH D x)) := by
  obtain ⟨h1, h2, h3, h4, h5, h6, h7, h8⟩ := h
  refine ⟨by rw [xu2_ne (by decide)]; exact h1, by rw [xu2_ne (by decide)]; exact h2, fun x hx => ?_, by rw [xu2_ne (by decide), xu2_ne (by decide)]; exact h4, by rw [xu2_ne (by decide), xu2_ne (by decide)]; exact h5, fun p hp k hk => by rw [xu2_ne (by omega)]; exact h6 p hp k hk, ?_, ?_⟩
  · show xu2 m 6 r (nI v) 6 x = nI (if x = r then v else dH D x)
    rw [xu2_eq]
    by_cases q : x = r
    · rw [if_pos q, q, upd_at]
    · rw [if_neg q, upd_ne q]; exact h3 x hx
  · unfold RuL
    rw [xu2_ne (by decide), xu2_ne (by decide)]
    exact h7
  · unfold RuL
    rw [xu2_ne (by decide), xu2_ne (by decide)]
    exact h8
theorem TwD_K5 (h : TwD m 5 D) {r : Nat} {v : Int32} : TwD (xu2 m 8 r v) 5 (dsK D (fun x => if x = r then v else dK D x)) := by
  obtain ⟨h1, h2, h3, h4, h5, h6, h7, h8⟩ := h
  refine ⟨by rw [xu2_ne (by decide)]; exact h1, by rw [xu2_ne (by decide)]; exact h2, by rw [xu2_ne (by decide)]; exact h3, fun p hp => ?_, by rw [xu2_ne (by decide), xu2_ne (by decide)]; exact h5, fun p hp k hk => by rw [xu2_ne (by omega)]; exact h6 p hp k hk, ?_, ?_⟩
  · show xu2 m 8 r v 7 p = dg D p ∧ xu2 m 8 r v 8 p = if p = r then v else dK D p
    rw [xu2_eq, xu2_ne (by decide)]
    refine ⟨(h4 p hp).1, ?_⟩
    by_cases q : p = r
    · rw [if_pos q, q, upd_at]
    · rw [if_neg q, upd_ne q]; exact (h4 p hp).2
  · unfold RuL
    rw [xu2_ne (by decide), xu2_ne (by decide)]
    exact h7
  · unfold RuL
    rw [xu2_ne (by decide), xu2_ne (by decide)]
    exact h8
theorem dyCS.rz {x : Nat} (hz : RZe m) (hx : x = 6 ∨ x = 8) {i : Nat} {v : Int32} : RZe (xu2 m x i v) := hz.mv fun c hc => Or.inl (xu2_ne (by
  have : ∀ c ∈ zC, c ≠ 6 ∧ c ≠ 8 := by decide
  have := this c hc
  omega))
theorem dyCS.uc {x u : Nat} {U : Nat → Nat → Int32} (h : UC m u U) (hx : x = 6 ∨ x = 8) {i : Nat} {v : Int32} : UC (xu2 m x i v) u U := h.mv fun c hc => xu2_ne (by
  have : ∀ c ∈ unC, c ≠ 6 ∧ c ≠ 8 := by decide
  have := this c hc
  omega)
/-- an act that isn't quarters, in the class -/
theorem c117 {p1 p2 p3 : Int32} (hs : dyCS m s) (hi : dyI N R B s) (hc : AcOk c) (h113 : c.1 ≠ 113) (e99 : c.1 = 99 → p1 = nI c.2.1 ∧ p3 = nI c.2.2.2) (esw : c.1 = 115 ∨ c.1 = 119 → p1 = nI c.2.1) (e108 : c.1 = 108 → p1 = nI c.2.1 ∧ p2 = nI c.2.2.1 ∧ p3 = nI c.2.2.2)
    (k0 : dyOk s c = false → Q (some (.int (nI 0))) (LAY, RFu r, m)) (k1 : dyOk s c = true → ∀ m', Ag dyW m m' → dyCS m' (dyX s c) → Q (some (.int (nI 1))) (LAY, RFu r, m')) : xCall (d + 8) 117 [.ref 0, .int (nI c.1), .int p1, .int p2, .int p3] (LAY, RFu r, m) Q := by
  obtain ⟨hT, h48, hU, hZ⟩ := id hs
  obtain ⟨i1, i2, i3, i4, i5, i6, i7⟩ := id hi
  obtain ⟨kk, kx, ky, kn, k8⟩ := hc
  obtain ⟨d1, d2, -⟩ := id i3
  have hR : m 5 0 = nI (dR s.1) := hT.1
  have hN : m 5 1 = nI (dN s.1) := hT.2.1
  have ti : (nI c.1).toInt = (c.1 : Int) := nI_toInt (by omega)
  refine c_in rfl rfl rfl fun P hP => ?_
  have key := b117_0 (d := d + 7) (Q := Q) (r := r) (mem := m) (p0 := nI c.1) (p1 := p1) (p2 := p2) (p3 := p3) hP
  rw [ti] at key
  have sick : ∀ y : Int32, (c.1 = 115 ∨ c.1 = 119) → y = (if c.1 = 115 then nI 1 else nI 0) → ∀ Q' : xQr, (dyOk s c = false → Q' (some (.int (nI 0))) (LAY, RFu r, m)) → (dyOk s c = true → ∀ m', Ag dyW m m' → dyCS m' (dyX s c) → Q' (some (.int (nI 1))) (LAY, RFu r, m')) → xCall (d + 7) 106 [.ref 0, .int p1, .int y] (LAY, RFu r, m) Q' := fun y hk hy Q' q0 q1 => by
    rw [esw hk]
    have v8 : c.2.1 < 8 → vp_in (nI c.2.1) 8 := fun h => vpn h (by decide)
    refine c_in rfl rfl rfl fun P hP => b106_0 hP (c83 (Or.inl rfl) hN (by omega) (fun hp => Bk.i (b106_8 hP (fun z => absurd rfl z) (fun _ => b106_11 hP (Or.inl rfl) (q0 (decide_eq_false ?_))))) (fun p hp ep => Bk.i (b106_8 hP (fun _ => ?_) (fun z => absurd z (by decide)))))
    · rintro (w | w | w | w)
      · omega
      · omega
      · omega
      · exact hp _ w.2 rfl
    · have ep : c.2.1 = p := nI_inj ep (by omega) (by omega)
      have hok : dyOk s c = true := decide_eq_true (Or.inr (Or.inr (Or.inr ⟨hk, by omega⟩)))
      have fin : Q' (some (.int (nI 1))) (LAY, RFu r, xu2 m 8 c.2.1 y) := by
        refine q1 hok _ (Ag.rfl'.u2 (by decide)) ?_
        unfold dyX
        rw [if_neg h113, if_neg (by omega), if_neg (by omega), ← hy]
        exact ⟨TwD_K5 hT, by rw [xu2_ne (by decide)]; exact h48, dyCS.uc hU (Or.inr rfl), dyCS.rz hZ (Or.inr rfl)⟩
      have y01 : y = 0 ∨ y = 1 := by
        rw [hy]
        split
        · exact Or.inr rfl
        · exact Or.inl rfl
      refine b106_13 hP (fun z => b106_29 hP (b106_30 hP (v8 (by omega)) (Or.inr rfl) ?_)) (fun z => b106_25 hP (b106_30 hP (v8 (by omega)) (Or.inr rfl) ?_))
      · rw [nIc (by omega)]
        rw [z] at fin
        exact fin
      · rw [nIc (by omega)]
        rw [y01.resolve_left z] at fin
        exact fin
  refine key (fun h1 h2 h3 => ?_) (fun h => ?_) (fun h => ?_) (fun h => ?_)
  · -- l
    have h108 : c.1 = 108 := by omega
    obtain ⟨e1, e2, e3⟩ := e108 h108
    rw [e1, e2, e3]
    refine b117_67 hP ?_
    have no : dyOk s c = false → P 72 [.ref 0, .int (nI c.1), .int (nI c.2.1), .int (nI c.2.2.1), .int (nI c.2.2.2)] [] (0, 0) (LAY, RFu r, m) → True := fun _ _ => trivial
    have bad : (∀ w : dyOk s c = true, False) → dyOk s c = false := fun h => by
      cases hh : dyOk s c
      · rfl
      · exact absurd hh h
    have yes : dyOk s c = true → c.2.1 < dN s.1 ∧ c.2.2.1 < dN s.1 ∧ c.2.1 ≠ c.2.2.1 ∧ 1 ≤ c.2.2.2 := fun h => by
      rcases of_decide_eq_true h with w | w | w | w
      · omega
      · omega
      · exact w.2
      · omega
    refine c_in rfl rfl rfl fun P2 hP2 => b122_0 hP2 (c152 hN (by omega) (fun hp => Bk.i (b122_6 hP2 (fun _ => b122_20 hP2 (Or.inl rfl) (Bk.i (b117_75 hP (Or.inl rfl) (k0 (bad fun h => ?_))))) (fun z => absurd rfl z))) (fun a b hab => Bk.i (b122_6 hP2 (fun z => absurd z (by decide)) (fun _ => b122_9 hP2 (c151 (a := 1) (b := 999) (by decide) (by decide) (fun hs => Bk.i (b122_17 hP2 (fun z => absurd rfl z) (fun _ => b122_20 hP2 (Or.inl rfl) (Bk.i (b117_75 hP (Or.inl rfl) (k0 (bad fun h => ?_))))))) (fun n hn1 hn2 en => Bk.i (b122_17 hP2 (fun _ => b122_22 hP2 ?_) (fun z => absurd z (by decide)))))))))
    · obtain ⟨w1, w2, w3, w4⟩ := yes h
      exact hp _ _ ⟨w1, w2, w3, rfl, rfl⟩
    · obtain ⟨w1, w2, w3, w4⟩ := yes h
      exact hs _ w4 (by omega) rfl
    · obtain ⟨w1, w2, w3, w4, w5⟩ := hab
      have w4 := nI_inj w4 (by omega) (by omega)
      have w5 := nI_inj w5 (by omega) (by omega)
      have en := nI_inj en (by omega) (by omega)
      rw [← w4] at w1 w3
      rw [← w5] at w2 w3
      have hok : dyOk s c = true := decide_eq_true (Or.inr (Or.inr (Or.inl ⟨h108, w1, w2, w3, by omega⟩)))
      refine c68 (Or.inl rfl) (by omega) (by omega) w3 fun m0 a0 e0 => Bk.v (b122_32 hP2 (c27 (Bk.v (b122_39 hP2 (Or.inr rfl) (Bk.i (b117_75 hP (Or.inr rfl) (k1 hok _ ((a0.mono (by decide)).u2 (by decide)) ?_)))))))
      unfold dyX
      rw [if_neg h113, if_neg (by omega), if_pos h108]
      obtain ⟨fr, u1, u2, u3, u4, u5⟩ := hU
      have e0 : m0 48 = dyC (m 48) c.2.1 c.2.2.1 c.2.2.2 := e0
      refine ⟨TwD_mv d2 hT (fun k hk => ?_), ?_, ⟨fr, by rw [xu2_eq, upd_at], Nat.zero_le _, by rw [xu2_eq, upd_ne (by decide), a0 55 (by decide)]; exact u3, u4, fun k hk => absurd hk (Nat.not_lt_zero k)⟩, hZ.mv fun x hx => ?_⟩
      · have : ∀ k ∈ tCells, 5 + k ≠ 55 ∧ 5 + k ∉ [48] := by decide
        rw [xu2_ne (this k hk).1]
        exact a0 _ (this k hk).2
      · rw [xu2_ne (by decide), e0, h48]
      · have : ∀ x ∈ zC, x ≠ 55 := by decide
        rw [xu2_ne (this x hx)]
        by_cases q : x = 48
        · refine Or.inr fun i hi => ?_
          rw [q, e0, dyC_o (by omega) (by omega) (by omega)]
          exact hZ 48 (by decide) i hi
        · exact Or.inl (a0 x (by simpa using q))
  · -- c
    have h99 : c.1 = 99 := by omega
    obtain ⟨e1, e3⟩ := e99 h99
    rw [e1, e3]
    refine b117_36 hP ?_
    refine c_in rfl rfl rfl fun P2 hP2 => b105_0 hP2 (c82 (Or.inl rfl) hR (by omega) (fun hp => Bk.i (b105_8 hP2 (fun _ => b105_21 hP2 (Bk.i (b117_43 hP (fun _ => b117_51 hP (b117_52 hP (Or.inl rfl) (k0 (decide_eq_false ?_)))) (fun z => absurd rfl z)))) (fun z => absurd rfl z))) (fun p hp ep => Bk.i (b105_8 hP2 (fun z => absurd z (by decide)) (fun _ => b105_11 hP2 (c151 (a := 0) (b := 8) (by decide) (by decide) (fun hs => absurd rfl (hs _ (Nat.zero_le _) (k8 h99))) (fun s' _ _ _ => Bk.i (b105_18 hP2 (fun _ => ?_) (fun z => absurd z (by decide)))))))))
    · rintro (w | w | w | w)
      · omega
      · exact hp _ w.2 rfl
      · omega
      · omega
    · have ep : c.2.1 = p := nI_inj ep (by omega) (by omega)
      have hok : dyOk s c = true := decide_eq_true (Or.inr (Or.inl ⟨h99, by omega⟩))
      have v4 : vp_in (nI c.2.1) 4 := vpn (by omega) (by decide)
      have hh := hT.2.2.1 c.2.1 (by omega)
      have hh8 := i4 c.2.1 (by omega)
      refine b105_23 hP2 v4 v4 (Bk.i (b117_43 hP (fun z => absurd z ?_) (fun _ => b117_47 hP (b117_52 hP (Or.inr rfl) ?_))))
      · rw [nIc (by omega), show m 6 c.2.1 = _ from hh]; exact nI_nm (by omega)
      · rw [nIc (by omega)]
        refine k1 hok _ (Ag.rfl'.u2 (by decide)) ?_
        unfold dyX
        rw [if_neg h113, if_pos h99]
        exact ⟨TwD_H5 hT, by rw [xu2_ne (by decide)]; exact h48, dyCS.uc hU (Or.inl rfl), dyCS.rz hZ (Or.inl rfl)⟩
  · have h115 : c.1 = 115 := by omega
    exact b117_53 hP (sick (nI 1) (Or.inl h115) (by rw [if_pos h115]) _ (fun h => Bk.i (b117_59 hP (Or.inl rfl) (k0 h))) (fun h m' a' s' => Bk.i (b117_59 hP (Or.inr rfl) (k1 h m' a' s'))))
  · have h119 : c.1 = 119 := by omega
    exact b117_60 hP (sick (nI 0) (Or.inr h119) (by rw [if_neg (by omega)]) _ (fun h => Bk.i (b117_66 hP (Or.inl rfl) (k0 h))) (fun h m' a' s' => Bk.i (b117_66 hP (Or.inr rfl) (k1 h m' a' s'))))
theorem c116L {P : xPr} (hP : Cl (d + 9) none 116 P Q) : ∀ (t : List xAcT) (s : dyS) (p q k B : Nat) (m : Nat → Nat → Int32) (s' : dyS) (p' q' k' : Nat) (f : Bool), m 99 4 = nI (k + t.length) → k + t.length ≤ 60 → (∀ (j : Nat) (c : xAcT), t[j]? = some c → AcC m (k + j) c) → LsOk t → dyI N R B s → B + 400 * t.length < 500000000 → dyCS m s → dyL t s p q k = (s', p', q', k', f) →
    (∀ m' v4, Ag dyW m m' → dyCS m' s' → dyI N R (B + 400 * t.length) s' → P 160 [.ref 0, .int (nI p'), .int (nI q'), .int (nI k'), v4] [] (0, 0) (LAY, RFu r, m')) → P 41 [.ref 0, .int (nI p), .int (nI q), .int (nI k), .int (nI k)] [] (0, 0) (LAY, RFu r, m)
  | [], s, p, q, k, B, m, s', p', q', k', f, h4, hk, hA, hL, hI, hB, hC, hX, kk => by
    have hX : (s, p, q, k, false) = (s', p', q', k', f) := hX
    simp only [Prod.mk.injEq] at hX
    obtain ⟨rfl, rfl, rfl, rfl, -⟩ := hX
    refine b116_41 hP (fun _ => kk m _ Ag.rfl' hC hI) (fun z => absurd ?_ z)
    rw [h4]; exact Int32.le_refl _
  | c :: t, s, p, q, k, B, m, s', p', q', k', f, h4, hk, hA, hL, hI, hB, hC, hX, kk => by
    have el : (c :: t).length = t.length + 1 := rfl
    rw [el] at h4 hk hB kk
    have hc : AcOk c := hL 0 c rfl
    have ac : AcC m k c := hA 0 c rfl
    have vk : vp_in (nI k) 60 := vpn (by omega) (by decide)
    have ck : (nI k).toNatClampNeg = k := nIc (by omega)
    unfold dyL at hX
    obtain ⟨a1, a2, a3, a4, a5⟩ := id ac
    have kk10 := hc.1
    -- one was done
    have go : ∀ m2, Ag dyW m m2 → dyCS m2 (dyX s c) → dyOk s c = true → P 41 [.ref 0, .int (nI (p + dyP c)), .int (nI (q + dyA s c)), .int (nI (k + 1)), .int (nI (k + 1))] [] (0, 0) (LAY, RFu r, m2) := fun m2 b2 s2 hok => by
      rw [if_pos hok] at hX
      have f99 : m2 99 = m 99 := b2 99 (by decide)
      have h400 : B + 400 ≤ B + 400 * (t.length + 1) := Nat.add_le_add_left (Nat.le_mul_of_pos_right _ (Nat.succ_pos _)) _
      have hI2 : dyI N R (B + 400) (dyX s c) := dyI_X hI hc hok (Nat.lt_of_le_of_lt h400 hB)
      have hB2 : B + 400 + 400 * t.length < 500000000 := by
        have := hB
        rw [Nat.mul_add, Nat.mul_one, ← Nat.add_assoc, Nat.add_right_comm] at this
        exact this
      have h42 : m2 99 4 = nI (k + 1 + t.length) := by rw [f99, h4, show k + (t.length + 1) = k + 1 + t.length by omega]
      have hk2 : k + 1 + t.length ≤ 60 := by omega
      have hL2 : LsOk t := fun j c' hj => hL (j + 1) c' hj
      obtain ⟨B2, eB⟩ : ∃ B2, B2 = B + 400 := ⟨_, rfl⟩
      rw [← eB] at hI2 hB2
      refine c116L hP t (dyX s c) _ _ (k + 1) B2 m2 s' p' q' k' f h42 hk2 (fun j c' hj => ?_) hL2 hI2 hB2 s2 hX (fun m' v4 b3 s3 i3 => kk m' v4 (b2.trans b3) s3 ?_)
      · have := hA (j + 1) c' hj
        rw [show k + (j + 1) = k + 1 + j by omega] at this
        exact this.sm (by rw [b2 100 (by decide), b2 101 (by decide), b2 102 (by decide), b2 103 (by decide)]; exact ⟨rfl, rfl, rfl, rfl⟩)
      · rw [show B + 400 * (t.length + 1) = B2 + 400 * t.length by omega]
        exact i3
    refine b116_41 hP (fun z => absurd z ?_) (fun _ => b116_53 hP vk (fun z => ?_) (fun z => ?_))
    · rw [h4]; exact nI_ge (by omega) (by omega)
    · rw [ck, a1] at z
      have h113 : c.1 ≠ 113 := fun w => z (by rw [w])
      refine b116_101 hP vk vk vk vk ?_
      rw [ck, a1]
      refine c117 (d := d + 1) hC hI hc h113 a3 a4 a5 (fun hno => Bk.i (b116_145 hP (fun z => absurd rfl z) (fun _ => b116_148 hP ?_))) (fun hok m2 b2 s2 => Bk.i (b116_145 hP (fun _ => b116_151 hP ?_) (fun z => absurd z (by decide))))
      · rw [if_neg (by rw [hno]; decide)] at hX
        simp only [Prod.mk.injEq] at hX
        obtain ⟨rfl, rfl, rfl, rfl, -⟩ := hX
        refine kk m _ Ag.rfl' hC ⟨hI.1, hI.2.1, hI.2.2.1, hI.2.2.2.1, hI.2.2.2.2.1.mono (Nat.le_refl _) (by omega), hI.2.2.2.2.2.1, fun j hj => (hI.2.2.2.2.2.2 j hj).mono (Nat.le_refl _) (by omega)⟩
      · have := go m2 b2 s2 hok
        unfold dyP dyA at this
        rw [if_neg h113, if_neg h113] at this
        rw [nIs]
        exact this
    · rw [ck, a1] at z
      have h113 : c.1 = 113 := nI_inj z (by omega) (by decide)
      have hok : dyOk s c = true := decide_eq_true (Or.inl h113)
      have e3 := a2 h113
      obtain ⟨g1, g2, g3, g4, g5, g6, g7⟩ := id hI
      obtain ⟨hT, h48, hU, hZ⟩ := id hC
      refine b116_68 hP vk vk ?_
      rw [ck, e3]
      refine c110 (D := s.1) (R := R) (B := B) hT g3 (by rw [g1, h48]; exact g5) (by omega) (by have := hc.2.2.2.1; omega) hU hZ fun m2 b2 e2 u2 z2 => Bk.i (b116_96 hP (b116_151 hP ?_))
      have b2' : Ag dyW m m2 := b2.mono (by decide)
      have := go m2 b2' ?_ hok
      · unfold dyP dyA at this
        rw [if_pos h113, if_pos h113] at this
        rw [nIs, nI_add, nI_add, h48]
        exact this
      · unfold dyX
        rw [if_pos h113]
        refine ⟨TwD_mv g3.2.1 hT (fun j hj => ?_), by rw [e2, h48], ?_, z2⟩
        · have : ∀ k ∈ tCells, 5 + k ∉ unC ++ paW := by decide
          exact b2 _ (this j hj)
        · rw [h48] at u2
          exact u2
end K
section K
variable {N R B r d : Nat} {mem m m' m0 m1 m2 m3 m4 m5 : Nat → Nat → Int32} {Q : xQr} {D : xD} {s : dyS} {c : xAcT}
theorem dyMS.t20 (h : dyMS m s) : dyMS (xu2 m 108 20 (nI 0)) s := by
  obtain ⟨h1, h2, h3⟩ := h
  exact ⟨MwD_ag h1 (th20 (x := nI 0)) (by simp) (by decide), h2.ag (th20 (x := nI 0)) (by simp) (by decide), h3.mv (by rw [xu2_ne (by decide)]) (e20 (by decide))⟩
theorem m183D {x n : Nat} (hM : MwD m D) (hR4 : dR D ≤ 4) (hx : x < 100) (hn : n ≤ 8) (k0 : ¬ x < dR D → Q (some (.int (-1))) (LAY, RFu r, xu2 m 108 20 (nI 0))) (k1 : x < dR D → Q (some (.int (nI (dH D x)))) (LAY, RFu r, xu2 (xu2 m 108 20 (nI 0)) 109 x (nI n))) : xCall (d + 3) 183 [.ref 108, .int (nI x), .int (nI n)] (LAY, RFu r, m) Q := by
  have hR : xu2 m 108 20 (nI 0) 108 0 = nI (dR D) := by rw [e20 (by decide)]; exact hM.1
  refine c_in rfl rfl rfl fun P hP => b183_0 hP (c164 hR (by omega) (fun hp => Bk.i (b183_10 hP (fun _ => b183_23 hP (k0 (fun q => hp x q rfl))) (fun z => absurd rfl z))) (fun p hp ep => Bk.i (b183_10 hP (fun z => absurd z (by decide)) (fun _ => b183_13 hP (c158r (a := 0) (b := 8) (by decide) (by decide) (fun q => absurd rfl (q n (Nat.zero_le _) hn)) (fun s' _ _ _ => Bk.i (b183_20 hP (fun _ => ?_) (fun z => absurd z (by decide)))))))))
  have ep : x = p := nI_inj ep (by omega) (by omega)
  have v4 : vp_in (nI x) 4 := vpn (by omega) (by decide)
  have hx' : x < dR D := by omega
  refine b183_25 hP v4 v4 ?_
  rw [nIc (by omega), xu2_ne (c := 109) (a := 108) (by decide), hM.2.2.1 x hx']
  exact k1 hx'
theorem m184D {x : Nat} {y : Int32} (hM : MwD m D) (hN8 : dN D ≤ 8) (hx : x < 100) (hy : y = nI 0 ∨ y = nI 1) (k0 : ¬ x < dN D → Q (some (.int (nI 0))) (LAY, RFu r, xu2 m 108 20 (nI 0))) (k1 : x < dN D → Q (some (.int (nI 1))) (LAY, RFu r, xu2 (xu2 m 108 20 (nI 0)) 111 x y)) : xCall (d + 3) 184 [.ref 108, .int (nI x), .int y] (LAY, RFu r, m) Q := by
  have hN : xu2 m 108 20 (nI 0) 108 2 = nI (dN D) := by rw [e20 (by decide)]; exact hM.2.1
  refine c_in rfl rfl rfl fun P hP => b184_0 hP (c162 hN (by omega) (fun hp => Bk.i (b184_10 hP (fun z => absurd rfl z) (fun _ => b184_13 hP (Or.inl rfl) (k0 (fun q => hp x q rfl))))) (fun p hp ep => Bk.i (b184_10 hP (fun _ => ?_) (fun z => absurd z (by decide)))))
  have ep : x = p := nI_inj ep (by omega) (by omega)
  have ey : xNar 15 y = y := by rcases hy with q | q <;> rw [q] <;> decide
  refine b184_15 hP (vpn (by omega) (by decide)) (Or.inr rfl) ?_
  rw [nIc (by omega), ey]
  exact k1 (by omega)
theorem m207D {a b n : Nat} {cc : Nat → Int32} (hM : MwD m D) (hV : MV m (dN D) cc) (hN8 : dN D ≤ 8) (ha : a < 100) (hb : b < 100) (hn : n < 1000) (k0 : ¬ (a < dN D ∧ b < dN D ∧ a ≠ b ∧ 1 ≤ n) → Q (some (.int (nI 0))) (LAY, RFu r, xu2 m 108 20 (nI 0))) (k1 : a < dN D ∧ b < dN D ∧ a ≠ b ∧ 1 ≤ n → ∀ m', AgM [120] [20, 37] m m' → MV m' (dN D) (dyC cc a b n) → m' 108 37 = nI 0 → Q (some (.int (nI 1))) (LAY, RFu r, m')) : xCall (d + 5) 207 [.ref 108, .int (nI a), .int (nI b), .int (nI n)] (LAY, RFu r, m) Q := by
  have hN : xu2 m 108 20 (nI 0) 108 2 = nI (dN D) := by rw [e20 (by decide)]; exact hM.2.1
  refine c_in rfl rfl rfl fun P hP => ?_
  have f : ¬ (a < dN D ∧ b < dN D ∧ a ≠ b ∧ 1 ≤ n) → ∀ v0 v1 v2 v3, P 25 [v0, v1, v2, v3] [] (0, 0) (LAY, RFu r, xu2 m 108 20 (nI 0)) := fun h v0 v1 v2 v3 => b207_25 hP (Or.inl rfl) (k0 h)
  refine b207_0 hP (c163 hN (by omega) (fun hab => Bk.i (b207_11 hP (fun _ => f (fun w => hab a b ⟨w.1, w.2.1, w.2.2.1, rfl, rfl⟩) _ _ _ _) (fun z => absurd rfl z))) (fun a' b' hab => Bk.i (b207_11 hP (fun z => absurd z (by decide)) (fun _ => b207_14 hP (c158r (a := 1) (b := 999) (by decide) (by decide) (fun hs => Bk.i (b207_22 hP (fun z => absurd rfl z) (fun _ => f (fun w => hs n w.2.2.2 (by omega) rfl) _ _ _ _))) (fun n' hn1 hn2 en => Bk.i (b207_22 hP (fun _ => ?_) (fun z => absurd z (by decide)))))))))
  obtain ⟨w1, w2, w3, w4, w5⟩ := hab
  have w4 := nI_inj w4 (by omega) (by omega)
  have w5 := nI_inj w5 (by omega) (by omega)
  have en := nI_inj en (by omega) (by omega)
  rw [← w4] at w1 w3
  rw [← w5] at w2 w3
  have va : vp_in (nI a) 8 := vpn (by omega) (by decide)
  have vb : vp_in (nI b) 8 := vpn (by omega) (by decide)
  refine b207_27 hP va va vb vb (Or.inr rfl) ?_
  rw [nIc (by omega), nIc (by omega)]
  have e120 : ∀ p, p < dN D → xu2 m 108 20 (nI 0) 120 p = cc (48 + p) := fun p hp => by rw [xu2_ne (by decide)]; exact (hV.1 p hp).2.2.2.2.2.2
  generalize hm2 : xu2 (xu2 (xu2 (xu2 m 108 20 (nI 0)) 120 a _) 120 b _) 108 37 (nI 0) = m2
  have g2 : AgM [120] [20, 37] m m2 := by rw [← hm2]; exact (((AgM.rfl'.us (by simp)).u2 (by simp) (by decide)).u2 (by simp) (by decide)).us (by simp)
  refine k1 ⟨w1, w2, w3, by omega⟩ m2 g2 ?_ (by rw [← hm2, xu2_eq, upd_at])
  refine MV_cred hV hN8 (fun i hi => dyC_o (by omega) (by omega) hi) ⟨g2.1 _ (by simp) (by decide), g2.1 _ (by simp) (by decide), g2.1 _ (by simp) (by decide), g2.1 _ (by simp) (by decide), g2.1 _ (by simp) (by decide), g2.1 _ (by simp) (by decide), g2.1 _ (by simp) (by decide), g2.2 15 (by decide)⟩ (fun p hp => ?_)
  rw [dyC_p w3, ← hm2, xu2_ne (by decide), xu2_eq, xu2_eq]
  by_cases q : p = a
  · subst q
    rw [if_pos rfl, upd_ne w3, upd_at, e120 p hp]
  · rw [if_neg q]
    by_cases q2 : p = b
    · subst q2
      rw [if_pos rfl, upd_at, upd_ne q, e120 p hp]
    · rw [if_neg q2, upd_ne q2, upd_ne q, e120 p hp]
theorem m200L {P : xPr} (hP : Cl (d + 90) none 200 P Q) : ∀ (t : List xAcT) (s : dyS) (p q k B tot r : Nat) (m : Nat → Nat → Int32) (s' : dyS) (p' q' k' : Nat) (f : Bool), tot = k + t.length → tot ≤ 60 → (∀ (j : Nat) (c : xAcT), t[j]? = some c → AcM m (k + j) c) → LsOk t → dyI N R B s → B + 400 * t.length < 500000000 → dyMS m s → dyL t s p q k = (s', p', q', k', f) →
    (∀ r2 m' v1 v2 v7 v8, AgM dyMW qrV m m' → dyMS m' s' → P 327 [.ref 108, v1, v2, .int (nI p'), .int (nI q'), .int (nI k'), .int (if f = true then nI 1 else nI 0), v7, v8] [] (0, 0) (LAY, RFu r2, m')) → ∀ v2 v7 v8, P 114 [.ref 108, .int (nI tot), v2, .int (nI p), .int (nI q), .int (nI k), .int (nI 0), v7, v8] [] (0, 0) (LAY, RFu r, m)
  | [], s, p, q, k, B, tot, r, m, s', p', q', k', f, ht, h60, hA, hL, hI, hB, hM, hX, kk, v2, v7, v8 => by
    have hX : (s, p, q, k, false) = (s', p', q', k', f) := hX
    simp only [Prod.mk.injEq] at hX
    obtain ⟨rfl, rfl, rfl, rfl, rfl⟩ := hX
    have ht : tot = k := ht
    refine b200_114 hP (fun _ => kk r m _ _ _ _ AgM.rfl' hM) (fun z => absurd ?_ z)
    rw [ht]; exact Int32.le_refl _
  | c :: t, s, p, q, k, B, tot, r, m, s', p', q', k', f, ht, h60, hA, hL, hI, hB, hM, hX, kk, v2, v7, v8 => by
    have el : (c :: t).length = t.length + 1 := rfl
    rw [el] at ht hB
    have hc : AcOk c := hL 0 c rfl
    have ac : AcM m k c := hA 0 c rfl
    have i4 : nI 4 * nI k = nI (4 * k) := nI_mul _ _
    have j1 : nI (4 * k) + nI 1 = nI (4 * k + 1) := nI_add _ _
    have j2 : nI (4 * k) + nI 2 = nI (4 * k + 2) := nI_add _ _
    have j3 : nI (4 * k) + nI 3 = nI (4 * k + 3) := nI_add _ _
    have w0 : vp_in (nI (4 * k)) 320 := vpn (by omega) (by decide)
    have w1 : vp_in (nI (4 * k + 1)) 320 := vpn (by omega) (by decide)
    have w2 : vp_in (nI (4 * k + 2)) 320 := vpn (by omega) (by decide)
    have w3 : vp_in (nI (4 * k + 3)) 320 := vpn (by omega) (by decide)
    have y0 : (nI (4 * k)).toNatClampNeg = 4 * k := nIc (by omega)
    have y1 : (nI (4 * k + 1)).toNatClampNeg = 4 * k + 1 := nIc (by omega)
    have y2 : (nI (4 * k + 2)).toNatClampNeg = 4 * k + 2 := nIc (by omega)
    have y3 : (nI (4 * k + 3)).toNatClampNeg = 4 * k + 3 := nIc (by omega)
    unfold dyL at hX
    obtain ⟨a1, a2, a3, a4, a5⟩ := id ac
    obtain ⟨kk10, kx, ky, kn, k8⟩ := id hc
    obtain ⟨g1, g2, g3, g4, g5, g6, g7⟩ := id hI
    obtain ⟨hW, hV, hU⟩ := id hM
    have hR4 : dR s.1 ≤ 4 := g3.1
    have hN8 : dN s.1 ≤ 8 := g3.2.1
    -- one was done
    have go : ∀ r2 m2, AgM dyMW qrV m m2 → dyMS m2 (dyX s c) → dyOk s c = true → ∀ v2 v7 v8, P 309 [.ref 108, .int (nI tot), v2, .int (nI (p + dyP c)), .int (nI (q + dyA s c)), .int (nI k), .int (nI 0), v7, v8] [] (0, 0) (LAY, RFu r2, m2) := fun r2 m2 b2 s2 hok v2 v7 v8 => by
      rw [if_pos hok] at hX
      have h400 : B + 400 ≤ B + 400 * (t.length + 1) := Nat.add_le_add_left (Nat.le_mul_of_pos_right _ (Nat.succ_pos _)) _
      have hI2 : dyI N R (B + 400) (dyX s c) := dyI_X hI hc hok (Nat.lt_of_le_of_lt h400 hB)
      have hB2 : B + 400 + 400 * t.length < 500000000 := by
        have := hB
        rw [Nat.mul_add, Nat.mul_one, ← Nat.add_assoc, Nat.add_right_comm] at this
        exact this
      have ht2 : tot = k + 1 + t.length := by rw [ht]; exact Nat.add_right_comm k t.length 1
      have hL2 : LsOk t := fun j c' hj => hL (j + 1) c' hj
      refine b200_309 hP (fun _ => b200_320 hP (b200_321 hP ?_)) (fun z => absurd rfl z)
      rw [nIs]
      refine m200L hP t (dyX s c) _ _ (k + 1) (B + 400) tot r2 m2 s' p' q' k' f ht2 h60 (fun j c' hj => ?_) hL2 hI2 hB2 s2 hX (fun r3 m' v1 v2 v7 v8 b3 s3 => kk r3 m' v1 v2 v7 v8 (b2.trans b3) s3) v2 v7 v8
      have := hA (j + 1) c' hj
      rw [show k + (j + 1) = k + 1 + j by omega] at this
      exact this.sm (fun i _ _ => by rw [b2.1 134 (by decide) (by decide)])
    -- or refused
    have no : ∀ m2, AgM dyMW qrV m m2 → dyMS m2 s → dyOk s c = false → ∀ v2 v7 v8, P 309 [.ref 108, .int (nI tot), v2, .int (nI p), .int (nI q), .int (nI k), .int (nI 1), v7, v8] [] (0, 0) (LAY, RFu r, m2) := fun m2 b2 s2 hno v2 v7 v8 => by
      rw [if_neg (by rw [hno]; decide)] at hX
      simp only [Prod.mk.injEq] at hX
      obtain ⟨rfl, rfl, rfl, rfl, rfl⟩ := hX
      refine b200_309 hP (fun z => absurd z (by decide)) (fun _ => b200_316 hP (b200_321 hP ?_))
      rw [nI_add, Nat.add_zero]
      exact b200_114 hP (fun _ => kk r m2 _ _ _ _ b2 s2) (fun _ => b200_120 hP (fun _ => kk r m2 _ _ _ _ b2 s2) (fun z => absurd z (by decide)))
    have t20 : AgM dyMW qrV m (xu2 m 108 20 (nI 0)) := (th20 (x := nI 0)).mono (by simp) (by decide)
    have pq : c.1 ≠ 113 → p + dyP c = p ∧ q + dyA s c = q := fun h => by
      unfold dyP dyA
      rw [if_neg h, if_neg h]
      exact ⟨rfl, rfl⟩
    refine b200_114 hP (fun z => absurd z ?_) (fun _ => b200_120 hP (fun z => absurd rfl z) (fun _ => ?_))
    · rw [ht]; exact nI_ge (by omega) (by omega)
    refine b200_125 hP (by rw [i4]; exact w0) (fun z => ?_) (fun z => ?_)
    · rw [i4, y0, a1] at z ⊢
      have h113 : c.1 ≠ 113 := fun w => z (by rw [w])
      obtain ⟨pq1, pq2⟩ := pq h113
      have go := fun m2 b2 s2 hok v2 v7 v8 => go r m2 b2 s2 hok v2 v7 v8
      rw [pq1, pq2] at go
      refine b200_180 hP (fun z2 => b200_223 hP (fun z3 => ?_) (fun z3 => ?_)) (fun z2 => ?_)
      · -- s, w
        have h99 : c.1 ≠ 99 := fun w => z2 (by rw [w])
        have h108 : c.1 ≠ 108 := fun w => z3 (by rw [w])
        have hsw : c.1 = 115 ∨ c.1 = 119 := by omega
        have fin : ∀ y, y = (if c.1 = 115 then nI 1 else nI 0) → P 296 [.ref 108, .int (nI tot), v2, .int (nI p), .int (nI q), .int (nI k), .int (nI 0), .int (nI (4 * k)), .int (nI c.1)] [.int y, .int (nI c.2.1), .ref 108] (0, 0) (LAY, RFu r, m) := fun y hy => by
          refine b200_296 hP (m184D hW hN8 (by omega) (by rw [hy]; split <;> simp) (fun hx => Bk.i (b200_299 hP (fun z => absurd rfl z) (fun _ => b200_302 hP (b200_307 hP (no _ t20 hM.t20 (decide_eq_false ?_) _ _ _))))) (fun hx => Bk.i (b200_299 hP (fun _ => b200_306 hP (b200_307 hP (go _ (t20.u2 (by decide) (by decide)) ?_ (decide_eq_true (Or.inr (Or.inr (Or.inr ⟨hsw, hx⟩)))) _ _ _))) (fun z => absurd z (by decide)))))
          · rintro (w | w | w | w)
            · exact h113 w
            · exact h99 w.1
            · exact h108 w.1
            · exact hx w.2
          · obtain ⟨u1, u2, u3⟩ := hM.t20
            unfold dyX
            rw [if_neg h113, if_neg h99, if_neg h108, ← hy]
            refine ⟨MwD_K (f := fun x => if x = c.2.1 then y else dK s.1 x) u1 (AgM.rfl'.u2 (by simp) (by decide)) (fun x hx => ?_), u2.ag (AgM.rfl'.u2 (W := [111]) (V := []) (by simp) (by decide)) (by decide) (by simp), u3.mv (by rw [xu2_ne (by decide)]) (by rw [xu2_ne (by decide)])⟩
            rw [xu2_eq]
            by_cases e : x = c.2.1
            · rw [if_pos e, e, upd_at]
            · rw [if_neg e, upd_ne e]
              exact (u1.2.2.2.1 x hx).2
        refine b200_274 hP (by rw [j1]; exact w1) (fun z4 => ?_) (fun z4 => ?_)
        · rw [j1, y1, a4 hsw]
          have h115 : c.1 ≠ 115 := fun w => z4 (by rw [w])
          exact b200_295 hP (fin (nI 0) (by rw [if_neg h115]))
        · rw [j1, y1, a4 hsw]
          have h115 : c.1 = 115 := nI_inj z4 (by omega) (by decide)
          exact b200_291 hP (fin (nI 1) (by rw [if_pos h115]))
      · -- l
        have h108 : c.1 = 108 := nI_inj z3 (by omega) (by decide)
        obtain ⟨e1, e2, e3⟩ := a5 h108
        refine b200_230 hP (by rw [j1]; exact w1) (by rw [j2]; exact w2) (by rw [j3]; exact w3) ?_
        rw [j1, j2, j3, y1, y2, y3, e1, e2, e3]
        refine m207D (d := d + 85) hW hV hN8 (by omega) (by omega) (by omega) (fun hx => Bk.i (b200_261 hP (fun z => absurd rfl z) (fun _ => b200_264 hP (b200_269 hP (no _ t20 hM.t20 (decide_eq_false ?_) _ _ _))))) (fun hx m2 b2 v2' e37 => Bk.i (b200_261 hP (fun _ => b200_268 hP (b200_269 hP (go m2 (b2.mono (by decide) (by decide)) ?_ (decide_eq_true (Or.inr (Or.inr (Or.inl ⟨h108, hx⟩)))) _ _ _))) (fun z => absurd z (by decide))))
        · rintro (w | w | w | w)
          · exact h113 w
          · omega
          · exact hx w.2
          · omega
        · unfold dyX
          rw [if_neg h113, if_neg (by omega), if_pos h108]
          exact ⟨MwD_ag hW b2 (by decide) (by decide), v2', e37, fun k hk => absurd hk (Nat.not_lt_zero k)⟩
      · -- c
        have h99 : c.1 = 99 := nI_inj z2 (by omega) (by decide)
        obtain ⟨e1, e2⟩ := a3 h99
        refine b200_187 hP (by rw [j1]; exact w1) (by rw [j2]; exact w2) ?_
        rw [j1, j2, y1, y2, e1, e2]
        refine m183D (d := d + 87) hW hR4 (by omega) (k8 h99) (fun hx => Bk.i (b200_209 hP (fun z => absurd rfl z) (fun _ => b200_213 hP (b200_218 hP (no _ t20 hM.t20 (decide_eq_false ?_) _ _ _))))) (fun hx => Bk.i (b200_209 hP (fun _ => b200_217 hP (b200_218 hP (go _ (t20.u2 (by decide) (by decide)) ?_ (decide_eq_true (Or.inr (Or.inl ⟨h99, hx⟩))) _ _ _))) (fun z => absurd z (nI_nm (by have := g4 c.2.1 (by omega); omega)))))
        · rintro (w | w | w | w)
          · exact h113 w
          · exact hx w.2
          · omega
          · omega
        · obtain ⟨u1, u2, u3⟩ := hM.t20
          unfold dyX
          rw [if_neg h113, if_pos h99]
          refine ⟨MwD_H (f := fun x => if x = c.2.1 then c.2.2.2 else dH s.1 x) u1 (AgM.rfl'.u2 (by simp) (by decide)) (fun x hx => ?_), u2.ag (AgM.rfl'.u2 (W := [109]) (V := []) (by simp) (by decide)) (by decide) (by simp), u3.mv (by rw [xu2_ne (by decide)]) (by rw [xu2_ne (by decide)])⟩
          rw [xu2_eq]
          by_cases e : x = c.2.1
          · rw [if_pos e, e, upd_at]
          · rw [if_neg e, upd_ne e]
            exact u1.2.2.1 x hx
    · rw [i4, y0, a1] at z ⊢
      have h113 : c.1 = 113 := nI_inj z (by omega) (by decide)
      have hok : dyOk s c = true := decide_eq_true (Or.inl h113)
      have e2 := a2 h113
      obtain ⟨now, n1', n2'⟩ := g5.now
      have hMB : MB m (cfD s.1) s.2.1 := ⟨MwD_Cf hW g3, by show PV (dN s.1) s.2.1; rw [g1]; exact g5.1, hV, now, by omega, n2'⟩
      refine b200_147 hP (by rw [j1]; exact w1) ?_
      rw [j1, y1, e2]
      refine m195 (d := d + 10) hMB (by omega) hU g6 fun r' m2 b2 v2' u2 _ _ => Bk.i (b200_162 hP (by rw [j1]; exact w1) ?_)
      rw [j1, y1, b2.1 134 (by decide) (by decide), e2, nI_add, nI_add]
      have := go r' m2 (b2.mono (by decide) (fun _ h => h)) ?_ hok
      · unfold dyP dyA at this
        rw [if_pos h113, if_pos h113] at this
        exact this _ _ _
      · unfold dyX
        rw [if_pos h113]
        exact ⟨MwD_ag hW b2 (by decide) (by decide), v2', u2⟩
end K
theorem tk_day : Tk 116 200 [] := by
  intro N R B r mem Q h hB K
  obtain ⟨p0, pch, ppe, ppl, psh, pr0, pr1⟩ := RTo_parts h.2.2.1
  obtain ⟨hR, hR4, hN, hN8, hR2, hN2⟩ := id p0
  obtain ⟨len, tx, hT, hT2⟩ := id h.1
  obtain ⟨hM, hS⟩ := id h.2.2.2.1
  obtain ⟨e1, e2, dD, tD, mD⟩ := RTo_D h.2.2.1
  obtain ⟨u, U, uc, um, us⟩ := RUn_U.mp h.2.2.2.2.1
  obtain ⟨ok, ee, l', hX⟩ : ∃ ok ee l', dyF (gT tx len 60) len = (ok, ee, l') := ⟨_, _, _, rfl⟩
  have txt : ∀ m2 : Nat → Nat → Int32, m2 1 1 = nI 0 → m2 108 17 = nI 0 → RTx m2 := fun m2 e1 e2 => ⟨0, tx, ⟨e1, by omega, fun i hi => absurd hi (Nat.not_lt_zero i)⟩, ⟨e2, by omega, fun i hi => absurd hi (Nat.not_lt_zero i)⟩⟩
  have mod : ∀ m1 : Nat → Nat → Int32, (∀ c, 108 ≤ c → m1 c = mem c) → TxM m1 len tx := fun m1 e => by
    unfold TxM at hT2 ⊢
    rw [e 108 (by decide), e 122 (by decide)]
    exact hT2
  refine c_in rfl rfl rfl fun P hP => b116_0 hP (c18 (d := 293) hT hX (fun hno m1 a1 e12 => Bk.i (b116_7 hP (fun z => absurd rfl z) (fun _ => b116_10 hP (c73 (Bk.v (b116_17 hP (c80 (Bk.i (b116_24 hP ?_))))))))) (fun hk he m1 a1 h4 hc => Bk.i (b116_7 hP (fun _ => b116_25 hP (c73 (Bk.v (b116_32 hP ?_)))) (fun z => absurd z (by decide)))))
  · have f12 : xu2 m1 1 1 (nI 0) 1 2 = nI ee := by rw [xu2_eq, upd_ne (by decide), e12]
    rw [f12]
    refine K _ _ ?_
    intro Q2 k2
    have b1 : Ag dyR mem (xu2 m1 1 1 (nI 0)) := a1.u2 (by decide)
    refine c_in rfl rfl rfl fun P hP => m200r (d := 292) hP (mod _ (fun c hc => b1 c (by simp [dyR]; omega))) hX (fun _ m2 g2 h17 => k2 _ _ (kEnd (N := N) (R := R) ?_ hB)) (fun hk he => absurd ⟨hk, he⟩ hno)
    exact ⟨txt m2 (by rw [g2.1 1 (by decide) (by decide), xu2_eq, upd_at]) h17, kRw h b1 g2 (by decide), kTo h b1 g2 (by decide), kSt h b1 g2 (by decide), kUn h b1 g2 (by decide), kOl h b1 g2 (by decide), kKe h b1 g2 (by decide), kZe h b1 g2 (by decide)⟩
  · have hl27 : l'.length ≤ 27 ∧ LsOk l' := by
      unfold dyF at hX
      by_cases q : len = 0
      · rw [if_pos q] at hX
        simp only [Prod.mk.injEq] at hX
        obtain ⟨-, -, rfl⟩ := hX
        exact ⟨by decide, fun j c hj => by cases hj⟩
      · rw [if_neg q] at hX
        obtain ⟨x1, x2⟩ := rdD_ok (l := []) (fun j c hj => by cases hj) (Nat.le_refl _) hX
        have := x2 hk
        have := hT.2.1
        exact ⟨by omega, x1⟩
    obtain ⟨hl27, hLs⟩ := hl27
    have b1 : Ag dyR mem (xu2 m1 1 1 (nI 0)) := a1.u2 (by decide)
    have g99 : ∀ c, c ≠ 1 → xu2 m1 1 1 (nI 0) c = m1 c := fun c hc => xu2_ne hc
    generalize hm1 : xu2 m1 1 1 (nI 0) = m1' at b1 g99
    have f11 : m1' 1 1 = nI 0 := by rw [← hm1, xu2_eq, upd_at]
    clear hm1
    obtain ⟨s', p', q', k', f, hL⟩ : ∃ s' p' q' k' f, dyL l' (D0 mem, mem 48, u, U) 0 0 0 = (s', p', q', k', f) := ⟨_, _, _, _, _, rfl⟩
    have hI : dyI N R B (D0 mem, mem 48, u, U) := by
      obtain ⟨fr, -, hu10, -⟩ := id uc
      refine ⟨e2, e1, dD, fun x hx => ?_, hS, hu10, us⟩
      obtain ⟨y, y1, y2, -⟩ := pch x hx
      have y3 : mem 6 x = nI (dH (D0 mem) x) := tD.2.2.1 x hx
      rw [y2] at y3
      have := nI_inj y3 (by omega) (by have := dD.2.2.1 x hx; omega)
      show dH (D0 mem) x ≤ 8
      omega
    have hC : dyCS m1' (D0 mem, mem 48, u, U) := by
      refine ⟨TwD_mv dD.2.1 tD (fun k hk => ?_), b1 48 (by decide), uc.mv fun c hc => ?_, h.2.2.2.2.2.2.2.mv fun c hc => Or.inl ?_⟩
      · have : ∀ k ∈ tCells, 5 + k ∉ dyR := by decide
        exact b1 _ (this k hk)
      · have : ∀ c ∈ unC, c ∉ dyR := by decide
        exact b1 _ (this c hc)
      · have : ∀ c ∈ zC, c ∉ dyR := by decide
        exact b1 _ (this c hc)
    have hBl : B + 400 * l'.length < 500000000 := by omega
    have hc' : ∀ (j : Nat) (c : xAcT), l'[j]? = some c → AcC m1' (0 + j) c := fun j c hj => by
      rw [Nat.zero_add]
      exact (hc j c hj).sm (by rw [g99 100 (by decide), g99 101 (by decide), g99 102 (by decide), g99 103 (by decide)]; exact ⟨rfl, rfl, rfl, rfl⟩)
    refine c116L (d := 290) hP l' _ 0 0 0 B m1' s' p' q' k' f (by rw [g99 99 (by decide), h4, Nat.zero_add]) (by omega) hc' hLs hI hBl hC hL fun m2 v4 b2 s2 i2 => b116_160 hP (c31 fun m3 a3 w3 => Bk.v (b116_167 hP (c32 w3 (by simp) fun m4 a4 w4 => Bk.v (b116_175 hP (c32 w4 (by simp) fun m5 a5 w5 => Bk.v ?_)))))
    obtain ⟨hk1, hk2⟩ := dyL_k hL
    rw [Nat.zero_add] at hk1 hk2
    have e99 : m5 99 4 = nI l'.length := by rw [a5 99 (by decide), a4 99 (by decide), a3 99 (by decide), b2 99 (by decide), g99 99 (by decide), h4]
    have fin : ∀ y, y = (if f = true then nI 1 else nI 0) → P 203 [.ref 0, .int (nI p'), .int (nI q'), .int (nI k'), v4] [.int y, .ref 3] (0, 0) (LAY, RFu r, m5) := fun y hy => by
      refine b116_203 hP (c32 w5 (by simp) fun m6 a6 w6 => Bk.v (b116_206 hP (K _ _ ?_)))
      intro Q2 k2
      have a36 : Ag [3, 4] m2 m6 := (((a3.mono (by simp)).trans a4).trans a5).trans a6
      have b6 : Ag (dyR ++ ([3, 4] ++ dyW)) mem m6 := (b1.mono (fun _ h => List.mem_append_left _ h)).trans ((b2.mono (fun _ h => List.mem_append_right _ (List.mem_append_right _ h))).trans (a36.mono (fun _ h => List.mem_append_right _ (List.mem_append_left _ h))))
      have hi6 : ∀ c, 108 ≤ c → m6 c = mem c := fun c hc => b6 c (by simp [dyR, dyW, unC, paW]; omega)
      refine c_in rfl rfl rfl fun P hP => m200r (d := 292) hP (mod m6 hi6) hX (fun hno => absurd ⟨hk, he⟩ hno) (fun _ _ m7 v2 v3 v4 v5 v6 v7 v8 g7 h17 hc7 => b200_103 hP ?_)
      have hM7 : dyMS m7 (D0 mem, mem 48, u, U) := by
        have aa : AgM (dyR ++ ([3, 4] ++ dyW)) [] mem m6 := ⟨fun c hc _ => b6 c hc, fun j _ => by rw [hi6 108 (by decide)]⟩
        refine ⟨MwD_ag (MwD_ag mD aa (by decide) (by decide)) g7 (by decide) (by decide), ?_, ?_⟩
        · show MV m7 (dN (D0 mem)) (mem 48)
          rw [e2]
          exact (hM.ag aa (by decide) (by simp)).ag g7 (by decide) (by decide)
        · show UM m7 (dN (D0 mem)) u U
          rw [e2]
          exact um.mv (by rw [g7.1 132 (by decide) (by decide), hi6 132 (by decide)]) (by rw [g7.2 37 (by decide), hi6 108 (by decide)])
      refine m200L (d := 209) hP l' _ 0 0 0 B l'.length 123 m7 s' p' q' k' f (Nat.zero_add _).symm (by omega) (fun j c hj => by rw [Nat.zero_add]; exact hc7 j c hj) hLs hI hBl hM7 hL (fun r2 m8 v1 v2 v7 v8 g8 s8 => b200_327 hP (c161 (xs := []) (RwM_nil (by rw [xu2_eq, upd_at])) (by decide) fun m9 g9 w9 => Bk.v (b200_337 hP (c161 w9 (by simp) fun m10 g10 w10 => Bk.v ?_)))) v2 v7 v8
      have a19 : AgM [] [19] m8 (xu2 m8 108 19 (nI 0)) := AgM.rfl'.us (by simp)
      have fin2 : ∀ v0 v1 v2 v3 v4 v6 v7 v8 y2, y2 = y → P 354 [v0, v1, v2, v3, v4, .int (nI k'), v6, v7, v8] [.int y2, .ref 108] (0, 0) (LAY, RFu r2, m10) := fun v0 v1 v2 v3 v4 v6 v7 v8 y2 hy2 => by
        subst hy2
        refine b200_354 hP (c161 w10 (by simp) fun m11 g11 w11 => Bk.v (b200_357 hP (k2 _ _ (kEnd2 (N := N) (R := R) (B' := B + 400 * l'.length) ?_ (by omega) hB))))
        have g8' : AgM [123] [19] m8 m11 := (((a19.mono (by simp) (by simp)).trans g9).trans g10).trans g11
        have gg : AgM ([134, 123] ++ dyMW) ([17, 19] ++ qrV) m6 m11 := ((g7.mono (by decide) (by decide)).trans (g8.mono (by decide) (by decide))).trans (g8'.mono (by decide) (by decide))
        obtain ⟨x1, x2, x3⟩ := s8
        obtain ⟨i1, i2', i3, i4, i5, i6, i7⟩ := i2
        obtain ⟨z1, z2, z3, z4⟩ := s2
        have nc : ∀ c, c < 108 → c ∉ [3, 4] → m11 c = m2 c := fun c hc hc2 => by
          have q : c ∉ [134, 123] ++ dyMW := by simp [dyMW, qrW]; omega
          rw [gg.1 c q (by omega), a36 c hc2]
        have T11 : TwD m11 5 s'.1 := TwD_mv i3.2.1 z1 (fun k hk => by
          have : ∀ k ∈ tCells, 5 + k < 108 ∧ 5 + k ∉ [3, 4] := by decide
          exact nc _ (this k hk).1 (this k hk).2)
        have M11 : MwD m11 s'.1 := MwD_ag x1 g8' (by decide) (by decide)
        have V11 : MV m11 N s'.2.1 := by
          have := x2.ag g8' (by decide) (by decide)
          rw [i1] at this
          exact this
        have U11 : UM m11 N s'.2.2.1 s'.2.2.2 := by
          have := x3.mv (m' := m11) (by rw [g8'.1 132 (by decide) (by decide)]) (by rw [g8'.2 37 (by decide)])
          rw [i1] at this
          exact this
        have e48 : m11 48 = s'.2.1 := by rw [nc 48 (by decide) (by decide), z2]
        refine ⟨txt m11 ?_ ?_, ⟨_, w6.mv (gg.eqs (by decide) (by decide)), w11⟩, RTo_of (p0.mv (dj_eqs b6 gg (by decide))) (fun x hx => ⟨dH s'.1 x, i4 x hx, T11.2.2.1 x hx, fun hxR => M11.2.2.1 x (by rw [i2']; exact hxR)⟩) (fun x hx => ?_) (ppl.mv (dj_eqs b6 gg (by decide))) (psh.mv (dj_eqs b6 gg (by decide))) (pr0.mv (by decide) (dj_eqs b6 gg (by decide))) (pr1.mv (by decide) (dj_eqs b6 gg (by decide))), ⟨by rw [e48]; exact V11, by rw [e48]; exact i5⟩, RUn_U.mpr ⟨_, _, z3.mv (fun c hc => ?_), U11, i7⟩, kOl h b6 gg (by decide), (kKe h b6 gg (by decide)).mono (by omega), z4.mv fun c hc => Or.inl ?_⟩
        · rw [nc 1 (by decide) (by decide), b2 1 (by decide), f11]
        · rw [g8'.2 17 (by decide), g8.2 17 (by decide), h17]
        · have hx' : x < dN s'.1 := by rw [i1]; exact hx
          obtain ⟨t1, t2⟩ := T11.2.2.2.1 x hx'
          obtain ⟨t3, t4⟩ := M11.2.2.2.1 x hx'
          have t1 : m11 7 x = dg s'.1 x := t1
          have t2 : m11 8 x = dK s'.1 x := t2
          rw [t1, t2, t3, t4]
          exact ⟨rfl, rfl, i3.2.2.2.1 x hx'⟩
        · have : ∀ c ∈ unC, c < 108 ∧ c ∉ [3, 4] := by decide
          exact nc _ (this c hc).1 (this c hc).2
        · have : ∀ c ∈ zC, c < 108 ∧ c ∉ [3, 4] := by decide
          exact nc _ (this c hc).1 (this c hc).2
      refine b200_343 hP (fun z => b200_353 hP (fin2 _ _ _ _ _ _ _ _ _ ?_)) (fun z => b200_349 hP (fin2 _ _ _ _ _ _ _ _ _ ?_))
      · rw [hy]
        cases f
        · rfl
        · exact absurd z (by decide)
      · rw [hy]
        cases f
        · exact absurd rfl z
        · rfl
    refine b116_183 hP (fun z => b116_202 hP (fin _ ?_)) (fun z => b116_198 hP (fin _ ?_)) <;> rw [e99, nI_leI (by omega) (by omega)] at z
    · rw [if_neg (fun w => by have := hk2.mp w; omega)]
    · rw [if_pos (hk2.mpr (by omega))]
