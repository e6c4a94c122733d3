/-! day: how it is read -/
abbrev xAcT : Type := Nat × Nat × Nat × Nat
def acF (g : Nat → Nat) (a : Nat) : Bool × Nat × xAcT :=
  if g a = 113 then
    if 48 ≤ g (a + 1) ∧ g (a + 1) ≤ 57 then (true, (numF g 2 (a + 1) 0).1, (113, 0, 0, (numF g 2 (a + 1) 0).2)) else (false, a + 1, (0, 0, 0, 0))
  else if g a = 99 then
    if 48 ≤ g (a + 1) ∧ g (a + 1) ≤ 57 then
      if g (a + 1 + 1) = 61 then
        if 48 ≤ g (a + 1 + 1 + 1) ∧ g (a + 1 + 1 + 1) ≤ 56 then (true, a + 1 + 1 + 1 + 1, (99, g (a + 1) - 48, 0, g (a + 1 + 1 + 1) - 48)) else (false, a + 1 + 1 + 1, (0, 0, 0, 0))
      else (false, a + 1 + 1, (0, 0, 0, 0))
    else (false, a + 1, (0, 0, 0, 0))
  else if g a = 115 ∨ g a = 119 then
    if 48 ≤ g (a + 1) ∧ g (a + 1) ≤ 57 then (true, a + 1 + 1, (g a, g (a + 1) - 48, 0, 0)) else (false, a + 1, (0, 0, 0, 0))
  else if g a = 108 then
    if 48 ≤ g (a + 1) ∧ g (a + 1) ≤ 57 then
      if g (a + 1 + 1) = 62 then
        if 48 ≤ g (a + 1 + 1 + 1) ∧ g (a + 1 + 1 + 1) ≤ 57 then
          if g (a + 1 + 1 + 1 + 1) = 42 then
            if 48 ≤ g (a + 1 + 1 + 1 + 1 + 1) ∧ g (a + 1 + 1 + 1 + 1 + 1) ≤ 57 then (true, (numF g 2 (a + 1 + 1 + 1 + 1 + 1) 0).1, (108, g (a + 1) - 48, g (a + 1 + 1 + 1) - 48, (numF g 2 (a + 1 + 1 + 1 + 1 + 1) 0).2)) else (false, a + 1 + 1 + 1 + 1 + 1, (0, 0, 0, 0))
          else (false, a + 1 + 1 + 1 + 1, (0, 0, 0, 0))
        else (false, a + 1 + 1 + 1, (0, 0, 0, 0))
      else (false, a + 1 + 1, (0, 0, 0, 0))
    else (false, a + 1, (0, 0, 0, 0))
  else (false, a, (0, 0, 0, 0))
def AcC (m : Nat → Nat → Int32) (k : Nat) (c : xAcT) : Prop := m 100 k = nI c.1 ∧ (c.1 = 113 → m 103 k = nI c.2.2.2) ∧ (c.1 = 99 → m 101 k = nI c.2.1 ∧ m 103 k = nI c.2.2.2) ∧ (c.1 = 115 ∨ c.1 = 119 → m 101 k = nI c.2.1) ∧ (c.1 = 108 → m 101 k = nI c.2.1 ∧ m 102 k = nI c.2.2.1 ∧ m 103 k = nI c.2.2.2)
def AcM (m : Nat → Nat → Int32) (k : Nat) (c : xAcT) : Prop := m 134 (4 * k) = nI c.1 ∧ (c.1 = 113 → m 134 (4 * k + 1) = nI c.2.2.2) ∧ (c.1 = 99 → m 134 (4 * k + 1) = nI c.2.1 ∧ m 134 (4 * k + 2) = nI c.2.2.2) ∧ (c.1 = 115 ∨ c.1 = 119 → m 134 (4 * k + 1) = nI c.2.1) ∧ (c.1 = 108 → m 134 (4 * k + 1) = nI c.2.1 ∧ m 134 (4 * k + 2) = nI c.2.2.1 ∧ m 134 (4 * k + 3) = nI c.2.2.2)
def AcOk (c : xAcT) : Prop := (c.1 = 113 ∨ c.1 = 99 ∨ c.1 = 115 ∨ c.1 = 119 ∨ c.1 = 108) ∧ c.2.1 < 10 ∧ c.2.2.1 < 10 ∧ c.2.2.2 < 100 ∧ (c.1 = 99 → c.2.2.2 ≤ 8)
theorem acF_ok {g : Nat → Nat} {a e : Nat} {c : xAcT} (h : acF g a = (true, e, c)) : AcOk c ∧ a + 2 ≤ e := by
  have n2 : ∀ b, 48 ≤ g b ∧ g b ≤ 57 → b + 1 ≤ (numF g 2 b 0).1 ∧ (numF g 2 b 0).2 < 100 := fun b hb => by
    have h1 := (numF_le (g := g) (d := 1) (a := b + 1) (v := 10 * 0 + (g b - 48))).1
    have h2 := (numF_le (g := g) (d := 2) (a := b) (v := 0)).2.2
    have e : numF g 2 b 0 = numF g 1 (b + 1) (10 * 0 + (g b - 48)) := by rw [numF_s, if_pos hb]
    refine ⟨by rw [e]; exact h1, by omega⟩
  unfold acF at h
  by_cases c1 : g a = 113
  · rw [if_pos c1] at h
    by_cases c2 : 48 ≤ g (a + 1) ∧ g (a + 1) ≤ 57
    · rw [if_pos c2] at h
      simp only [Prod.mk.injEq, true_and] at h
      obtain ⟨rfl, rfl⟩ := h
      have := n2 (a + 1) c2
      exact ⟨⟨Or.inl rfl, by show (0 : Nat) < 10; decide, by show (0 : Nat) < 10; decide, this.2, fun z => absurd z (by show ¬ (113 : Nat) = 99; decide)⟩, by omega⟩
    · rw [if_neg c2] at h; simp at h
  · rw [if_neg c1] at h
    by_cases c1 : g a = 99
    · rw [if_pos c1] at h
      by_cases c2 : 48 ≤ g (a + 1) ∧ g (a + 1) ≤ 57
      · rw [if_pos c2] at h
        by_cases c3 : g (a + 1 + 1) = 61
        · rw [if_pos c3] at h
          by_cases c4 : 48 ≤ g (a + 1 + 1 + 1) ∧ g (a + 1 + 1 + 1) ≤ 56
          · rw [if_pos c4] at h
            simp only [Prod.mk.injEq, true_and] at h
            obtain ⟨rfl, rfl⟩ := h
            exact ⟨⟨Or.inr (Or.inl rfl), by show g (a + 1) - 48 < 10; omega, by show (0 : Nat) < 10; decide, by show g (a + 1 + 1 + 1) - 48 < 100; omega, fun _ => by show g (a + 1 + 1 + 1) - 48 ≤ 8; omega⟩, by omega⟩
          · rw [if_neg c4] at h; simp at h
        · rw [if_neg c3] at h; simp at h
      · rw [if_neg c2] at h; simp at h
    · rw [if_neg c1] at h
      by_cases c1 : g a = 115 ∨ g a = 119
      · rw [if_pos c1] at h
        by_cases c2 : 48 ≤ g (a + 1) ∧ g (a + 1) ≤ 57
        · rw [if_pos c2] at h
          simp only [Prod.mk.injEq, true_and] at h
          obtain ⟨rfl, rfl⟩ := h
          exact ⟨⟨by show g a = 113 ∨ g a = 99 ∨ g a = 115 ∨ g a = 119 ∨ g a = 108; omega, by show g (a + 1) - 48 < 10; omega, by show (0 : Nat) < 10; decide, by show (0 : Nat) < 100; decide, fun _ => Nat.zero_le _⟩, by omega⟩
        · rw [if_neg c2] at h; simp at h
      · rw [if_neg c1] at h
        by_cases c1 : g a = 108
        · rw [if_pos c1] at h
          by_cases c2 : 48 ≤ g (a + 1) ∧ g (a + 1) ≤ 57
          · rw [if_pos c2] at h
            by_cases c3 : g (a + 1 + 1) = 62
            · rw [if_pos c3] at h
              by_cases c4 : 48 ≤ g (a + 1 + 1 + 1) ∧ g (a + 1 + 1 + 1) ≤ 57
              · rw [if_pos c4] at h
                by_cases c5 : g (a + 1 + 1 + 1 + 1) = 42
                · rw [if_pos c5] at h
                  by_cases c6 : 48 ≤ g (a + 1 + 1 + 1 + 1 + 1) ∧ g (a + 1 + 1 + 1 + 1 + 1) ≤ 57
                  · rw [if_pos c6] at h
                    simp only [Prod.mk.injEq, true_and] at h
                    obtain ⟨rfl, rfl⟩ := h
                    have := n2 (a + 1 + 1 + 1 + 1 + 1) c6
                    exact ⟨⟨Or.inr (Or.inr (Or.inr (Or.inr rfl))), by show g (a + 1) - 48 < 10; omega, by show g (a + 1 + 1 + 1) - 48 < 10; omega, this.2, fun z => absurd z (by show ¬ (108 : Nat) = 99; decide)⟩, by omega⟩
                  · rw [if_neg c6] at h; simp at h
                · rw [if_neg c5] at h; simp at h
              · rw [if_neg c4] at h; simp at h
            · rw [if_neg c3] at h; simp at h
          · rw [if_neg c2] at h; simp at h
        · rw [if_neg c1] at h; simp at h
theorem hcx_ti {x c : Nat} (hc : c < 256) : (hcx x).toInt = (c : Int) ↔ x = c := by
  unfold hcx
  by_cases q : x < 256
  · rw [if_pos q, nI_toInt (by omega)]; omega
  · rw [if_neg q]
    have : ((-1 : Int32)).toInt = -1 := by decide
    rw [this]; omega
def ASm (mem m' : Nat → Nat → Int32) (k : Nat) : Prop := Ag [1, 100, 101, 102, 103] mem m' ∧ ∀ i, i ≠ k → m' 100 i = mem 100 i ∧ m' 101 i = mem 101 i ∧ m' 102 i = mem 102 i ∧ m' 103 i = mem 103 i
section K
variable {d r k : Nat} {mem m' : Nat → Nat → Int32} {Q : xQr} {len lim a b : Nat} {g : Nat → Nat} {x : Int32}
theorem ASm.tx (h : ASm mem m' k) : ASm mem (txM m' b) k := ⟨h.1.trans (txM_ag.mono (by simp)), fun i hi => by rw [txM_ag 100 (by decide), txM_ag 101 (by decide), txM_ag 102 (by decide), txM_ag 103 (by decide)]; exact h.2 i hi⟩
theorem ASm.s {c : Nat} (h : ASm mem m' k) (hc : c = 100 ∨ c = 101 ∨ c = 102 ∨ c = 103) : ASm mem (xu2 m' c k x) k := by
  refine ⟨h.1.u2 (by simp; omega), fun i hi => ?_⟩
  have e : ∀ j, xu2 m' c k x j i = m' j i := fun j => by
    by_cases q : j = c
    · rw [q, xu2_eq, upd_ne hi]
    · rw [xu2_ne q]
  rw [e, e, e, e]
  exact h.2 i hi
theorem RC.st {c : Nat} (h : RC mem len lim a g) (hc : c = 100 ∨ c = 101 ∨ c = 102 ∨ c = 103) : RC (xu2 mem c k x) len lim a g := h.sm (by rw [xu2_ne (by omega)]) (by rw [xu2_ne (by omega)])
theorem c20 (hM : RC mem len lim a g) (hk : k < 60) (k0 : ¬ (48 ≤ g a ∧ g a ≤ 57) → Q (some (.int (nI 0))) (LAY, RFu r, xu2 mem 101 k (-1))) (k1 : 48 ≤ g a ∧ g a ≤ 57 → Q (some (.int (nI 1))) (LAY, RFu r, xu2 (txM mem (a + 1)) 101 k (nI (g a - 48)))) : xCall (d + 3) 20 [.ref 99, .int (nI k)] (LAY, RFu r, mem) Q := by
  have vk : vp_in (nI k) 60 := vpn hk (by decide)
  have ck : (nI k).toNatClampNeg = k := nIc (by omega)
  refine c_in rfl rfl rfl fun P hP => b20_0 hP (c77d (x := 9) hM (by decide) (fun h => Bk.i (b20_14 hP vk vk (fun _ => b20_29 hP (b20_30 hP (Or.inl rfl) ?_)) (fun z => absurd (by rw [ck, xu2_eq, upd_at]) z))) (fun h1 h2 => Bk.i (b20_14 hP vk vk (fun z => absurd z ?_) (fun _ => b20_25 hP (b20_30 hP (Or.inr rfl) ?_)))))
  · rw [ck]; exact k0 h
  · rw [ck, xu2_eq, upd_at]; exact nI_nm (by omega)
  · rw [ck]; exact k1 ⟨h1, h2⟩
theorem c21 (hM : RC mem len lim a g) (hk : k < 60) (k0 : ¬ (48 ≤ g a ∧ g a ≤ 57) → Q (some (.int (nI 0))) (LAY, RFu r, xu2 mem 102 k (-1))) (k1 : 48 ≤ g a ∧ g a ≤ 57 → Q (some (.int (nI 1))) (LAY, RFu r, xu2 (txM mem (a + 1)) 102 k (nI (g a - 48)))) : xCall (d + 3) 21 [.ref 99, .int (nI k)] (LAY, RFu r, mem) Q := by
  have vk : vp_in (nI k) 60 := vpn hk (by decide)
  have ck : (nI k).toNatClampNeg = k := nIc (by omega)
  refine c_in rfl rfl rfl fun P hP => b21_0 hP (c77d (x := 9) hM (by decide) (fun h => Bk.i (b21_14 hP vk vk (fun _ => b21_29 hP (b21_30 hP (Or.inl rfl) ?_)) (fun z => absurd (by rw [ck, xu2_eq, upd_at]) z))) (fun h1 h2 => Bk.i (b21_14 hP vk vk (fun z => absurd z ?_) (fun _ => b21_25 hP (b21_30 hP (Or.inr rfl) ?_)))))
  · rw [ck]; exact k0 h
  · rw [ck, xu2_eq, upd_at]; exact nI_nm (by omega)
  · rw [ck]; exact k1 ⟨h1, h2⟩
theorem c22 (hM : RC mem len lim a g) (hk : k < 60) (k0 : ¬ (48 ≤ g a ∧ g a ≤ 57) → Q (some (.int (nI 0))) (LAY, RFu r, xu2 mem 103 k (-1))) (k1 : 48 ≤ g a ∧ g a ≤ 57 → Q (some (.int (nI 1))) (LAY, RFu r, xu2 (txM mem (numF g 2 a 0).1) 103 k (nI (numF g 2 a 0).2))) : xCall (d + 4) 22 [.ref 99, .int (nI k)] (LAY, RFu r, mem) Q := by
  have vk : vp_in (nI k) 60 := vpn hk (by decide)
  have ck : (nI k).toNatClampNeg = k := nIc (by omega)
  have nl := (numF_le (g := g) (d := 2) (a := a) (v := 0)).2.2
  refine c_in rfl rfl rfl fun P hP => b22_0 hP (c78 (dd := 1) hM (by decide) (fun h => Bk.i (b22_13 hP vk vk (fun _ => b22_28 hP (b22_29 hP (Or.inl rfl) ?_)) (fun z => absurd (by rw [ck, xu2_eq, upd_at]) z))) (fun h1 h2 => Bk.i (b22_13 hP vk vk (fun z => absurd z ?_) (fun _ => b22_24 hP (b22_29 hP (Or.inr rfl) ?_)))))
  · rw [ck]; exact k0 h
  · rw [ck, xu2_eq, upd_at]; exact nI_nm (by show (numF g 2 a 0).2 < _; omega)
  · rw [ck]; exact k1 ⟨h1, h2⟩
theorem c23 (hM : RC mem len lim a g) (hk : k < 60) (k0 : ¬ (48 ≤ g a ∧ g a ≤ 56) → Q (some (.int (nI 0))) (LAY, RFu r, xu2 mem 103 k (-1))) (k1 : 48 ≤ g a ∧ g a ≤ 56 → Q (some (.int (nI 1))) (LAY, RFu r, xu2 (txM mem (a + 1)) 103 k (nI (g a - 48)))) : xCall (d + 3) 23 [.ref 99, .int (nI k)] (LAY, RFu r, mem) Q := by
  have vk : vp_in (nI k) 60 := vpn hk (by decide)
  have ck : (nI k).toNatClampNeg = k := nIc (by omega)
  refine c_in rfl rfl rfl fun P hP => b23_0 hP (c77d (x := 8) hM (by decide) (fun h => Bk.i (b23_14 hP vk vk (fun _ => b23_29 hP (b23_30 hP (Or.inl rfl) ?_)) (fun z => absurd (by rw [ck, xu2_eq, upd_at]) z))) (fun h1 h2 => Bk.i (b23_14 hP vk vk (fun z => absurd z ?_) (fun _ => b23_25 hP (b23_30 hP (Or.inr rfl) ?_)))))
  · rw [ck]; exact k0 h
  · rw [ck, xu2_eq, upd_at]; exact nI_nm (by omega)
  · rw [ck]; exact k1 ⟨h1, h2⟩
theorem numF_lim2 (hM : RC mem len lim b g) (h : 48 ≤ g a ∧ g a ≤ 57) : (numF g 2 a 0).1 ≤ lim := by
  have h0 : a + 1 ≤ lim := hM.lt (by omega)
  rw [numF_s, if_pos h, numF_s]
  split
  · rename_i w
    exact hM.lt (by omega)
  · exact h0
theorem c19 {ok : Bool} {e : Nat} {ac : xAcT} (hM : RC mem len lim a g) (hk : k < 60) (hX : acF g a = (ok, e, ac))
    (k0 : ok = false → ∀ m', ASm mem m' k → m' 1 2 = nI e → Q (some (.int (nI 0))) (LAY, RFu r, m'))
    (k1 : ok = true → ∀ m', ASm mem m' k → RC m' len lim e g → AcC m' k ac → Q (some (.int (nI 1))) (LAY, RFu r, m')) : xCall (d + 5) 19 [.ref 99, .int (nI k)] (LAY, RFu r, mem) Q := by
  have vk : vp_in (nI k) 60 := vpn hk (by decide)
  have ck : (nI k).toNatClampNeg = k := nIc (by omega)
  have hga := hM.le a
  refine c_in rfl rfl rfl fun P hP => b19_0 hP (c75 hM (Bk.i ?_))
  have key := b19_12 (d := d + 4) (Q := Q) (r := r) (mem := mem) (x1 := nI k) (y1 := nI k) (y2 := hcx (g a)) hP vk vk vk vk vk
  rw [ck] at key
  generalize hm1 : xu2 (xu2 (xu2 (xu2 mem 100 k (hcx (g a))) 101 k (-1)) 102 k (-1)) 103 k (-1) = m1 at key
  have a1 : ASm mem m1 k := by
    rw [← hm1]
    have a00 : ASm mem mem k := ⟨Ag.rfl', fun i _ => ⟨rfl, rfl, rfl, rfl⟩⟩
    exact ((((a00).s (by omega)).s (by omega)).s (by omega)).s (by omega)
  have e100 : m1 100 k = hcx (g a) := by rw [← hm1, xu2_ne (by decide), xu2_ne (by decide), xu2_ne (by decide), xu2_eq, upd_at]
  have hM1 : RC m1 len lim a g := by rw [← hm1]; exact (((hM.st (by omega)).st (by omega)).st (by omega)).st (by omega)
  rw [e100] at key
  clear hm1
  have f282 : ok = false → e = a → P 282 [.ref 99, .int (nI k)] [] (0, 0) (LAY, RFu r, m1) := fun h1 h2 => b19_282 hP (Or.inl rfl) (k0 h1 m1 a1 (by rw [h2]; exact hM1.at'))
  have bd : ∀ {m2 : Nat → Nat → Int32} {b : Nat}, RC m2 len lim b g → m2 1 2 = nI b := fun h => h.at'
  have hal : ∀ c, c < 256 → g a = c → a + 1 ≤ lim := fun c hc h => hM.lt (by omega)
  have l1 : ∀ b, g b < 256 → b + 1 ≤ lim := fun b hb => hM.lt hb
  unfold acF at hX
  refine key (fun h1 h2 h3 h4 h5 => ?_) (fun h => ?_) (fun h => ?_) (fun h => ?_) (fun h => ?_) (fun h => ?_)
  · have h1 := fun q => h1 ((hcx_ti (c := 99) (by decide)).mpr q)
    have h2 := fun q => h2 ((hcx_ti (c := 108) (by decide)).mpr q)
    have h3 := fun q => h3 ((hcx_ti (c := 113) (by decide)).mpr q)
    have h4 := fun q => h4 ((hcx_ti (c := 115) (by decide)).mpr q)
    have h5 := fun q => h5 ((hcx_ti (c := 119) (by decide)).mpr q)
    rw [if_neg h3, if_neg h1, if_neg (fun q => q.elim h4 h5), if_neg h2] at hX
    simp only [Prod.mk.injEq] at hX
    obtain ⟨rfl, rfl, -⟩ := hX
    exact f282 rfl rfl
  · -- c
    have h := (hcx_ti (c := 99) (by decide)).mp h
    rw [if_neg (by omega), if_pos h] at hX
    have hM2 := hM1.tx (l1 a (by omega))
    refine b19_118 hP (c76 (c := 99) hM1 (by decide) (fun q => absurd h q) (fun _ => Bk.i (b19_127 hP (fun z => absurd z (by decide)) (fun _ => b19_130 hP (c20 hM2 hk (fun c2 => Bk.i (b19_135 hP (fun _ => b19_162 hP (b19_163 hP (Or.inl rfl) ?_)) (fun z => absurd rfl z))) (fun c2 => Bk.i (b19_135 hP (fun z => absurd z (by decide)) (fun _ => b19_138 hP ?_))))))))
    · rw [if_neg c2] at hX
      simp only [Prod.mk.injEq] at hX
      obtain ⟨rfl, rfl, -⟩ := hX
      exact k0 rfl _ (a1.tx.s (by omega)) (bd (hM2.st (by omega)))
    · rw [if_pos c2] at hX
      have hM3 : RC (xu2 (txM (txM m1 (a + 1)) (a + 1 + 1)) 101 k (nI (g (a + 1) - 48))) len lim (a + 1 + 1) g := (hM2.tx (l1 (a + 1) (by omega))).st (by omega)
      have a3 : ASm mem (xu2 (txM (txM m1 (a + 1)) (a + 1 + 1)) 101 k (nI (g (a + 1) - 48))) k := a1.tx.tx.s (by omega)
      have e1 : xu2 (txM (txM m1 (a + 1)) (a + 1 + 1)) 101 k (nI (g (a + 1) - 48)) 101 k = nI (g (a + 1) - 48) := by rw [xu2_eq, upd_at]
      have e0 : xu2 (txM (txM m1 (a + 1)) (a + 1 + 1)) 101 k (nI (g (a + 1) - 48)) 100 k = nI 99 := by rw [xu2_ne (by decide), txM_ag 100 (by decide), txM_ag 100 (by decide), e100, h]; rfl
      generalize xu2 (txM (txM m1 (a + 1)) (a + 1 + 1)) 101 k (nI (g (a + 1) - 48)) = m3 at hM3 a3 e1 e0 ⊢
      refine c76 (c := 61) hM3 (by decide) (fun c3 => Bk.i (b19_147 hP (fun _ => b19_162 hP (b19_163 hP (Or.inl rfl) ?_)) (fun z => absurd rfl z))) (fun c3 => Bk.i (b19_147 hP (fun z => absurd z (by decide)) (fun _ => b19_150 hP (c23 (hM3.tx (l1 (a + 1 + 1) (by omega))) hk (fun c4 => Bk.i (b19_155 hP (fun _ => b19_162 hP (b19_163 hP (Or.inl rfl) ?_)) (fun z => absurd rfl z))) (fun c4 => Bk.i (b19_155 hP (fun z => absurd z (by decide)) (fun _ => b19_158 hP (b19_163 hP (Or.inr rfl) ?_))))))))
      · rw [if_neg c3] at hX
        simp only [Prod.mk.injEq] at hX
        obtain ⟨rfl, rfl, -⟩ := hX
        exact k0 rfl _ a3 (bd hM3)
      · rw [if_pos c3, if_neg c4] at hX
        simp only [Prod.mk.injEq] at hX
        obtain ⟨rfl, rfl, -⟩ := hX
        exact k0 rfl _ (a3.tx.s (by omega)) (bd ((hM3.tx (l1 (a + 1 + 1) (by omega))).st (by omega)))
      · rw [if_pos c3, if_pos c4] at hX
        simp only [Prod.mk.injEq] at hX
        obtain ⟨rfl, rfl, rfl⟩ := hX
        refine k1 rfl _ (a3.tx.tx.s (by omega)) (((hM3.tx (l1 (a + 1 + 1) (by omega))).tx (l1 (a + 1 + 1 + 1) (by omega))).st (by omega)) ⟨?_, fun z => absurd z (by show ¬ (99 : Nat) = 113; decide), fun _ => ⟨?_, ?_⟩, fun z => absurd z (by show ¬ ((99 : Nat) = 115 ∨ (99 : Nat) = 119); decide), fun z => absurd z (by show ¬ (99 : Nat) = 108; decide)⟩
        · rw [xu2_ne (by decide), txM_ag 100 (by decide), txM_ag 100 (by decide), e0]
        · rw [xu2_ne (by decide), txM_ag 101 (by decide), txM_ag 101 (by decide), e1]
        · rw [xu2_eq, upd_at]
  · -- l
    have h := (hcx_ti (c := 108) (by decide)).mp h
    rw [if_neg (by omega), if_neg (by omega), if_neg (by omega), if_pos h] at hX
    have hM2 := hM1.tx (l1 a (by omega))
    refine b19_216 hP (c76 (c := 108) hM1 (by decide) (fun q => absurd h q) (fun _ => Bk.i (b19_225 hP (fun z => absurd z (by decide)) (fun _ => b19_228 hP (c20 hM2 hk (fun c2 => Bk.i (b19_233 hP (fun _ => b19_280 hP (b19_281 hP (Or.inl rfl) ?_)) (fun z => absurd rfl z))) (fun c2 => Bk.i (b19_233 hP (fun z => absurd z (by decide)) (fun _ => b19_236 hP ?_))))))))
    · rw [if_neg c2] at hX
      simp only [Prod.mk.injEq] at hX
      obtain ⟨rfl, rfl, -⟩ := hX
      exact k0 rfl _ (a1.tx.s (by omega)) (bd (hM2.st (by omega)))
    · rw [if_pos c2] at hX
      have hM3 : RC (xu2 (txM (txM m1 (a + 1)) (a + 1 + 1)) 101 k (nI (g (a + 1) - 48))) len lim (a + 1 + 1) g := (hM2.tx (l1 (a + 1) (by omega))).st (by omega)
      have a3 : ASm mem (xu2 (txM (txM m1 (a + 1)) (a + 1 + 1)) 101 k (nI (g (a + 1) - 48))) k := a1.tx.tx.s (by omega)
      have e1 : xu2 (txM (txM m1 (a + 1)) (a + 1 + 1)) 101 k (nI (g (a + 1) - 48)) 101 k = nI (g (a + 1) - 48) := by rw [xu2_eq, upd_at]
      have e0 : xu2 (txM (txM m1 (a + 1)) (a + 1 + 1)) 101 k (nI (g (a + 1) - 48)) 100 k = nI 108 := by rw [xu2_ne (by decide), txM_ag 100 (by decide), txM_ag 100 (by decide), e100, h]; rfl
      generalize xu2 (txM (txM m1 (a + 1)) (a + 1 + 1)) 101 k (nI (g (a + 1) - 48)) = m3 at hM3 a3 e1 e0 ⊢
      refine c76 (c := 62) hM3 (by decide) (fun c3 => Bk.i (b19_245 hP (fun _ => b19_280 hP (b19_281 hP (Or.inl rfl) ?_)) (fun z => absurd rfl z))) (fun c3 => Bk.i (b19_245 hP (fun z => absurd z (by decide)) (fun _ => b19_248 hP (c21 (hM3.tx (l1 (a + 1 + 1) (by omega))) hk (fun c4 => Bk.i (b19_253 hP (fun _ => b19_280 hP (b19_281 hP (Or.inl rfl) ?_)) (fun z => absurd rfl z))) (fun c4 => Bk.i (b19_253 hP (fun z => absurd z (by decide)) (fun _ => b19_256 hP ?_)))))))
      · rw [if_neg c3] at hX
        simp only [Prod.mk.injEq] at hX
        obtain ⟨rfl, rfl, -⟩ := hX
        exact k0 rfl _ a3 (bd hM3)
      · rw [if_pos c3, if_neg c4] at hX
        simp only [Prod.mk.injEq] at hX
        obtain ⟨rfl, rfl, -⟩ := hX
        exact k0 rfl _ (a3.tx.s (by omega)) (bd ((hM3.tx (l1 (a + 1 + 1) (by omega))).st (by omega)))
      · rw [if_pos c3, if_pos c4] at hX
        have hM4 : RC (xu2 (txM (txM m3 (a + 1 + 1 + 1)) (a + 1 + 1 + 1 + 1)) 102 k (nI (g (a + 1 + 1 + 1) - 48))) len lim (a + 1 + 1 + 1 + 1) g := ((hM3.tx (l1 (a + 1 + 1) (by omega))).tx (l1 (a + 1 + 1 + 1) (by omega))).st (by omega)
        have a4 : ASm mem (xu2 (txM (txM m3 (a + 1 + 1 + 1)) (a + 1 + 1 + 1 + 1)) 102 k (nI (g (a + 1 + 1 + 1) - 48))) k := a3.tx.tx.s (by omega)
        have i2 : xu2 (txM (txM m3 (a + 1 + 1 + 1)) (a + 1 + 1 + 1 + 1)) 102 k (nI (g (a + 1 + 1 + 1) - 48)) 102 k = nI (g (a + 1 + 1 + 1) - 48) := by rw [xu2_eq, upd_at]
        have i1 : xu2 (txM (txM m3 (a + 1 + 1 + 1)) (a + 1 + 1 + 1 + 1)) 102 k (nI (g (a + 1 + 1 + 1) - 48)) 101 k = nI (g (a + 1) - 48) := by rw [xu2_ne (by decide), txM_ag 101 (by decide), txM_ag 101 (by decide), e1]
        have i0 : xu2 (txM (txM m3 (a + 1 + 1 + 1)) (a + 1 + 1 + 1 + 1)) 102 k (nI (g (a + 1 + 1 + 1) - 48)) 100 k = nI 108 := by rw [xu2_ne (by decide), txM_ag 100 (by decide), txM_ag 100 (by decide), e0]
        generalize xu2 (txM (txM m3 (a + 1 + 1 + 1)) (a + 1 + 1 + 1 + 1)) 102 k (nI (g (a + 1 + 1 + 1) - 48)) = m4 at hM4 a4 i0 i1 i2 ⊢
        refine c76 (c := 42) hM4 (by decide) (fun c5 => Bk.i (b19_265 hP (fun _ => b19_280 hP (b19_281 hP (Or.inl rfl) ?_)) (fun z => absurd rfl z))) (fun c5 => Bk.i (b19_265 hP (fun z => absurd z (by decide)) (fun _ => b19_268 hP (c22 (hM4.tx (l1 (a + 1 + 1 + 1 + 1) (by omega))) hk (fun c6 => Bk.i (b19_273 hP (fun _ => b19_280 hP (b19_281 hP (Or.inl rfl) ?_)) (fun z => absurd rfl z))) (fun c6 => Bk.i (b19_273 hP (fun z => absurd z (by decide)) (fun _ => b19_276 hP (b19_281 hP (Or.inr rfl) ?_))))))))
        · rw [if_neg c5] at hX
          simp only [Prod.mk.injEq] at hX
          obtain ⟨rfl, rfl, -⟩ := hX
          exact k0 rfl _ a4 (bd hM4)
        · rw [if_pos c5, if_neg c6] at hX
          simp only [Prod.mk.injEq] at hX
          obtain ⟨rfl, rfl, -⟩ := hX
          exact k0 rfl _ (a4.tx.s (by omega)) (bd ((hM4.tx (l1 (a + 1 + 1 + 1 + 1) (by omega))).st (by omega)))
        · rw [if_pos c5, if_pos c6] at hX
          simp only [Prod.mk.injEq] at hX
          obtain ⟨rfl, rfl, rfl⟩ := hX
          refine k1 rfl _ (a4.tx.tx.s (by omega)) (((hM4.tx (l1 (a + 1 + 1 + 1 + 1) (by omega))).tx (numF_lim2 hM c6)).st (by omega)) ⟨?_, fun z => absurd z (by show ¬ (108 : Nat) = 113; decide), fun z => absurd z (by show ¬ (108 : Nat) = 99; decide), fun z => absurd z (by show ¬ ((108 : Nat) = 115 ∨ (108 : Nat) = 119); decide), fun _ => ⟨?_, ?_, ?_⟩⟩
          · rw [xu2_ne (by decide), txM_ag 100 (by decide), txM_ag 100 (by decide), i0]
          · rw [xu2_ne (by decide), txM_ag 101 (by decide), txM_ag 101 (by decide), i1]
          · rw [xu2_ne (by decide), txM_ag 102 (by decide), txM_ag 102 (by decide), i2]
          · rw [xu2_eq, upd_at]
  · -- q
    have h := (hcx_ti (c := 113) (by decide)).mp h
    rw [if_pos h] at hX
    have hM2 := hM1.tx (l1 a (by omega))
    refine b19_92 hP (c76 (c := 113) hM1 (by decide) (fun q => absurd h q) (fun _ => Bk.i (b19_101 hP (fun z => absurd z (by decide)) (fun _ => b19_104 hP (c22 hM2 hk (fun c2 => Bk.i (b19_109 hP (fun _ => b19_116 hP (b19_117 hP (Or.inl rfl) ?_)) (fun z => absurd rfl z))) (fun c2 => Bk.i (b19_109 hP (fun z => absurd z (by decide)) (fun _ => b19_112 hP (b19_117 hP (Or.inr rfl) ?_)))))))))
    · rw [if_neg c2] at hX
      simp only [Prod.mk.injEq] at hX
      obtain ⟨rfl, rfl, -⟩ := hX
      exact k0 rfl _ (a1.tx.s (by omega)) (bd (hM2.st (by omega)))
    · rw [if_pos c2] at hX
      simp only [Prod.mk.injEq] at hX
      obtain ⟨rfl, rfl, rfl⟩ := hX
      refine k1 rfl _ (a1.tx.tx.s (by omega)) ((hM2.tx (numF_lim2 hM c2)).st (by omega)) ⟨?_, fun _ => ?_, fun z => absurd z (by show ¬ (113 : Nat) = 99; decide), fun z => absurd z (by show ¬ ((113 : Nat) = 115 ∨ (113 : Nat) = 119); decide), fun z => absurd z (by show ¬ (113 : Nat) = 108; decide)⟩
      · rw [xu2_ne (by decide), txM_ag 100 (by decide), txM_ag 100 (by decide), e100, h]; rfl
      · rw [xu2_eq, upd_at]
  · -- s
    have h := (hcx_ti (c := 115) (by decide)).mp h
    rw [if_neg (by omega), if_neg (by omega), if_pos (Or.inl h)] at hX
    have hM2 := hM1.tx (l1 a (by omega))
    refine b19_164 hP (c76 (c := 115) hM1 (by decide) (fun q => absurd h q) (fun _ => Bk.i (b19_173 hP (fun z => absurd z (by decide)) (fun _ => b19_176 hP (c20 hM2 hk (fun c2 => Bk.i (b19_181 hP (fun _ => b19_188 hP (b19_189 hP (Or.inl rfl) ?_)) (fun z => absurd rfl z))) (fun c2 => Bk.i (b19_181 hP (fun z => absurd z (by decide)) (fun _ => b19_184 hP (b19_189 hP (Or.inr rfl) ?_)))))))))
    · rw [if_neg c2] at hX
      simp only [Prod.mk.injEq] at hX
      obtain ⟨rfl, rfl, -⟩ := hX
      exact k0 rfl _ (a1.tx.s (by omega)) (bd (hM2.st (by omega)))
    · rw [if_pos c2] at hX
      simp only [Prod.mk.injEq] at hX
      obtain ⟨rfl, rfl, rfl⟩ := hX
      refine k1 rfl _ (a1.tx.tx.s (by omega)) ((hM2.tx (l1 (a + 1) (by omega))).st (by omega)) ⟨?_, fun z => absurd z (by show ¬ g a = 113; omega), fun z => absurd z (by show ¬ g a = 99; omega), fun _ => ?_, fun z => absurd z (by show ¬ g a = 108; omega)⟩
      · rw [xu2_ne (by decide), txM_ag 100 (by decide), txM_ag 100 (by decide), e100]
        show hcx (g a) = nI (g a)
        rw [h]; rfl
      · rw [xu2_eq, upd_at]
  · -- w
    have h := (hcx_ti (c := 119) (by decide)).mp h
    rw [if_neg (by omega), if_neg (by omega), if_pos (Or.inr h)] at hX
    have hM2 := hM1.tx (l1 a (by omega))
    refine b19_190 hP (c76 (c := 119) hM1 (by decide) (fun q => absurd h q) (fun _ => Bk.i (b19_199 hP (fun z => absurd z (by decide)) (fun _ => b19_202 hP (c20 hM2 hk (fun c2 => Bk.i (b19_207 hP (fun _ => b19_214 hP (b19_215 hP (Or.inl rfl) ?_)) (fun z => absurd rfl z))) (fun c2 => Bk.i (b19_207 hP (fun z => absurd z (by decide)) (fun _ => b19_210 hP (b19_215 hP (Or.inr rfl) ?_)))))))))
    · rw [if_neg c2] at hX
      simp only [Prod.mk.injEq] at hX
      obtain ⟨rfl, rfl, -⟩ := hX
      exact k0 rfl _ (a1.tx.s (by omega)) (bd (hM2.st (by omega)))
    · rw [if_pos c2] at hX
      simp only [Prod.mk.injEq] at hX
      obtain ⟨rfl, rfl, rfl⟩ := hX
      refine k1 rfl _ (a1.tx.tx.s (by omega)) ((hM2.tx (l1 (a + 1) (by omega))).st (by omega)) ⟨?_, fun z => absurd z (by show ¬ g a = 113; omega), fun z => absurd z (by show ¬ g a = 99; omega), fun _ => ?_, fun z => absurd z (by show ¬ g a = 108; omega)⟩
      · rw [xu2_ne (by decide), txM_ag 100 (by decide), txM_ag 100 (by decide), e100]
        show hcx (g a) = nI (g a)
        rw [h]; rfl
      · rw [xu2_eq, upd_at]
def rdD (g : Nat → Nat) : Nat → Nat → List xAcT → Bool × Nat × List xAcT
  | 0, a, l => (false, a, l)
  | f + 1, a, l => if (acF g a).1 = true then (if g (acF g a).2.1 = 59 then rdD g f ((acF g a).2.1 + 1) (l ++ [(acF g a).2.2]) else (true, (acF g a).2.1, l ++ [(acF g a).2.2])) else (false, (acF g a).2.1, l)
def dyF (g : Nat → Nat) (len : Nat) : Bool × Nat × List xAcT := if len = 0 then (true, 0, []) else rdD g 61 0 []
theorem get_snoc {α : Type} {l : List α} {x y : α} {j : Nat} (h : (l ++ [x])[j]? = some y) : (j < l.length ∧ l[j]? = some y) ∨ (j = l.length ∧ y = x) := by
  rw [List.getElem?_append] at h
  by_cases q : j < l.length
  · rw [if_pos q] at h; exact Or.inl ⟨q, h⟩
  · rw [if_neg q] at h
    by_cases e : j - l.length = 0
    · rw [e] at h
      simp at h
      exact Or.inr ⟨by omega, h.symm⟩
    · rw [List.getElem?_eq_none (by simp; omega)] at h
      cases h
def LsOk (l : List xAcT) : Prop := ∀ (j : Nat) (c : xAcT), l[j]? = some c → AcOk c
theorem rdD_ok {g : Nat → Nat} : ∀ {f a : Nat} {l : List xAcT} {ok : Bool} {e : Nat} {l' : List xAcT}, LsOk l → 3 * l.length ≤ a → rdD g f a l = (ok, e, l') → LsOk l' ∧ (ok = true → 3 * l'.length ≤ e + 1)
  | 0, a, l, ok, e, l', hl, ha, h => by
    have h : (false, a, l) = (ok, e, l') := h
    simp only [Prod.mk.injEq] at h
    obtain ⟨rfl, rfl, rfl⟩ := h
    exact ⟨hl, fun z => absurd z (by decide)⟩
  | f + 1, a, l, ok, e, l', hl, ha, h => by
    unfold rdD at h
    by_cases c1 : (acF g a).1 = true
    · rw [if_pos c1] at h
      obtain ⟨x1, x2⟩ := acF_ok (g := g) (a := a) (e := (acF g a).2.1) (c := (acF g a).2.2) (Prod.ext c1 rfl)
      have hl2 : LsOk (l ++ [(acF g a).2.2]) := fun j c hj => by
        rcases get_snoc hj with ⟨_, q⟩ | ⟨_, q⟩
        · exact hl j c q
        · rw [q]; exact x1
      have hlen : (l ++ [(acF g a).2.2]).length = l.length + 1 := by simp
      by_cases c2 : g (acF g a).2.1 = 59
      · rw [if_pos c2] at h
        exact rdD_ok hl2 (by rw [hlen]; omega) h
      · rw [if_neg c2] at h
        simp only [Prod.mk.injEq] at h
        obtain ⟨rfl, rfl, rfl⟩ := h
        exact ⟨hl2, fun _ => by rw [hlen]; omega⟩
    · rw [if_neg c1] at h
      simp only [Prod.mk.injEq] at h
      obtain ⟨rfl, rfl, rfl⟩ := h
      exact ⟨hl, fun z => absurd z (by decide)⟩
def dyR : List Nat := [1, 99, 100, 101, 102, 103]
theorem AcC.sm {m1 m2 : Nat → Nat → Int32} {j : Nat} {c : xAcT} (h : AcC m1 j c) (e : m2 100 j = m1 100 j ∧ m2 101 j = m1 101 j ∧ m2 102 j = m1 102 j ∧ m2 103 j = m1 103 j) : AcC m2 j c := by
  unfold AcC at h ⊢
  rw [e.1, e.2.1, e.2.2.1, e.2.2.2]
  exact h
theorem c18 {tx : Nat → Nat} {ok : Bool} {e : Nat} {l' : List xAcT} (hT : TxC mem len tx) (hX : dyF (gT tx len 60) len = (ok, e, l'))
    (kf : ¬ (ok = true ∧ e = len) → ∀ m', Ag dyR mem m' → m' 1 2 = nI e → Q (some (.int (nI 0))) (LAY, RFu r, m'))
    (kt : ok = true → e = len → ∀ m', Ag dyR mem m' → m' 99 4 = nI l'.length → (∀ (j : Nat) (c : xAcT), l'[j]? = some c → AcC m' j c) → Q (some (.int (nI 1))) (LAY, RFu r, m')) : xCall (d + 6) 18 [.ref 99] (LAY, RFu r, mem) Q := by
  refine c_in rfl rfl rfl fun P hP => b18_0 hP ?_
  have a0 : Ag dyR mem (xu2 mem 99 4 (nI 0)) := Ag.rfl'.u2 (by decide)
  have hT0 : TxC (xu2 mem 99 4 (nI 0)) len tx := by
    unfold TxC at hT ⊢
    rw [xu2_ne (by decide), xu2_ne (by decide)]
    exact hT
  refine c74 (lim := 60) (by decide) hT0 fun m1 a1 r1 => Bk.v (b18_14 hP (fun z => ?_) (fun z => ?_)) <;> rw [r1.1] at z
  · have hl0 : len ≠ 0 := fun q => z (by rw [q]; rfl)
    unfold dyF at hX
    rw [if_neg hl0] at hX
    generalize gT tx len 60 = g at hX r1
    have stop : ∀ m' v1, Ag dyR mem m' → RC m' len (min len 60) e g → ok = true → m' 99 4 = nI l'.length → (∀ (j : Nat) (c : xAcT), l'[j]? = some c → AcC m' j c) → P 75 [.ref 99, v1] [] (0, 0) (LAY, RFu r, m') := fun m' v1 a hM hk h4 hc => by
      refine b18_75 hP (c79 hM (Bk.i ?_))
      by_cases q : e = len
      · rw [b01_t q]
        exact b18_82 hP (Or.inr rfl) (kt hk q m' a h4 hc)
      · rw [b01_f q]
        exact b18_82 hP (Or.inl rfl) (kf (fun w => q w.2) m' a hM.at')
    have main : ∀ f a l m', 61 ≤ a + f → 3 * l.length ≤ a → RC m' len (min len 60) a g → Ag dyR mem m' → m' 99 4 = nI l.length → (∀ (j : Nat) (c : xAcT), l[j]? = some c → AcC m' j c) → rdD g f a l = (ok, e, l') → P 28 [.ref 99, .int (nI l.length)] [] (0, 0) (LAY, RFu r, m') := by
      intro f
      induction f with
      | zero =>
        intro a l m' hf hl hM
        have := hM.2.2.2.2.2.1
        omega
      | succ f ih =>
        intro a l m' hf hl hM ag h4 hc h
        have hal := hM.2.2.2.2.2.1
        unfold rdD at h
        obtain ⟨ok1, b, ac', hA⟩ : ∃ ok1 b ac', acF g a = (ok1, b, ac') := ⟨_, _, _, rfl⟩
        rw [hA] at h
        dsimp only at h
        refine b18_28 hP (fun z => absurd z (nI_ge (by omega) (by decide))) (fun _ => b18_34 hP (c19 (k := l.length) hM (by omega) hA (fun h1 m2 a2 e2 => Bk.i (b18_39 hP (fun z => absurd rfl z) (fun _ => b18_42 hP (Or.inl rfl) (kf ?_ m2 (ag.trans (a2.1.mono (by decide))) ?_)))) (fun h1 m2 a2 hM2 ac => Bk.i (b18_39 hP (fun _ => b18_44 hP ?_) (fun z => absurd z (by decide))))))
        · rw [if_neg (by rw [h1]; decide)] at h
          simp only [Prod.mk.injEq] at h
          intro w
          rw [← h.1] at w
          exact absurd w.1 (by decide)
        · rw [if_neg (by rw [h1]; decide)] at h
          simp only [Prod.mk.injEq] at h
          rw [e2, h.2.1]
        · rw [if_pos h1] at h
          rw [h1] at hA
          have hge := (acF_ok hA).2
          have e4 : m2 99 4 = nI l.length := by rw [a2.1 99 (by decide), h4]
          rw [e4, nIs]
          have hlen : (l ++ [ac']).length = l.length + 1 := by simp
          have hc2 : ∀ (j : Nat) (c : xAcT), (l ++ [ac'])[j]? = some c → AcC m2 j c := fun j c hj => by
            rcases get_snoc hj with ⟨q1, q2⟩ | ⟨q1, q2⟩
            · exact (hc j c q2).sm (a2.2 j (by omega))
            · rw [q1, q2]; exact ac
          have ag3 : Ag dyR mem (xu2 m2 99 4 (nI (l.length + 1))) := (ag.trans (a2.1.mono (by decide))).u2 (by decide)
          have hM3 : RC (xu2 m2 99 4 (nI (l.length + 1))) len (min len 60) b g := hM2.sm (by rw [xu2_ne (by decide)]) (by rw [xu2_ne (by decide)])
          have f4 : xu2 m2 99 4 (nI (l.length + 1)) 99 4 = nI (l ++ [ac']).length := by rw [xu2_eq, upd_at, hlen]
          have hc3 : ∀ (j : Nat) (c : xAcT), (l ++ [ac'])[j]? = some c → AcC (xu2 m2 99 4 (nI (l.length + 1))) j c := fun j c hj => (hc2 j c hj).sm (by rw [xu2_ne (by decide), xu2_ne (by decide), xu2_ne (by decide), xu2_ne (by decide)]; exact ⟨rfl, rfl, rfl, rfl⟩)
          generalize xu2 m2 99 4 (nI (l.length + 1)) = m3 at ag3 hM3 f4 hc3
          refine c76 (c := 59) hM3 (by decide) (fun c4 => Bk.i (b18_63 hP (fun z => absurd rfl z) (fun _ => b18_66 hP ?_))) (fun c4 => Bk.i (b18_63 hP (fun _ => b18_69 hP ?_) (fun z => absurd z (by decide))))
          · rw [if_neg c4] at h
            simp only [Prod.mk.injEq] at h
            obtain ⟨rfl, rfl, rfl⟩ := h
            exact stop m3 _ ag3 hM3 rfl f4 hc3
          · rw [if_pos c4] at h
            have hlt := hM3.lt (i := b) (by omega)
            rw [nIs, ← hlen]
            refine ih (b + 1) (l ++ [ac']) _ (by omega) (by rw [hlen]; omega) (hM3.tx hlt) (ag3.trans (txM_ag.mono (by decide))) (by rw [txM_ag 99 (by decide), f4]) (fun j c hj => (hc3 j c hj).sm (by rw [txM_ag 100 (by decide), txM_ag 101 (by decide), txM_ag 102 (by decide), txM_ag 103 (by decide)]; exact ⟨rfl, rfl, rfl, rfl⟩)) h
    exact b18_26 hP (main 61 0 [] m1 (by decide) (by decide) r1 (a0.trans (a1.mono (by decide))) (by rw [a1 99 (by decide), xu2_eq, upd_at]; rfl) (fun j c hj => by cases hj) hX)
  · have hl0 : len = 0 := nI_inj z (by have := hT.2.1; omega) (by decide)
    unfold dyF at hX
    rw [if_pos hl0] at hX
    simp only [Prod.mk.injEq] at hX
    obtain ⟨rfl, rfl, rfl⟩ := hX
    exact b18_24 hP (Or.inr rfl) (kt rfl hl0.symm m1 (a0.trans (a1.mono (by decide))) (by rw [a1 99 (by decide), xu2_eq, upd_at]; rfl) (fun j c hj => by cases hj))
end K
