/-! the class's Text and Numbers -/
def hcx (x : Nat) : Int32 := if x < 256 then nI x else -1
theorem hcx_eq {x c : Nat} (hc : c < 256) : hcx x = nI c ↔ x = c := by
  unfold hcx
  by_cases h : x < 256
  · rw [if_pos h]
    exact ⟨fun q => nI_inj q (by omega) (by omega), fun q => by rw [q]⟩
  · rw [if_neg h]
    exact ⟨fun q => absurd q.symm (nI_nm (by omega)), fun q => by omega⟩
theorem hcx_dig {x : Nat} (hx : x ≤ 256) : (¬ hcx x < nI 48 ∧ ¬ nI 57 < hcx x) ↔ (48 ≤ x ∧ x ≤ 57) := by
  have h : ∀ x < 257, (¬ hcx x < nI 48 ∧ ¬ nI 57 < hcx x) ↔ (48 ≤ x ∧ x ≤ 57) := by decide +kernel
  exact h x (by omega)
theorem hcx_val {x : Nat} (h : 48 ≤ x ∧ x ≤ 57) : hcx x - nI 48 = nI (x - 48) := by
  unfold hcx
  rw [if_pos (by omega), nI_sub h.1]
/-- the text as the class reads it: its length, how far it may be read, where it stands -/
def RC (mem : Nat → Nat → Int32) (len lim a : Nat) (g : Nat → Nat) : Prop :=
  mem 1 1 = nI len ∧ mem 1 3 = nI lim ∧ mem 1 2 = nI a ∧ len ≤ 80 ∧ lim ≤ len ∧ a ≤ lim ∧ (∀ i, i < lim → g i < 256 ∧ mem 2 i = nI (g i)) ∧ ∀ i, lim ≤ i → g i = 256
def txM (mem : Nat → Nat → Int32) (a : Nat) : Nat → Nat → Int32 := xu2 mem 1 2 (nI a)
section X
variable {mem m' : Nat → Nat → Int32} {len lim a b : Nat} {g : Nat → Nat}
theorem RC.le (h : RC mem len lim a g) (i : Nat) : g i ≤ 256 := by
  obtain ⟨-, -, -, -, -, -, h1, h2⟩ := h
  by_cases q : i < lim
  · have := (h1 i q).1; omega
  · have := h2 i (by omega); omega
theorem RC.lt (h : RC mem len lim a g) {i : Nat} (hi : g i < 256) : i < lim := Decidable.by_contra fun z => by have := h.2.2.2.2.2.2.2 i (by omega); omega
theorem RC.at' (h : RC mem len lim a g) : mem 1 2 = nI a := h.2.2.1
theorem RC.mv (h : RC mem len lim a g) (e1 : m' 1 = upd (mem 1) 2 (nI b)) (e2 : m' 2 = mem 2) (hb : b ≤ lim) : RC m' len lim b g := by
  obtain ⟨h1, h2, h3, h4, h5, h6, h7, h8⟩ := h
  refine ⟨by rw [e1, upd_ne (by decide), h1], by rw [e1, upd_ne (by decide), h2], by rw [e1, upd_at], h4, h5, hb, ?_, h8⟩
  rw [e2]
  exact h7
theorem RC.sm (h : RC mem len lim a g) (e1 : m' 1 = mem 1) (e2 : m' 2 = mem 2) : RC m' len lim a g := by
  unfold RC at h ⊢
  rw [e1, e2]
  exact h
theorem RC.tx (h : RC mem len lim a g) (hb : b ≤ lim) : RC (txM mem b) len lim b g := h.mv (by unfold txM; rw [xu2_eq]) (by unfold txM; rw [xu2_ne (by decide)]) hb
theorem xu2_twice {c i : Nat} {x y : Int32} : xu2 (xu2 mem c i x) c i y = xu2 mem c i y := by
  funext c' j
  unfold xu2
  by_cases h : c' = c
  · rw [if_pos h, if_pos h]
    by_cases e : j = i
    · rw [if_pos e, if_pos e]
    · rw [if_neg e, if_neg e, if_pos rfl, if_neg e]
  · rw [if_neg h, if_neg h, if_neg h]
theorem txM_tx : txM (txM mem a) b = txM mem b := xu2_twice
theorem xu2_self {c i : Nat} {x : Int32} (h : mem c i = x) : xu2 mem c i x = mem := by
  funext c' j
  unfold xu2
  by_cases q : c' = c
  · subst q
    rw [if_pos rfl]
    by_cases e : j = i
    · rw [if_pos e, e, h]
    · rw [if_neg e]
  · rw [if_neg q]
theorem RC.self (h : RC mem len lim a g) : txM mem a = mem := xu2_self h.at'
theorem txM_ag : Ag [1] mem (txM mem a) := Ag.rfl'.u2 (by simp)
end X
section C
variable {d r : Nat} {mem : Nat → Nat → Int32} {Q : xQr} {len lim a : Nat} {g : Nat → Nat}
theorem c75 (hM : RC mem len lim a g) (k : Q (some (.int (hcx (g a)))) (LAY, RFu r, mem)) : xCall (d + 1) 75 [.ref 1] (LAY, RFu r, mem) Q := by
  obtain ⟨h1, h2, h3, h4, h5, h6, h7, h8⟩ := hM
  refine c_in rfl rfl rfl fun P hP => b75_0 hP (fun h => ?_) (fun h => ?_)
  · rw [h2, h3, nI_leI (by omega) (by omega)] at h
    rw [h8 a h] at k
    exact b75_23 hP (b75_24 hP k)
  · rw [h2, h3, nI_leI (by omega) (by omega)] at h
    obtain ⟨q1, q2⟩ := h7 a (by omega)
    refine b75_11 hP (by rw [h3]; exact vpn (by omega) (by decide)) (b75_24 hP ?_)
    rw [h3, nIc (by omega), q2]
    unfold hcx at k
    rw [if_pos q1] at k
    exact k
theorem c76 {c : Nat} (hM : RC mem len lim a g) (hc : c < 256) (k0 : g a ≠ c → Q (some (.int (nI 0))) (LAY, RFu r, mem)) (k1 : g a = c → Q (some (.int (nI 1))) (LAY, RFu r, txM mem (a + 1))) : xCall (d + 2) 76 [.ref 1, .int (nI c)] (LAY, RFu r, mem) Q := by
  refine c_in rfl rfl rfl fun P hP => b76_0 hP (c75 hM (Bk.i (b76_4 hP (fun h => b76_10 hP (Or.inr rfl) ?_) (fun h => b76_8 hP (Or.inl rfl) (k0 (fun q => h ((hcx_eq hc).mpr q)))))))
  rw [hM.at', nIs]
  exact k1 ((hcx_eq hc).mp h)
theorem c77 {x : Int32} (hM : RC mem len lim a g) (k0 : ¬ (48 ≤ g a ∧ g a ≤ 57 ∧ nI (g a - 48) ≤ x) → Q (some (.int (-1))) (LAY, RFu r, mem)) (k1 : 48 ≤ g a → g a ≤ 57 → nI (g a - 48) ≤ x → Q (some (.int (nI (g a - 48)))) (LAY, RFu r, txM mem (a + 1))) : xCall (d + 2) 77 [.ref 1, .int x] (LAY, RFu r, mem) Q := by
  have hd := hcx_dig (hM.le a)
  refine c_in rfl rfl rfl fun P hP => b77_0 hP (c75 hM (Bk.i (b77_4 hP (fun h => b77_25 hP (k0 fun q => (hd.mpr ⟨q.1, q.2.1⟩).1 h)) (fun h => b77_11 hP (fun h2 => b77_25 hP (k0 fun q => (hd.mpr ⟨q.1, q.2.1⟩).2 h2)) (fun h2 => ?_)))))
  have hdg := hd.mp ⟨h, h2⟩
  refine b77_17 hP (fun h3 => b77_27 hP ?_) (fun h3 => b77_25 hP (k0 fun q => h3 ?_))
  · rw [hcx_val hdg] at h3 ⊢
    rw [hM.at', nIs]
    exact k1 hdg.1 hdg.2 h3
  · rw [hcx_val hdg]
    exact q.2.2
theorem c77d {x : Nat} (hM : RC mem len lim a g) (hx : x ≤ 9) (k0 : ¬ (48 ≤ g a ∧ g a ≤ 48 + x) → Q (some (.int (-1))) (LAY, RFu r, mem)) (k1 : 48 ≤ g a → g a ≤ 48 + x → Q (some (.int (nI (g a - 48)))) (LAY, RFu r, txM mem (a + 1))) : xCall (d + 2) 77 [.ref 1, .int (nI x)] (LAY, RFu r, mem) Q := by
  refine c77 hM (fun h => k0 fun q => h ⟨q.1, by omega, nI_le (by omega) (by omega)⟩) (fun h1 h2 h3 => k1 h1 ?_)
  rw [nI_leI (by omega) (by omega)] at h3
  omega
theorem c78 {dd : Nat} (hM : RC mem len lim a g) (hd : dd + 1 ≤ 3) (k0 : ¬ (48 ≤ g a ∧ g a ≤ 57) → Q (some (.int (-1))) (LAY, RFu r, mem)) (k1 : 48 ≤ g a → g a ≤ 57 → Q (some (.int (nI (numF g (dd + 1) a 0).2))) (LAY, RFu r, txM mem (numF g (dd + 1) a 0).1)) : xCall (d + 3) 78 [.ref 1, .int (nI (dd + 1))] (LAY, RFu r, mem) Q := by
  refine c_in rfl rfl rfl fun P hP => b78_0 hP (c77d hM (by decide) (fun h => Bk.i (b78_6 hP ?_)) (fun h1 h2 => Bk.i (b78_6 hP ?_)))
  · refine b78_9 hP (fun _ => b78_50 hP (k0 h)) (fun _ => b78_14 hP (fun _ => b78_50 hP (k0 h)) (fun z => absurd rfl z))
  · have hal : a + 1 ≤ lim := hM.lt (by omega)
    have k1 := k1 h1 h2
    rw [numF_s, if_pos ⟨h1, h2⟩, Nat.mul_zero, Nat.zero_add] at k1
    have hl : lim ≤ 80 := Nat.le_trans hM.2.2.2.2.1 hM.2.2.2.1
    have main : ∀ j, j ≤ dd → ∀ b v v4, b ≤ lim → v < 10 ^ (dd + 1 - j) → numF g dd (a + 1) (g a - 48) = numF g j b v → P 9 [.ref 1, .int (nI (dd + 1)), .int (nI v), .int (nI (dd + 1 - j)), v4] [] (0, 0) (LAY, RFu r, txM mem b) := by
      intro j
      induction j with
      | zero =>
        intro _ b v v4 hb hv hnum
        have hnum : numF g dd (a + 1) (g a - 48) = (b, v) := hnum
        rw [hnum] at k1
        exact b78_9 hP (fun _ => b78_50 hP k1) (fun z => absurd (Int32.le_refl _) z)
      | succ j ih =>
        intro hj b v v4 hb hv hnum
        have hv2 : v < 1000 := Nat.lt_of_lt_of_le hv (Nat.le_trans (Nat.pow_le_pow_right (by decide) (by omega : dd + 1 - (j + 1) ≤ 3)) (by decide))
        refine b78_9 hP (fun z => absurd z (nI_ge (by omega) (by omega))) (fun _ => b78_14 hP (fun z => absurd z (nI_nm (by omega))) (fun _ => b78_19 hP (c77d (hM.tx hb) (by decide) (fun z => Bk.i (b78_25 hP (fun q => absurd rfl q) (fun _ => b78_33 hP (b78_50 hP ?_)))) (fun q1 q2 => Bk.i (b78_25 hP (fun _ => b78_36 hP ?_) (fun q => absurd q (nI_nm (by omega))))))))
        · rw [numF_s, if_neg z] at hnum
          rw [hnum] at k1
          exact k1
        · rw [numF_s, if_pos ⟨q1, q2⟩] at hnum
          rw [txM_tx, nI_mul, nI_add, nIs, show dd + 1 - (j + 1) + 1 = dd + 1 - j by omega, Nat.mul_comm v 10]
          refine ih (by omega) (b + 1) _ _ ((hM.tx hb).lt (by omega)) ?_ hnum
          have e : 10 ^ (dd + 1 - j) = 10 * 10 ^ (dd + 1 - (j + 1)) := by rw [← Nat.pow_succ']; congr 1; omega
          rw [e]
          omega
    have := main dd (Nat.le_refl _) (a + 1) (g a - 48) .null hal (by rw [show dd + 1 - dd = 1 by omega]; omega) rfl
    rw [show dd + 1 - dd = 1 by omega] at this
    exact this
theorem c79 (hM : RC mem len lim a g) (k : Q (some (.int (b01 (a = len)))) (LAY, RFu r, mem)) : xCall (d + 1) 79 [.ref 1] (LAY, RFu r, mem) Q := by
  obtain ⟨h1, h2, h3, h4, h5, h6, -⟩ := hM
  refine c_in rfl rfl rfl fun P hP => b79_0 hP (fun h => b79_15 hP (b79_16 hP (Or.inl rfl) ?_)) (fun h => b79_11 hP (b79_16 hP (Or.inr rfl) ?_))
  · rw [h3, h1] at h
    unfold b01 at k
    rw [if_neg (fun q => h (by rw [q]))] at k
    exact k
  · rw [h3, h1] at h
    unfold b01 at k
    rw [if_pos (nI_inj h (by omega) (by omega))] at k
    exact k
theorem c80 (k : Q (some (.int (-1 - mem 1 2))) (LAY, RFu r, mem)) : xCall (d + 1) 80 [.ref 1] (LAY, RFu r, mem) Q := c_in rfl rfl rfl fun P hP => b80_0 hP k
theorem c73 (k : Q none (LAY, RFu r, xu2 mem 1 1 (nI 0))) : xCall (d + 1) 73 [.ref 1] (LAY, RFu r, mem) Q := c_in rfl rfl rfl fun P hP => b73_0 hP k
/-- what of a text of len signs can be read, up to lim -/
def gT (tx : Nat → Nat) (len lim : Nat) : Nat → Nat := fun i => if i < min len lim then tx i else 256
theorem gT_lim {tx : Nat → Nat} {i : Nat} (h : min len lim ≤ i) : gT tx len lim i = 256 := by unfold gT; rw [if_neg (by omega)]
theorem gT_at {tx : Nat → Nat} {i : Nat} (h : i < min len lim) : gT tx len lim i = tx i := by unfold gT; rw [if_pos h]
/-- the text, as the class keeps it -/
def TxC (mem : Nat → Nat → Int32) (len : Nat) (tx : Nat → Nat) : Prop := mem 1 1 = nI len ∧ len ≤ 80 ∧ ∀ i, i < len → tx i < 256 ∧ mem 2 i = nI (tx i)
theorem c74 {tx : Nat → Nat} (hl : lim ≤ 80) (hT : TxC mem len tx) (k : ∀ mem', Ag [1] mem mem' → RC mem' len (min len lim) 0 (gT tx len lim) → Q none (LAY, RFu r, mem')) : xCall (d + 1) 74 [.ref 1, .int (nI lim)] (LAY, RFu r, mem) Q := by
  obtain ⟨h1, h2, h3⟩ := hT
  refine c_in rfl rfl rfl fun P hP => b74_0 hP (k _ ((Ag.rfl'.u2 (by simp)).u2 (by simp)) ?_)
  have e : (if nI lim < xu2 mem 1 2 (nI 0) 1 1 then nI lim else xu2 mem 1 2 (nI 0) 1 1) = nI (min len lim) := by
    rw [xu2_eq, upd_ne (by decide), h1]
    by_cases q : lim < len
    · rw [if_pos (nI_lt q (by omega)), Nat.min_eq_right (by omega)]
    · rw [if_neg (nI_nlt (by omega) (by omega)), Nat.min_eq_left (by omega)]
  rw [e]
  refine ⟨by rw [xu2_eq, upd_ne (by decide), xu2_eq, upd_ne (by decide), h1], by rw [xu2_eq, upd_at], by rw [xu2_eq, upd_ne (by decide), xu2_eq, upd_at], h2, by omega, by omega, fun i hi => ?_, fun i hi => gT_lim hi⟩
  rw [gT_at hi, xu2_ne (by decide), xu2_ne (by decide)]
  exact h3 i (by omega)
/-! the row -/
def RwC (mem : Nat → Nat → Int32) (xs : List Int32) : Prop := xs.length ≤ 8 ∧ mem 3 1 = nI xs.length ∧ ∀ k, k < xs.length → mem 4 k = xs.getD k 0
theorem c31 (k : ∀ mem', Ag [3] mem mem' → RwC mem' [] → Q none (LAY, RFu r, mem')) : xCall (d + 1) 31 [.ref 3] (LAY, RFu r, mem) Q :=
  c_in rfl rfl rfl fun P hP => b31_0 hP (k _ (Ag.rfl'.u2 (by simp)) ⟨by simp, by rw [xu2_eq, upd_at]; rfl, fun k hk => absurd hk (Nat.not_lt_zero k)⟩)
theorem getD_snoc {xs : List Int32} {x : Int32} {k : Nat} (hk : k < xs.length + 1) : (xs ++ [x]).getD k 0 = if k = xs.length then x else xs.getD k 0 := by
  by_cases e : k = xs.length
  · rw [if_pos e, e, List.getD_eq_getElem?_getD, List.getElem?_append_right (Nat.le_refl _)]
    simp
  · rw [if_neg e, List.getD_eq_getElem?_getD, List.getElem?_append_left (by omega), ← List.getD_eq_getElem?_getD]
theorem c32 {xs : List Int32} {x : Int32} (h : RwC mem xs) (hx : xs.length < 8) (k : ∀ mem', Ag [3, 4] mem mem' → RwC mem' (xs ++ [x]) → Q none (LAY, RFu r, mem')) : xCall (d + 1) 32 [.ref 3, .int x] (LAY, RFu r, mem) Q := by
  obtain ⟨-, h1, h2⟩ := h
  refine c_in rfl rfl rfl fun P hP => b32_0 hP (fun z => absurd z (by rw [h1]; exact nI_ge hx (by decide))) (fun _ => b32_12 hP (by rw [h1]; exact vpn hx (by decide)) (b32_32 hP (k _ ((Ag.rfl'.u2 (by simp)).u2 (by simp)) ?_)))
  rw [h1, nIc (by omega), xu2_ne (by decide), h1, nIs]
  refine ⟨by simp; omega, by rw [xu2_eq, upd_at]; simp, fun k hk => ?_⟩
  rw [xu2_ne (by decide), xu2_eq, getD_snoc (by simpa using hk)]
  by_cases e : k = xs.length
  · rw [if_pos e, e, upd_at]
  · rw [if_neg e, upd_ne e]
    exact h2 k (by simp at hk; omega)
end C
