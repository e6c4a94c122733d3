/-! the class's RuleReader -/
def AC (m : Nat → Int32) (acc : List Int32) : Prop := ∀ k, k < acc.length → m k = acc.getD k 0
theorem AC.snoc {m : Nat → Int32} {acc : List Int32} {x : Int32} (h : AC m acc) : AC (upd m acc.length x) (acc ++ [x]) := fun k hk => by
  rw [getD_snoc (by simpa using hk)]
  by_cases e : k = acc.length
  · rw [if_pos e, e, upd_at]
  · rw [if_neg e, upd_ne e]
    exact h k (by simp at hk; omega)
def RS (mem : Nat → Nat → Int32) (len lim : Nat) (g : Nat → Nat) (a : Nat) (acc : List Int32) (W : List Nat) (dp m : Nat) : Prop :=
  RC mem len lim a g ∧ lim ≤ 40 ∧ acc.length + W.length ≤ a ∧ m < 256 ∧ dp ≤ 4 ∧ mem 95 2 = nI acc.length ∧ AC (mem 96) acc ∧ mem 94 3 = nI W.length ∧ VS (mem 98) (W.map nI) ∧ (∀ x, x ∈ W → x < 4000) ∧ mem 94 4 = nI dp ∧ mem 94 5 = nI m
section X
variable {mem m' : Nat → Nat → Int32} {len lim a b : Nat} {g : Nat → Nat} {acc : List Int32} {W : List Nat} {dp m x : Nat}
theorem RS.a40 (h : RS mem len lim g a acc W dp m) : a ≤ lim ∧ lim ≤ 40 := ⟨h.1.2.2.2.2.2.1, h.2.1⟩
/-- one sign passed -/
theorem RS.tx (h : RS mem len lim g a acc W dp m) (hb : b ≤ lim) (hab : a ≤ b) : RS (txM mem b) len lim g b acc W dp m := by
  obtain ⟨h1, h2, h3, h4, h5, h6, h7, h8, h9, h10, h11, h12⟩ := h
  unfold txM
  exact ⟨h1.tx hb, h2, by omega, h4, h5, by rw [xu2_ne (by decide)]; exact h6, by rw [xu2_ne (by decide)]; exact h7, by rw [xu2_ne (by decide)]; exact h8, by rw [xu2_ne (by decide)]; exact h9, h10, by rw [xu2_ne (by decide)]; exact h11, by rw [xu2_ne (by decide)]; exact h12⟩
theorem RS.push (h : RS mem len lim g a acc W dp m) (hl : acc.length + (x :: W).length ≤ a) (hx : x < 4000) : RS (xu2 (xu2 mem 98 W.length (nI x)) 94 3 (nI (W.length + 1))) len lim g a acc (x :: W) dp m := by
  obtain ⟨h1, h2, h3, h4, h5, h6, h7, h8, h9, h10, h11, h12⟩ := h
  refine ⟨h1.sm (by rw [xu2_ne (by decide), xu2_ne (by decide)]) (by rw [xu2_ne (by decide), xu2_ne (by decide)]), h2, hl, h4, h5, by rw [xu2_ne (by decide), xu2_ne (by decide)]; exact h6, by rw [xu2_ne (by decide), xu2_ne (by decide)]; exact h7, by rw [xu2_eq, upd_at]; rfl, ?_, fun y hy => ?_, by rw [xu2_eq, upd_ne (by decide), xu2_ne (by decide)]; exact h11, by rw [xu2_eq, upd_ne (by decide), xu2_ne (by decide)]; exact h12⟩
  · rw [xu2_ne (by decide), xu2_eq]
    have := VS_push (x := nI x) h9
    rw [List.length_map] at this
    exact this
  · rcases List.mem_cons.mp hy with q | q
    · rw [q]; exact hx
    · exact h10 y q
theorem RS.pop (h : RS mem len lim g a acc (x :: W) dp m) : RS (xu2 (xu2 (xu2 mem 94 3 (nI W.length)) 96 acc.length (nI x)) 95 2 (nI (acc.length + 1))) len lim g a (acc ++ [nI x]) W dp m := by
  obtain ⟨h1, h2, h3, h4, h5, h6, h7, h8, h9, h10, h11, h12⟩ := h
  simp only [List.length_cons] at h3
  refine ⟨h1.sm (by rw [xu2_ne (by decide), xu2_ne (by decide), xu2_ne (by decide)]) (by rw [xu2_ne (by decide), xu2_ne (by decide), xu2_ne (by decide)]), h2, by simp; omega, h4, h5, by rw [xu2_eq, upd_at]; simp, ?_, by rw [xu2_ne (by decide), xu2_ne (by decide), xu2_eq, upd_at], ?_, fun y hy => h10 y (List.mem_cons_of_mem _ hy), by rw [xu2_ne (by decide), xu2_ne (by decide), xu2_eq, upd_ne (by decide)]; exact h11, by rw [xu2_ne (by decide), xu2_ne (by decide), xu2_eq, upd_ne (by decide)]; exact h12⟩
  · rw [xu2_ne (by decide), xu2_eq, xu2_ne (by decide)]
    exact h7.snoc
  · rw [xu2_ne (by decide), xu2_ne (by decide), xu2_ne (by decide)]
    exact VS_tail h9
theorem RS.add {v : Int32} (h : RS mem len lim g a acc W dp m) (hl : acc.length + W.length + 1 ≤ a) : RS (xu2 (xu2 mem 96 acc.length v) 95 2 (nI (acc.length + 1))) len lim g a (acc ++ [v]) W dp m := by
  obtain ⟨h1, h2, h3, h4, h5, h6, h7, h8, h9, h10, h11, h12⟩ := h
  refine ⟨h1.sm (by rw [xu2_ne (by decide), xu2_ne (by decide)]) (by rw [xu2_ne (by decide), xu2_ne (by decide)]), h2, by simp; omega, h4, h5, by rw [xu2_eq, upd_at]; simp, ?_, by rw [xu2_ne (by decide), xu2_ne (by decide)]; exact h8, by rw [xu2_ne (by decide), xu2_ne (by decide)]; exact h9, h10, by rw [xu2_ne (by decide), xu2_ne (by decide)]; exact h11, by rw [xu2_ne (by decide), xu2_ne (by decide)]; exact h12⟩
  rw [xu2_ne (by decide), xu2_eq]
  exact h7.snoc
end X
section C
variable {d r : Nat} {mem : Nat → Nat → Int32} {Q : xQr} {len lim a : Nat} {g : Nat → Nat} {acc : List Int32} {W : List Nat} {dp m : Nat}
theorem c38 {q n : Nat} {x : Int32} (hq : isRule q) (h : mem q 2 = nI n) (hn : n < 40) (k : Q none (LAY, RFu r, xu2 (xu2 mem (q + 1) n x) q 2 (nI (n + 1)))) : xCall (d + 1) 38 [.ref q, .int x] (LAY, RFu r, mem) Q := by
  refine c_in rfl rfl rfl fun P hP => b38_0 hP hq (fun z => absurd z (by rw [h]; exact nI_ge hn (by decide))) (fun _ => b38_12 hP hq (by rw [h]; exact vpn hn (by decide)) (b38_32 hP hq ?_))
  rw [h, nIc (by omega), xu2_ne (by omega), h, nIs]
  exact k
theorem c50 {n : Nat} {x : Int32} (h : mem 94 3 = nI n) (hn : n < 40) (k : Q none (LAY, RFu r, xu2 (xu2 mem 98 n x) 94 3 (nI (n + 1)))) : xCall (d + 1) 50 [.ref 94, .int x] (LAY, RFu r, mem) Q := by
  refine c_in rfl rfl rfl fun P hP => b50_0 hP (fun z => absurd z (by rw [h]; exact nI_ge hn (by decide))) (fun _ => b50_12 hP (by rw [h]; exact vpn hn (by decide)) (b50_32 hP ?_))
  rw [h, nIc (by omega), xu2_ne (by decide), h, nIs]
  exact k
theorem c51 {x : Nat} (hx : x < 100000) (k : Q (some (.int (nI (bnd x)))) (LAY, RFu r, mem)) : xCall (d + 1) 51 [.int (nI x)] (LAY, RFu r, mem) Q := by
  have e : ∀ {c : Nat}, (nI x).toInt = (c : Int) → x = c := fun {c} h => by rw [nI_toInt (by omega)] at h; omega
  have e2 : ∀ {c : Nat}, ¬ (nI x).toInt = (c : Int) → x ≠ c := fun {c} h q => h (by rw [q, nI_toInt (by omega)])
  refine c_in rfl rfl rfl fun P hP => b51_0 hP (fun h1 h2 h3 h4 h5 h6 h7 h8 => b51_84 hP ?_) (fun h => b51_78 hP ?_) (fun h => b51_80 hP ?_) (fun h => b51_80 hP ?_) (fun h => b51_78 hP ?_) (fun h => b51_82 hP ?_) (fun h => b51_82 hP ?_) (fun h => b51_82 hP ?_) (fun h => b51_76 hP ?_)
  · have h1 := e2 (c := 2042) h1
    have h2 := e2 (c := 2043) h2
    have h3 := e2 (c := 2045) h3
    have h4 := e2 (c := 2047) h4
    have h5 := e2 (c := 2060) h5
    have h6 := e2 (c := 2061) h6
    have h7 := e2 (c := 2062) h7
    have h8 := e2 (c := 3000) h8
    unfold bnd at k
    rw [if_neg h8, if_neg (by omega), if_neg (by omega), if_neg (by omega)] at k
    exact k
  · rw [e (c := 2042) h] at k; exact k
  · rw [e (c := 2043) h] at k; exact k
  · rw [e (c := 2045) h] at k; exact k
  · rw [e (c := 2047) h] at k; exact k
  · rw [e (c := 2060) h] at k; exact k
  · rw [e (c := 2061) h] at k; exact k
  · rw [e (c := 2062) h] at k; exact k
  · rw [e (c := 3000) h] at k; exact k
theorem c51x {x : Nat} (hx : x ≤ 256) (k : Q (some (.int (nI (bnd (2000 + x))))) (LAY, RFu r, mem)) : xCall (d + 1) 51 [.int (nI 2000 + hcx x)] (LAY, RFu r, mem) Q := by
  by_cases h : x < 256
  · unfold hcx
    rw [if_pos h, nI_add]
    exact c51 (by omega) k
  · have e : x = 256 := by omega
    subst e
    exact c51 (x := 1999) (by decide) k
theorem c49 {b : Nat} (hS : RS mem len lim g a acc W dp m) (hb : b < 10) (k : ∀ mem', Ag [94, 95, 96] mem mem' → RS mem' len lim g a (aw b acc W).1 (aw b acc W).2 dp m → Q none (LAY, RFu r, mem')) : xCall (d + 2) 49 [.ref 94, .int (nI b)] (LAY, RFu r, mem) Q := by
  refine c_in rfl rfl rfl fun P hP => b49_0 hP ?_
  have main : ∀ (W' : List Nat) (acc' : List Int32) (j : Nat) (m' : Nat → Nat → Int32), Ag [94, 95, 96] mem m' → RS m' len lim g a acc' W' dp m → j + W'.length ≤ 40 → aw b acc W = aw b acc' W' → P 2 [.ref 94, .int (nI b), .int (nI j)] [] (0, 0) (LAY, RFu r, m') := by
    intro W'
    induction W' with
    | nil =>
      intro acc' j m' hA hS' hj e
      have fin : Q none (LAY, RFu r, m') := k m' hA (by rw [e]; exact hS')
      exact b49_2 hP (fun _ => b49_65 hP fin) (fun _ => b49_8 hP (fun _ => b49_65 hP fin) (fun z => absurd (by rw [hS'.2.2.2.2.2.2.2.1]; exact Int32.le_refl _) z))
    | cons x W' ih =>
      intro acc' j m' hA hS' hj e
      obtain ⟨h1, h2, h3, h4, h5, h6, h7, h8, h9, h10, h11, h12⟩ := id hS'
      have ha := hS'.a40
      simp only [List.length_cons] at hj h3 h8
      have htop : m' 98 W'.length = nI x := by
        have := VS_top h9
        rw [List.length_map] at this
        exact this
      have e94 : xu2 m' 94 3 (nI W'.length) 94 3 = nI W'.length := by rw [xu2_eq, upd_at]
      refine b49_2 hP (fun z => absurd z (nI_ge (by omega) (by decide))) (fun _ => b49_8 hP (fun z => ?_) (fun _ => ?_))
      · rw [h8] at z; exact absurd z (nI_nle (by omega) (by omega))
      · refine b49_15 hP (by rw [h8, nI_sub (by omega)]; exact vpn (by omega) (by decide)) ?_
        rw [h8, nI_sub (by omega), show W'.length + 1 - 1 = W'.length by omega, nIc (by omega), htop]
        refine c51 (by have := h10 x List.mem_cons_self; omega) (Bk.i (b49_29 hP (fun z => b49_65 hP (k m' hA ?_)) (fun z => ?_)))
        · have hlt : ¬ b ≤ bnd x := fun q => nI_nlt q (by unfold bnd; split <;> (try omega); split <;> (try omega); split <;> (try omega); split <;> omega) z
          have : aw b acc' (x :: W') = (acc', x :: W') := if_neg hlt
          rw [e, this]
          exact hS'
        · have hle : b ≤ bnd x := Nat.not_lt.mp fun q => z (nI_lt q (by omega))
          have e' : aw b acc' (x :: W') = aw b (acc' ++ [nI x]) W' := if_pos hle
          refine b49_33 hP ?_ ?_
          · rw [h8, nI_sub (by omega), show W'.length + 1 - 1 = W'.length by omega, e94]
            exact vpn (by omega) (by decide)
          · rw [h8, nI_sub (by omega), show W'.length + 1 - 1 = W'.length by omega, e94, nIc (by omega), xu2_ne (c := 98) (by decide), htop]
            refine c38 (q := 95) (n := acc'.length) (by unfold isRule; omega) (by rw [xu2_ne (by decide)]; exact h6) (by omega) (Bk.v (b49_59 hP ?_))
            rw [nIs]
            exact ih (acc' ++ [nI x]) (j + 1) _ (((hA.u2 (by simp)).u2 (by simp)).u2 (by simp)) hS'.pop (by omega) (e.trans e')
  have ha := hS.a40
  exact main W acc 0 mem Ag.rfl' hS (by have := hS.2.2.1; omega) rfl
theorem c45 {n : Nat} (hS : RS mem len lim g a acc W dp m) (hn : lim < n + a)
    (k : ∀ mem' n' a' W' dp' m', Ag [1, 94, 98] mem mem' → RS mem' len lim g a' acc W' dp' m' → lim < n' + a' → a ≤ a' → rn g n false (a, acc, W, dp, m) = rn g n' false (a', acc, W', dp', m') → g a' ≠ 45 → ¬ (g a' = 40 ∧ dp' < 4) → Q none (LAY, RFu r, mem')) : xCall (d + 3) 45 [.ref 94] (LAY, RFu r, mem) Q := by
  refine c_in rfl rfl rfl fun P hP => b45_0 hP ?_
  have main : ∀ (t j n' a' : Nat) (W' : List Nat) (dp' m1 : Nat) (m' : Nat → Nat → Int32), lim - a' ≤ t → j ≤ a' → a ≤ a' → Ag [1, 94, 98] mem m' → RS m' len lim g a' acc W' dp' m1 → lim < n' + a' → rn g n false (a, acc, W, dp, m) = rn g n' false (a', acc, W', dp', m1) → P 2 [.ref 94, .int (nI j)] [] (0, 0) (LAY, RFu r, m') := by
    intro t
    induction t with
    | zero =>
      intro j n' a' W' dp' m1 m' ht hj haa hA hS' hn' e
      have hal := hS'.a40
      have hg : g a' = 256 := hS'.1.2.2.2.2.2.2.2 a' (by omega)
      have fin : P 88 [.ref 94, .int (nI j)] [] (0, 0) (LAY, RFu r, m') := b45_88 hP (k m' n' a' W' dp' m1 hA hS' hn' haa e (by omega) (by omega))
      exact b45_2 hP (fun _ => fin) (fun _ => b45_8 hP (c76 hS'.1 (by decide) (fun _ => Bk.i (b45_17 hP (fun _ => b45_30 hP (fun _ => fin) (fun _ => b45_38 hP (c76 hS'.1 (by decide) (fun _ => Bk.i (b45_47 hP (fun _ => fin) (fun z => absurd rfl z))) (fun z => by omega)))) (fun z => absurd rfl z))) (fun z => by omega)))
    | succ t ih =>
      intro j n' a' W' dp' m1 m' ht hj haa hA hS' hn' e
      have hal := hS'.a40
      have hsz := hS'.2.2.1
      have hdp := hS'.2.2.2.2.1
      have hm1 := hS'.2.2.2.1
      have h8 := hS'.2.2.2.2.2.2.2.1
      have h11 := hS'.2.2.2.2.2.2.2.2.2.2.1
      have h12 := hS'.2.2.2.2.2.2.2.2.2.2.2
      obtain ⟨n', rfl⟩ : ∃ n2, n' = n2 + 1 := ⟨n' - 1, by omega⟩
      refine b45_2 hP (fun z => b45_88 hP ?_) (fun _ => b45_8 hP (c76 hS'.1 (by decide) (fun h45 => Bk.i (b45_17 hP (fun _ => ?_) (fun z => absurd rfl z))) (fun h45 => Bk.i (b45_17 hP (fun z => absurd z (by decide)) (fun _ => b45_20 hP ?_)))))
      · rw [nI_leI (by omega) (by omega)] at z
        have hg : g a' = 256 := hS'.1.2.2.2.2.2.2.2 a' (by omega)
        exact k m' _ a' W' dp' m1 hA hS' hn' haa e (by omega) (by omega)
      · have fin : ¬ (g a' = 40 ∧ dp' < 4) → P 88 [.ref 94, .int (nI j)] [] (0, 0) (LAY, RFu r, m') := fun h40 => b45_88 hP (k m' _ a' W' dp' m1 hA hS' hn' haa e h45 h40)
        refine b45_30 hP (fun z => fin (fun q => absurd z (by rw [h11]; exact nI_ge q.2 (by decide)))) (fun z => b45_38 hP (c76 hS'.1 (by decide) (fun h40 => Bk.i (b45_47 hP (fun _ => fin (fun q => h40 q.1)) (fun z => absurd rfl z))) (fun h40 => Bk.i (b45_47 hP (fun z => absurd z (by decide)) (fun _ => b45_50 hP ?_)))))
        have hd4 : dp' < 4 := Nat.not_le.mp fun q => z (by rw [h11]; exact nI_le q (by omega))
        have hal2 : a' + 1 ≤ lim := hS'.1.lt (by omega)
        have hT := hS'.tx (b := a' + 1) hal2 (by omega)
        refine c50 (n := W'.length) hT.2.2.2.2.2.2.2.1 (by omega) (Bk.v (b45_55 hP (b45_82 hP ?_)))
        have hT2 := hT.push (x := 0) (by simp; omega) (by decide)
        generalize hM : xu2 (xu2 (txM m' (a' + 1)) 98 W'.length (nI 0)) 94 3 (nI (W'.length + 1)) = M at hT2
        have hAM : Ag [1, 94, 98] mem M := by rw [← hM]; exact ((hA.trans (txM_ag.mono (by simp))).u2 (by simp)).u2 (by simp)
        obtain ⟨t1, t2, t3, t4, t5, t6, t7, t8, t9, t10, t11, t12⟩ := hT2
        have e1 : xu2 M 94 4 (M 94 4 + nI 1) 94 4 = nI (dp' + 1) := by rw [xu2_eq, upd_at, t11, nIs]
        have e2 : xu2 M 94 4 (M 94 4 + nI 1) 94 5 = nI m1 := by rw [xu2_eq, upd_ne (by decide), t12]
        rw [e1, e2, bit_drop hm1 (by omega), t11, nIs, nIs]
        refine ih (j + 1) n' (a' + 1) (0 :: W') (dp' + 1) (dropN m1 (dp' + 1)) _ (by omega) (by omega) (by omega) ((hAM.u2 (by simp)).u2 (by simp)) ⟨t1.sm (by rw [xu2_ne (by decide), xu2_ne (by decide)]) (by rw [xu2_ne (by decide), xu2_ne (by decide)]), t2, t3, dropN_lt hm1, by omega, by rw [xu2_ne (by decide), xu2_ne (by decide)]; exact t6, by rw [xu2_ne (by decide), xu2_ne (by decide)]; exact t7, by rw [xu2_eq, upd_ne (by decide), xu2_eq, upd_ne (by decide)]; exact t8, by rw [xu2_ne (by decide), xu2_ne (by decide)]; exact t9, t10, by rw [xu2_eq, upd_ne (by decide), xu2_eq, upd_at], by rw [xu2_eq, upd_at]⟩ (by omega) ?_
        rw [e, rn_0, if_neg h45, if_pos ⟨h40, hd4⟩]
      · have hal2 : a' + 1 ≤ lim := hS'.1.lt (by omega)
        have hT := hS'.tx (b := a' + 1) hal2 (by omega)
        refine c50 (n := W'.length) hT.2.2.2.2.2.2.2.1 (by omega) (Bk.v (b45_27 hP (b45_82 hP ?_)))
        rw [nIs]
        refine ih (j + 1) n' (a' + 1) (3000 :: W') dp' m1 _ (by omega) (by omega) (by omega) (((hA.trans (txM_ag.mono (by simp))).u2 (by simp)).u2 (by simp)) (hT.push (x := 3000) (by simp; omega) (by decide)) (by omega) ?_
        rw [e, rn_0, if_pos h45]
  exact main lim 0 n a W dp m mem (by omega) (by omega) (by omega) Ag.rfl' hS hn rfl
theorem hcx_toInt {x : Nat} (hx : x ≤ 256) : (hcx x).toInt = if x < 256 then (x : Int) else -1 := by
  unfold hcx
  by_cases h : x < 256
  · rw [if_pos h, if_pos h, nI_toInt (by omega)]
  · rw [if_neg h, if_neg h]; decide
theorem c46 {n : Nat} (hS : RS mem len lim g a acc W dp m) (hn : lim < n + a) (h45 : g a ≠ 45) (h40 : ¬ (g a = 40 ∧ dp < 4))
    (k0 : rn g n false (a, acc, W, dp, m) = (a, false, acc) → Q (some (.int (nI 0))) (LAY, RFu r, mem))
    (k1 : ∀ mem' n' a' acc', Ag [1, 95, 96] mem mem' → RS mem' len lim g a' acc' W dp m → lim < n' + a' → a < a' → rn g n false (a, acc, W, dp, m) = rn g n' true (a', acc', W, dp, m) → Q (some (.int (nI 1))) (LAY, RFu r, mem')) : xCall (d + 4) 46 [.ref 94] (LAY, RFu r, mem) Q := by
  obtain ⟨n, rfl⟩ : ∃ n2, n = n2 + 1 := ⟨n - 1, by have := hS.a40; omega⟩
  rw [rn_0, if_neg h45, if_neg h40] at k0 k1
  have hal := hS.a40
  have hsz := hS.2.2.1
  have hle := hS.1.le a
  refine c_in rfl rfl rfl fun P hP => b46_0 hP (c75 hS.1 (Bk.i ?_))
  have hti := hcx_toInt hle
  have num : isLet (g a) ≠ true → P 125 [.ref 94, .int (hcx (g a)), .null] [] (0, 0) (LAY, RFu r, mem) := fun hl => by
    refine b46_125 hP (c78 hS.1 (by decide) (fun z => Bk.i (b46_133 hP (fun q => absurd rfl q) (fun _ => b46_139 hP (Or.inl rfl) (k0 ?_)))) (fun q1 q2 => Bk.i (b46_133 hP (fun _ => b46_141 hP ?_) (fun q => absurd q (nI_nm ?_)))))
    · rw [if_neg z, if_neg hl]
    · have h1 := numF_le (g := g) (d := 3) (a := a) (v := 0)
      have h2 := numF_lim hS.1.2.2.2.2.2.2.2 (d := 3) (v := 0) hal.1
      have h3 : a < (numF g 3 a 0).1 := by
        rw [numF_s, if_pos ⟨q1, q2⟩]
        exact (numF_le (g := g) (d := 2) (a := a + 1)).1
      have hT := hS.tx (b := (numF g 3 a 0).1) h2 (by omega)
      refine c38 (q := 95) (n := acc.length) (by unfold isRule; omega) hT.2.2.2.2.2.1 (by omega) (Bk.v (b46_149 hP (Or.inr rfl) (k1 _ n _ _ (((txM_ag (a := (numF g 3 a 0).1)).mono (by simp)).u2 (by simp) |>.u2 (by simp)) (hT.add (by omega)) (by omega) h3 ?_)))
      rw [if_pos ⟨q1, q2⟩]
    · have h1 := numF_le (g := g) (d := 3) (a := a) (v := 0)
      exact Nat.lt_of_lt_of_le h1.2.2 (by decide)
  have let_ : isLet (g a) = true → P 104 [.ref 94, .int (hcx (g a)), .null] [] (0, 0) (LAY, RFu r, mem) := fun hl => by
    have hl2 := isLet_lt hl
    have hal2 : a + 1 ≤ lim := hS.1.lt (by omega)
    have hnd : ¬ (48 ≤ g a ∧ g a ≤ 57) := fun q => by
      have : ∀ x < 58, 48 ≤ x → isLet x = false := by decide
      rw [this _ (by omega) q.1] at hl
      cases hl
    have e : hcx (g a) = nI (g a) := if_pos (by omega)
    rw [e]
    refine b46_104 hP ?_
    rw [nI_add]
    refine c38 (q := 95) (n := acc.length) (by unfold isRule; omega) hS.2.2.2.2.2.1 (by omega) (Bk.v (b46_116 hP ?_))
    have hM : RC (xu2 (xu2 mem 96 acc.length (nI (1000 + g a))) 95 2 (nI (acc.length + 1))) len lim a g := hS.1.sm (by rw [xu2_ne (by decide), xu2_ne (by decide)]) (by rw [xu2_ne (by decide), xu2_ne (by decide)])
    refine c76 hM (by omega) (fun z => absurd rfl z) (fun _ => Bk.i (b46_124 hP (Or.inr rfl) (k1 _ n (a + 1) (acc ++ [nI (1000 + g a)]) (((Ag.rfl'.u2 (by simp)).u2 (by simp)).trans (txM_ag.mono (by simp))) ?_ (by omega) (by omega) ?_)))
    · have hT := (hS.tx (b := a + 1) hal2 (by omega)).add (v := nI (1000 + g a)) (by omega)
      have e2 : txM (xu2 (xu2 mem 96 acc.length (nI (1000 + g a))) 95 2 (nI (acc.length + 1))) (a + 1) = xu2 (xu2 (txM mem (a + 1)) 96 acc.length (nI (1000 + g a))) 95 2 (nI (acc.length + 1)) := by
        unfold txM
        funext c i
        unfold xu2
        by_cases c1 : c = 1
        · subst c1; simp
        · by_cases c2 : c = 95
          · subst c2; simp
          · by_cases c3 : c = 96
            · subst c3; simp
            · simp [c1, c2, c3]
      rw [e2]
      exact hT
    · rw [if_neg hnd, if_pos hl]
  have noL : ∀ z : Int, (hcx (g a)).toInt = z → (∀ x : Nat, (x : Int) = z → isLet x = false) → P 125 [.ref 94, .int (hcx (g a)), .null] [] (0, 0) (LAY, RFu r, mem) := fun z h hz => num fun q => by
    rw [hti, if_pos (by have := isLet_lt q; omega)] at h
    rw [hz _ h] at q
    cases q
  have yesL : ∀ c : Nat, (hcx (g a)).toInt = (c : Int) → isLet c = true → P 104 [.ref 94, .int (hcx (g a)), .null] [] (0, 0) (LAY, RFu r, mem) := fun c h hc => let_ (by
    rw [hti] at h
    split at h
    · rw [show g a = c by omega]; exact hc
    · omega)
  have no1 : ∀ c : Nat, isLet c = false → ∀ x : Nat, (x : Int) = (c : Int) → isLet x = false := fun c hc x hx => by rw [show x = c by omega]; exact hc
  refine b46_7 hP (fun h => num fun q => ?_) (fun h => yesL 97 h (by decide)) (fun h => yesL 98 h (by decide)) (fun h => yesL 99 h (by decide)) (fun h => noL _ h (no1 100 (by decide))) (fun h => noL _ h (no1 101 (by decide))) (fun h => noL _ h (no1 102 (by decide))) (fun h => yesL 103 h (by decide)) (fun h => noL _ h (no1 104 (by decide))) (fun h => yesL 105 h (by decide)) (fun h => noL _ h (no1 106 (by decide))) (fun h => yesL 107 h (by decide)) (fun h => noL _ h (no1 108 (by decide))) (fun h => noL _ h (no1 109 (by decide))) (fun h => noL _ h (no1 110 (by decide))) (fun h => noL _ h (no1 111 (by decide))) (fun h => noL _ h (no1 112 (by decide))) (fun h => noL _ h (no1 113 (by decide))) (fun h => noL _ h (no1 114 (by decide))) (fun h => yesL 115 h (by decide)) (fun h => yesL 116 h (by decide))
  have hx := isLet_lt q
  rw [hti, if_pos (by omega)] at h
  simp only [isLet, Bool.or_eq_true, decide_eq_true_eq] at q
  omega
theorem c47 {n : Nat} (hS : RS mem len lim g a acc W dp m) (hn : lim < n + a)
    (k : ∀ mem' n' a' acc' W' dp', Ag [1, 94, 95, 96] mem mem' → RS mem' len lim g a' acc' W' dp' m → lim < n' + a' → a ≤ a' → rn g n true (a, acc, W, dp, m) = rn g n' true (a', acc', W', dp', m) → ¬ (g a' = 41 ∧ 0 < dp') → Q none (LAY, RFu r, mem')) : xCall (d + 3) 47 [.ref 94] (LAY, RFu r, mem) Q := by
  refine c_in rfl rfl rfl fun P hP => b47_0 hP ?_
  have main : ∀ (t j n' a' : Nat) (acc' : List Int32) (W' : List Nat) (dp' : Nat) (m' : Nat → Nat → Int32), lim - a' ≤ t → j ≤ a' → a ≤ a' → Ag [1, 94, 95, 96] mem m' → RS m' len lim g a' acc' W' dp' m → lim < n' + a' → rn g n true (a, acc, W, dp, m) = rn g n' true (a', acc', W', dp', m) → P 2 [.ref 94, .int (nI j)] [] (0, 0) (LAY, RFu r, m') := by
    intro t
    induction t with
    | zero =>
      intro j n' a' acc' W' dp' m' ht hj haa hA hS' hn' e
      have hal := hS'.a40
      have hg : g a' = 256 := hS'.1.2.2.2.2.2.2.2 a' (by omega)
      have fin : P 62 [.ref 94, .int (nI j)] [] (0, 0) (LAY, RFu r, m') := b47_62 hP (k m' n' a' acc' W' dp' hA hS' hn' haa e (by omega))
      exact b47_2 hP (fun _ => fin) (fun _ => b47_8 hP (fun _ => fin) (fun _ => b47_15 hP (c76 hS'.1 (by decide) (fun _ => Bk.i (b47_24 hP (fun _ => fin) (fun z => absurd rfl z))) (fun z => by omega))))
    | succ t ih =>
      intro j n' a' acc' W' dp' m' ht hj haa hA hS' hn' e
      have hal := hS'.a40
      have h11 := hS'.2.2.2.2.2.2.2.2.2.2.1
      have hdp := hS'.2.2.2.2.1
      obtain ⟨n', rfl⟩ : ∃ n2, n' = n2 + 1 := ⟨n' - 1, by omega⟩
      have fin : ¬ (g a' = 41 ∧ 0 < dp') → P 62 [.ref 94, .int (nI j)] [] (0, 0) (LAY, RFu r, m') := fun h => b47_62 hP (k m' _ a' acc' W' dp' hA hS' hn' haa e h)
      refine b47_2 hP (fun z => fin ?_) (fun _ => b47_8 hP (fun z => fin ?_) (fun z => b47_15 hP (c76 hS'.1 (by decide) (fun h41 => Bk.i (b47_24 hP (fun _ => fin (fun q => h41 q.1)) (fun z => absurd rfl z))) (fun h41 => Bk.i (b47_24 hP (fun z => absurd z (by decide)) (fun _ => b47_27 hP ?_))))))
      · rw [nI_leI (by omega) (by omega)] at z
        have hg : g a' = 256 := hS'.1.2.2.2.2.2.2.2 a' (by omega)
        omega
      · intro q
        rw [h11] at z
        exact nI_nle q.2 (by omega) z
      · have hd0 : 0 < dp' := Nat.pos_of_ne_zero fun q => z (by rw [h11, q]; exact Int32.le_refl _)
        have hal2 : a' + 1 ≤ lim := hS'.1.lt (by omega)
        refine c49 (b := 1) (hS'.tx (b := a' + 1) hal2 (by omega)) (by decide) fun m2 hA2 hS2 => Bk.v (b47_32 hP ?_)
        obtain ⟨t1, t2, t3, t4, t5, t6, t7, t8, t9, t10, t11, t12⟩ := hS2
        generalize hacc : (aw 1 acc' W').1 = acc2 at *
        generalize hW2 : (aw 1 acc' W').2 = W2 at *
        have e3 : (if nI 0 < m2 94 3 - nI 1 then m2 94 3 - nI 1 else nI 0) = nI W2.tail.length := by
          rw [t8]
          cases W2 with
          | nil => decide
          | cons x W3 =>
            simp only [List.length_cons, List.tail_cons]
            simp only [List.length_cons] at t3
            rw [nI_sub (by omega), show W3.length + 1 - 1 = W3.length by omega]
            by_cases q : W3.length = 0
            · rw [q]; decide
            · rw [if_pos (nI_lt (by omega) (by omega))]
        rw [e3, xu2_eq, upd_ne (by decide), t11, nIs, nI_sub (by omega)]
        have hAm : Ag [1, 94, 95, 96] mem m2 := (hA.trans (txM_ag.mono (by simp))).trans (hA2.mono (by simp))
        refine ih (j + 1) n' (a' + 1) acc2 W2.tail (dp' - 1) _ (by omega) (by omega) (by omega) ((hAm.u2 (by simp)).u2 (by simp)) ⟨t1.sm (by rw [xu2_ne (by decide), xu2_ne (by decide)]) (by rw [xu2_ne (by decide), xu2_ne (by decide)]), t2, by rw [List.length_tail]; omega, t4, by omega, by rw [xu2_ne (by decide), xu2_ne (by decide)]; exact t6, by rw [xu2_ne (by decide), xu2_ne (by decide)]; exact t7, by rw [xu2_eq, upd_ne (by decide), xu2_eq, upd_at], ?_, fun x hx => t10 x (List.mem_of_mem_tail hx), by rw [xu2_eq, upd_at], by rw [xu2_eq, upd_ne (by decide), xu2_eq, upd_ne (by decide)]; exact t12⟩ (by omega) ?_
        · rw [xu2_ne (by decide), xu2_ne (by decide)]
          cases W2 with
          | nil => exact t9
          | cons x W3 => exact VS_tail t9
        · rw [e, rn_1, if_pos ⟨h41, hd0⟩, hacc, hW2]
  exact main lim 0 n a acc W dp mem (by omega) (by omega) (by omega) Ag.rfl' hS hn rfl
theorem bit_set {m p : Nat} (hm : m < 256) (hp : p < 8) : nI m ||| (nI 1 <<< (nI p &&& 31)) = nI (setN m p) := by
  have h : ∀ m < 256, ∀ p < 8, nI m ||| (nI 1 <<< (nI p &&& 31)) = nI (setN m p) := by decide +kernel
  exact h m hm p hp
theorem aw_len {b : Nat} : ∀ {W : List Nat} {acc : List Int32}, (aw b acc W).1.length + (aw b acc W).2.length = acc.length + W.length
  | [], acc => rfl
  | x :: W, acc => by
    by_cases h : b ≤ bnd x
    · have e : aw b acc (x :: W) = aw b (acc ++ [nI x]) W := if_pos h
      rw [e, aw_len]
      simp
      omega
    · have e : aw b acc (x :: W) = (acc, x :: W) := if_neg h
      rw [e]
theorem c48 {n : Nat} (hS : RS mem len lim g a acc W dp m) (hn : lim < n + a) (h41 : ¬ (g a = 41 ∧ 0 < dp))
    (k0 : rn g n true (a, acc, W, dp, m) = (a, decide (dp = 0), (aw 1 acc W).1) → Q (some (.int (nI 0))) (LAY, RFu r, mem))
    (k1 : ∀ mem' n' acc' W' m', Ag [1, 94, 95, 96, 98] mem mem' → RS mem' len lim g (a + 1) acc' W' dp m' → lim < n' + (a + 1) → rn g n true (a, acc, W, dp, m) = rn g n' false (a + 1, acc', W', dp, m') → Q (some (.int (nI 1))) (LAY, RFu r, mem')) : xCall (d + 4) 48 [.ref 94] (LAY, RFu r, mem) Q := by
  obtain ⟨n, rfl⟩ : ∃ n2, n = n2 + 1 := ⟨n - 1, by have := hS.a40; omega⟩
  rw [rn_1, if_neg h41] at k0 k1
  have hal := hS.a40
  have hsz := hS.2.2.1
  have hle := hS.1.le a
  have hm := hS.2.2.2.1
  have hdp := hS.2.2.2.2.1
  have h11 := hS.2.2.2.2.2.2.2.2.2.2.1
  have h12 := hS.2.2.2.2.2.2.2.2.2.2.2
  refine c_in rfl rfl rfl fun P hP => b48_0 hP (c75 hS.1 (Bk.i (b48_7 hP (c51x hle (Bk.i ?_)))))
  have hb4 : bnd (2000 + g a) < 10 := by unfold bnd; split <;> (try omega); split <;> (try omega); split <;> (try omega); split <;> omega
  refine b48_18 hP (fun z => ?_) (fun z => b48_24 hP (Or.inl rfl) (k0 ?_))
  · rw [nI_leI (by omega) (by omega)] at z
    have hx : g a < 256 := Decidable.by_contra fun q => by
      rw [show g a = 256 by omega] at z
      exact absurd z (by decide)
    have hal2 : a + 1 ≤ lim := hS.1.lt hx
    have e : hcx (g a) = nI (g a) := if_pos hx
    -- the bit is set, the waiting ones are done, this one waits
    have go : ∀ m2 mem2 v4, Ag [1, 94, 95, 96, 98] mem mem2 → RS mem2 len lim g a acc W dp m2 → jb (g a) m dp = bnd (2000 + g a) → m2 = (if bnd (2000 + g a) = 1 then setN m dp else m) → P 63 [.ref 94, .int (hcx (g a)), .int (nI 2000 + hcx (g a)), .int v4] [] (0, 0) (LAY, RFu r, mem2) → P 63 [.ref 94, .int (hcx (g a)), .int (nI 2000 + hcx (g a)), .int v4] [] (0, 0) (LAY, RFu r, mem2) := fun _ _ _ _ _ _ _ h => h
    have go2 : ∀ m2 mem2, Ag [1, 94, 95, 96, 98] mem mem2 → RS mem2 len lim g a acc W dp m2 → jb (g a) m dp = bnd (2000 + g a) → m2 = (if bnd (2000 + g a) = 1 then setN m dp else m) → P 63 [.ref 94, .int (hcx (g a)), .int (nI 2000 + hcx (g a)), .int (nI (bnd (2000 + g a)))] [] (0, 0) (LAY, RFu r, mem2) := fun m2 mem2 hA hS2 hj he => by
      refine b48_63 hP (c49 hS2 hb4 fun m3 hA3 hS3 => Bk.v (b48_68 hP ?_))
      have hl := aw_len (b := bnd (2000 + g a)) (W := W) (acc := acc)
      rw [e, nI_add]
      refine c50 (n := (aw (bnd (2000 + g a)) acc W).2.length) hS3.2.2.2.2.2.2.2.1 (by omega) (Bk.v (b48_73 hP ?_))
      have hM : RC (xu2 (xu2 m3 98 (aw (bnd (2000 + g a)) acc W).2.length (nI (2000 + g a))) 94 3 (nI ((aw (bnd (2000 + g a)) acc W).2.length + 1))) len lim a g := hS3.1.sm (by rw [xu2_ne (by decide), xu2_ne (by decide)]) (by rw [xu2_ne (by decide), xu2_ne (by decide)])
      refine c76 hM hx (fun z => absurd rfl z) (fun _ => Bk.i (b48_81 hP (Or.inr rfl) (k1 _ n (aw (bnd (2000 + g a)) acc W).1 ((2000 + g a) :: (aw (bnd (2000 + g a)) acc W).2) m2 ((((hA.trans (hA3.mono (by simp))).u2 (by simp)).u2 (by simp)).trans (txM_ag.mono (by simp))) ?_ (by omega) ?_)))
      · have hT := (hS3.tx (b := a + 1) hal2 (by omega)).push (x := 2000 + g a) (by simp; omega) (by omega)
        have e2 : txM (xu2 (xu2 m3 98 (aw (bnd (2000 + g a)) acc W).2.length (nI (2000 + g a))) 94 3 (nI ((aw (bnd (2000 + g a)) acc W).2.length + 1))) (a + 1) = xu2 (xu2 (txM m3 (a + 1)) 98 (aw (bnd (2000 + g a)) acc W).2.length (nI (2000 + g a))) 94 3 (nI ((aw (bnd (2000 + g a)) acc W).2.length + 1)) := by
          unfold txM
          funext c i
          unfold xu2
          by_cases c1 : c = 1
          · subst c1; simp
          · by_cases c2 : c = 94
            · subst c2; simp
            · by_cases c3 : c = 98
              · subst c3; simp
              · simp [c1, c2, c3]
        rw [e2]
        exact hT
      · rw [hj, if_pos (by omega), he]
    refine b48_26 hP (fun z1 => go2 m mem Ag.rfl' hS (jb_ne fun q => z1 (by rw [q])) ?_) (fun z1 => ?_)
    · rw [if_neg (fun q => z1 (by rw [q]))]
    · have hb1 : bnd (2000 + g a) = 1 := nI_inj z1 (by omega) (by decide)
      refine b48_31 hP (fun z2 => b48_48 hP (go2 (setN m dp) _ (Ag.rfl'.u2 (by simp)) ?_ ?_ ?_)) (fun z2 => b48_46 hP (Or.inl rfl) (k0 ?_))
      · rw [h11, h12, bit_set hm (by omega)]
        obtain ⟨t1, t2, t3, t4, t5, t6, t7, t8, t9, t10, t11, t12⟩ := hS
        exact ⟨t1.sm (by rw [xu2_ne (by decide)]) (by rw [xu2_ne (by decide)]), t2, t3, setN_lt hm (by omega), t5, by rw [xu2_ne (by decide)]; exact t6, by rw [xu2_ne (by decide)]; exact t7, by rw [xu2_eq, upd_ne (by decide)]; exact t8, by rw [xu2_ne (by decide)]; exact t9, t10, by rw [xu2_eq, upd_ne (by decide)]; exact t11, by rw [xu2_eq, upd_at]⟩
      · unfold jb
        rw [h11, h12, bit_in hm (by omega)] at z2
        rw [if_neg (fun q => z2 (by rw [if_pos q.2]))]
      · rw [if_pos hb1]
      · have hj : jb (g a) m dp = 0 := by
          unfold jb
          rw [h11, h12, bit_in hm (by omega)] at z2
          refine if_pos ⟨hb1, ?_⟩
          by_cases q : m.testBit dp = true
          · exact q
          · rw [if_neg q] at z2; exact absurd z2 (by decide)
        rw [hj, if_neg (by omega)]
  · rw [nI_leI (by omega) (by omega)] at z
    have hj : jb (g a) m dp = 0 := by
      rw [jb_ne (by omega)]
      omega
    rw [hj, if_neg (by omega)]
theorem c36 {q : Nat} (hq : isRule q) (k : Q none (LAY, RFu r, xu2 mem q 2 (nI 0))) : xCall (d + 1) 36 [.ref q] (LAY, RFu r, mem) Q := c_in rfl rfl rfl fun P hP => b36_0 hP hq k
/-- a text read as a rule -/
def rdT (tx : Nat → Nat) (len : Nat) : Nat × Bool × List Int32 := rd (gT tx len 40) 400 5 0 0
theorem c44 {tx : Nat → Nat} (hT : TxC mem len tx)
    (k : ∀ mem', Ag [1, 94, 95, 96, 98] mem mem' → mem' 1 1 = nI len → mem' 1 2 = nI (rdT tx len).1 → ((rdT tx len).2.1 = true → RuL mem' 95 (rdT tx len).2.2) → Q (some (.int (b01 ((rdT tx len).2.1 = true ∧ (rdT tx len).1 = len)))) (LAY, RFu r, mem')) : xCall (d + 5) 44 [.ref 94] (LAY, RFu r, mem) Q := by
  refine c_in rfl rfl rfl fun P hP => b44_0 hP (c36 (by unfold isRule; omega) (Bk.v (b44_7 hP ?_)))
  have hT1 : TxC (xu2 (xu2 (xu2 (xu2 mem 95 2 (nI 0)) 94 3 (nI 0)) 94 4 (nI 0)) 94 5 (nI 0)) len tx := by
    unfold TxC at hT ⊢
    rw [xu2_ne (by decide), xu2_ne (by decide), xu2_ne (by decide), xu2_ne (by decide)]
    rw [xu2_ne (c := 2) (by decide), xu2_ne (c := 2) (by decide), xu2_ne (c := 2) (by decide), xu2_ne (c := 2) (by decide)]
    exact hT
  have hA1 : Ag [1, 94, 95, 96, 98] mem (xu2 (xu2 (xu2 (xu2 mem 95 2 (nI 0)) 94 3 (nI 0)) 94 4 (nI 0)) 94 5 (nI 0)) := (((Ag.rfl'.u2 (by simp)).u2 (by simp)).u2 (by simp)).u2 (by simp)
  refine c74 (lim := 40) (by decide) hT1 fun m0 hA0 hR0 => Bk.v (b44_31 hP ?_)
  generalize hlim : min len 40 = lim at hR0
  have hg : ∀ i, lim ≤ i → gT tx len 40 i = 256 := hR0.2.2.2.2.2.2.2
  have hb := hR0.le
  have hl40 : lim ≤ 40 := by omega
  have hle := rd_le hg 400 5 0 0 (Nat.zero_le _)
  have hrr := (rr_all (g := gT tx len 40) 400).2.2.2.2.2
  have hrn := rn_rd hg hb (n := 41) (f := 400) (by omega) (by omega)
  unfold rdT at k
  have hS0 : RS m0 len lim (gT tx len 40) 0 [] [] 0 0 := by
    refine ⟨hR0, hl40, Nat.le_refl _, by decide, by decide, ?_, fun k hk => absurd hk (Nat.not_lt_zero k), ?_, fun j hj => absurd hj (Nat.not_lt_zero j), fun x hx => by (cases hx), ?_, ?_⟩
    · rw [hA0 95 (by simp), xu2_ne (by decide), xu2_ne (by decide), xu2_ne (by decide), xu2_eq, upd_at]; rfl
    · rw [hA0 94 (by simp), xu2_eq, upd_ne (by decide), xu2_eq, upd_ne (by decide), xu2_eq, upd_at]; rfl
    · rw [hA0 94 (by simp), xu2_eq, upd_ne (by decide), xu2_eq, upd_at]
    · rw [hA0 94 (by simp), xu2_eq, upd_at]
  have hA01 : Ag [1, 94, 95, 96, 98] mem m0 := hA1.trans (hA0.mono (by simp))
  generalize hgt : gT tx len 40 = g at *
  generalize hp : rd g 400 5 0 0 = p at *
  have main : ∀ (t j n a : Nat) (acc : List Int32) (W : List Nat) (dp m : Nat) (m' : Nat → Nat → Int32), lim - a ≤ t → 2 * j ≤ a → Ag [1, 94, 95, 96, 98] mem m' → RS m' len lim g a acc W dp m → lim < n + a → rn g 41 false (0, [], [], 0, 0) = rn g n false (a, acc, W, dp, m) → P 33 [.ref 94, .int (nI j)] [] (0, 0) (LAY, RFu r, m') := by
    intro t
    induction t using Nat.strongRecOn with
    | ind t ih =>
      intro j n a acc W dp m m' ht hj hA hS hn e
      have hal := hS.a40
      refine b44_33 hP (fun z => ?_) (fun _ => b44_39 hP (c45 hS hn fun m1 n1 a1 W1 dp1 mm1 g1 g2 g3 g4 g5 g6 g7 => Bk.v (b44_43 hP (c46 g2 g3 g6 g7 (fun e1 => Bk.i (b44_47 hP (fun z => absurd rfl z) (fun _ => b44_50 hP (Or.inl rfl) ?_))) (fun m2 n2 a2 acc2 q1 q2 q3 q4 q5 => Bk.i (b44_47 hP (fun _ => b44_52 hP (c47 q2 q3 fun m3 n3 a3 acc3 W3 dp3 u1 u2 u3 u4 u5 u6 => Bk.v (b44_56 hP (c48 u2 u3 u6 (fun e2 => Bk.i (b44_60 hP (fun z => absurd rfl z) (fun _ => b44_63 hP ?_))) (fun m4 n4 acc4 W4 mm4 v1 v2 v3 v4 => Bk.i (b44_60 hP (fun _ => b44_66 hP ?_) (fun z => absurd z (by decide)))))))) (fun z => absurd z (by decide))))))))
      · rw [nI_leI (by omega) (by omega)] at z; omega
      · have hE := e.trans (g5.trans e1)
        have hAf : Ag [1, 94, 95, 96, 98] mem m1 := hA.trans (g1.mono (by simp))
        rcases hrn with h | ⟨h1, acc', h2⟩
        · rw [hE] at h
          have := k m1 hAf g2.1.1 (by rw [g2.1.at', ← h]) (fun z => by rw [← h] at z; cases z)
          rw [← h] at this
          unfold b01 at this
          rw [if_neg (fun q => by cases q.1)] at this
          exact this
        · rw [hE] at h2
          have ha1 : p.1 = a1 := by injection h2 with q1 q2; exact q1.symm
          have := k m1 hAf g2.1.1 (by rw [g2.1.at', ha1]) (fun z => by rw [h1] at z; cases z)
          unfold b01 at this
          rw [if_neg (fun q => by rw [h1] at q; cases q.1)] at this
          exact this
      · refine b44_72 hP (c49 (b := 1) u2 (by decide) fun m5 w1 w2 => Bk.v ?_)
        have hE := e.trans (g5.trans (q5.trans (u5.trans e2)))
        have hAf : Ag [1, 94, 95, 96, 98] mem m5 := (((hA.trans (g1.mono (by simp))).trans (q1.mono (by simp))).trans (u1.mono (by simp))).trans (w1.mono (by simp))
        have h11 := w2.2.2.2.2.2.2.2.2.2.2.1
        have hdp3 := w2.2.2.2.2.1
        have fin : p.1 = a3 → (p.2.1 = true → dp3 = 0 ∧ p.2.2 = (aw 1 acc3 W3).1) → (p.2.1 = false → dp3 ≠ 0) → P 77 [.ref 94, .int (nI j)] [] (0, 0) (LAY, RFu r, m5) := fun f1 f2 f3 => by
          have kk := k m5 hAf w2.1.1 (by rw [w2.1.at', f1]) (fun z => by
            obtain ⟨-, y2⟩ := f2 z
            have y3 := w2.2.2.1
            have y4 := w2.a40
            refine ⟨by rw [y2]; omega, by rw [y2]; exact w2.2.2.2.2.2.1, by rw [y2]; exact w2.2.2.2.2.2.2.1, fun env => ?_⟩
            have := hrr env 0 0 (by rw [hp]; exact z) []
            rw [hp] at this
            exact this)
          rw [f1] at kk
          refine b44_77 hP (fun z => ?_) (fun z => b44_84 hP (c79 w2.1 (Bk.i (b44_91 hP (fun y => b44_98 hP (b44_99 hP (Or.inl rfl) ?_)) (fun y => b44_94 hP (b44_99 hP (Or.inr rfl) ?_))))))
          · refine b44_98 hP (b44_99 hP (Or.inl rfl) ?_)
            unfold b01 at kk
            rw [if_neg (fun q => ?_)] at kk
            · exact kk
            · rw [h11, (f2 q.1).1] at z; exact z rfl
          · unfold b01 at kk y
            rw [if_neg (fun q => by rw [if_pos q.2] at y; exact absurd y (by decide))] at kk
            exact kk
          · have y2 : a3 = len := Decidable.by_contra fun q => y (by unfold b01; rw [if_neg q])
            have y3 : p.2.1 = true := by
              cases hq : p.2.1 with
              | true => rfl
              | false =>
                rw [h11] at z
                exact absurd (nI_inj (b := 0) z (by omega) (by decide)) (f3 hq)
            unfold b01 at kk
            rw [if_pos ⟨y3, y2⟩] at kk
            exact kk
        rcases hrn with h | ⟨h1, acc', h2⟩
        · rw [hE] at h
          refine fin (by rw [← h]) (fun z => ?_) (fun z => ?_)
          · rw [← h] at z ⊢
            exact ⟨of_decide_eq_true z, rfl⟩
          · rw [← h] at z
            exact of_decide_eq_false z
        · rw [hE] at h2
          injection h2 with q1 q2
          injection q2 with q2 q3
          exact fin q1.symm (fun z => by rw [h1] at z; cases z) (fun _ => of_decide_eq_false q2)
      · rw [nIs]
        exact ih (lim - (a3 + 1)) (by have := v2.a40; omega) (j + 1) n4 (a3 + 1) acc4 W4 dp3 mm4 m4 (Nat.le_refl _) (by omega) ((((hA.trans (g1.mono (by simp))).trans (q1.mono (by simp))).trans (u1.mono (by simp))).trans v1) v2 v3 (e.trans (g5.trans (q5.trans (u5.trans v4))))
  exact main lim 0 41 0 [] [] 0 0 m0 (by omega) (by omega) hA01 hS0 (by omega) rfl
end C
