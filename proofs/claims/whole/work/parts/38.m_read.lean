/-! the reference: its small methods, and how it reads -/
/-- memory agrees off the cells W, and off the slots V of the reference itself -/
def AgM (W V : List Nat) (m m' : Nat → Nat → Int32) : Prop := (∀ c, c ∉ W → c ≠ 108 → m' c = m c) ∧ ∀ j, j ∉ V → m' 108 j = m 108 j
theorem AgM.rfl' {W V : List Nat} {m : Nat → Nat → Int32} : AgM W V m m := ⟨fun _ _ _ => rfl, fun _ _ => rfl⟩
theorem AgM.trans {W V : List Nat} {m m1 m2 : Nat → Nat → Int32} (h1 : AgM W V m m1) (h2 : AgM W V m1 m2) : AgM W V m m2 := ⟨fun c h h' => (h2.1 c h h').trans (h1.1 c h h'), fun j h => (h2.2 j h).trans (h1.2 j h)⟩
theorem AgM.mono {W W' V V' : List Nat} {m m1 : Nat → Nat → Int32} (h : AgM W V m m1) (hw : ∀ c ∈ W, c ∈ W') (hv : ∀ c ∈ V, c ∈ V') : AgM W' V' m m1 := ⟨fun c h1 h2 => h.1 c (fun q => h1 (hw c q)) h2, fun j h1 => h.2 j (fun q => h1 (hv j q))⟩
theorem AgM.u2 {W V : List Nat} {m m1 : Nat → Nat → Int32} {a i : Nat} {x : Int32} (h : AgM W V m m1) (ha : a ∈ W) (h8 : a ≠ 108) : AgM W V m (xu2 m1 a i x) := ⟨fun c hc h1 => by rw [xu2_ne (fun q => hc (by rw [q]; exact ha))]; exact h.1 c hc h1, fun j hj => by rw [xu2_ne (fun q => h8 q.symm)]; exact h.2 j hj⟩
theorem AgM.us {W V : List Nat} {m m1 : Nat → Nat → Int32} {i : Nat} {x : Int32} (h : AgM W V m m1) (hi : i ∈ V) : AgM W V m (xu2 m1 108 i x) := ⟨fun c hc h1 => by rw [xu2_ne h1]; exact h.1 c hc h1, fun j hj => by rw [xu2_eq, upd_ne (fun q => hj (by rw [q]; exact hi))]; exact h.2 j hj⟩
/-- a byte, with its sign -/
def sb (u : Nat) : Int32 := if u < 128 then nI u else nI u - nI 256
theorem sb_eq {u c : Nat} (hu : u < 256) (hc : c < 128) : sb u = nI c ↔ u = c := by
  have h : ∀ u < 256, ∀ c < 128, sb u = nI c ↔ u = c := by decide +kernel
  exact h u hu c hc
/-- what is read: a byte, 256 where there is none -/
def hr (x : Nat) : Int32 := if x < 256 then sb x else -1
theorem hr_eq {x c : Nat} (hc : c < 128) : hr x = nI c ↔ x = c := by
  unfold hr
  by_cases h : x < 256
  · rw [if_pos h]; exact sb_eq h hc
  · rw [if_neg h]
    constructor
    · intro q
      have h1 : ∀ c < 128, (-1 : Int32) ≠ nI c := by decide +kernel
      exact absurd q (h1 c hc)
    · omega
theorem hr_dig {x : Nat} (hx : x ≤ 256) : (hr x < nI 48 ∨ nI 57 < hr x) ↔ ¬ (48 ≤ x ∧ x ≤ 57) := by
  have h : ∀ x < 257, (hr x < nI 48 ∨ nI 57 < hr x) ↔ ¬ (48 ≤ x ∧ x ≤ 57) := by decide +kernel
  exact h x (by omega)
/-- how far the reference has read, in which array -/
def RM (mem : Nat → Nat → Int32) (r rc n tp a : Nat) (w : Int32) (g : Nat → Nat) : Prop :=
  r = rc + 1 ∧ (∃ len, LAY[rc]? = some (14, len) ∧ n ≤ len ∧ len < 1000) ∧ tp < 1000 ∧ rc ≠ 108 ∧ mem 108 22 = nI n ∧ mem 108 23 = nI tp ∧ mem 108 24 = nI a ∧ a < 10000 ∧ mem 108 25 = w ∧
  (∀ i, i < n → i < tp → g i < 256 ∧ mem rc i = sb (g i)) ∧ ∀ i, ¬ (i < n ∧ i < tp) → g i = 256
theorem RM_le {mem : Nat → Nat → Int32} {r rc n tp a : Nat} {w : Int32} {g : Nat → Nat} (h : RM mem r rc n tp a w g) (i : Nat) : g i ≤ 256 := by
  obtain ⟨-, -, -, -, -, -, -, -, -, h1, h2⟩ := h
  by_cases q : i < n ∧ i < tp
  · have := (h1 i q.1 q.2).1; omega
  · have := h2 i q; omega
theorem RM_mv {mem m' : Nat → Nat → Int32} {r rc n tp a a' : Nat} {w w' : Int32} {g : Nat → Nat} {W V : List Nat} (h : RM mem r rc n tp a w g) (hA : AgM W V mem m') (h1 : rc ∉ W) (h2 : 22 ∉ V) (h3 : 23 ∉ V) (e1 : m' 108 24 = nI a') (e2 : a' < 10000) (e3 : m' 108 25 = w') : RM m' r rc n tp a' w' g := by
  obtain ⟨g1, g2, g3, g4, g5, g6, g7, g8, g9, g10, g11⟩ := h
  exact ⟨g1, g2, g3, g4, by rw [hA.2 22 h2, g5], by rw [hA.2 23 h3, g6], e1, e2, e3, by rw [hA.1 rc h1 g4]; exact g10, g11⟩
section C
variable {d r : Nat} {mem : Nat → Nat → Int32} {Q : xQr} {rc n tp a : Nat} {w : Int32} {g : Nat → Nat}
theorem c158 {x y z : Int32} (k : Q (some (.int (b01 (y ≤ x ∧ x ≤ z)))) (LAY, RFu r, mem)) : xCall (d + 1) 158 [.int x, .int y, .int z] (LAY, RFu r, mem) Q := by
  refine c_in rfl rfl rfl fun P hP => ?_
  have f : ¬ (y ≤ x ∧ x ≤ z) → P 14 [.int x, .int y, .int z] [] (0, 0) (LAY, RFu r, mem) := fun h => b158_14 hP (b158_15 hP (Or.inl rfl) (by unfold b01 at k; rw [if_neg h] at k; exact k))
  refine b158_0 hP (fun h => f (fun q => absurd q.1 (Int32.not_le.mpr h))) (fun h => b158_5 hP (fun h2 => f (fun q => absurd q.2 (Int32.not_le.mpr h2))) (fun h2 => b158_10 hP (b158_15 hP (Or.inr rfl) ?_)))
  unfold b01 at k
  rw [if_pos ⟨Int32.not_lt.mp h, Int32.not_lt.mp h2⟩] at k
  exact k
theorem c168 (hM : RM mem r rc n tp a w g) (k : Q (some (.int (hr (g a)))) (LAY, RFu r, mem)) : xCall (d + 1) 168 [.ref 108] (LAY, RFu r, mem) Q := by
  obtain ⟨g1, ⟨len, g2, g2', g2''⟩, g3, g4, g5, g6, g7, g8, g9, g10, g11⟩ := hM
  refine c_in rfl rfl rfl fun P hP => ?_
  have f : ¬ (a < n ∧ a < tp) → P 34 [.ref 108] [] (0, 0) (LAY, RFu r, mem) := fun h => by
    refine b168_34 hP (b168_35 hP ?_)
    rw [g11 a h] at k
    exact k
  refine b168_0 hP (fun h => f ?_) (fun h => b168_11 hP (fun h2 => f ?_) (fun h2 => ?_))
  · rw [g5, g7, nI_leI (by omega) (by omega)] at h; omega
  · rw [g6, g7, nI_leI (by omega) (by omega)] at h2; omega
  · rw [g5, g7, nI_leI (by omega) (by omega)] at h
    rw [g6, g7, nI_leI (by omega) (by omega)] at h2
    refine b168_22 hP g2 g1 (by rw [g7]; exact vpn (by omega) (by omega)) (b168_35 hP ?_)
    rw [g7, nIc (by omega), (g10 a (by omega) (by omega)).2]
    have e : hr (g a) = sb (g a) := if_pos (g10 a (by omega) (by omega)).1
    rw [e] at k
    exact k
theorem c169 (k : Q (some (.int (b01 (mem 108 25 = -1)))) (LAY, RFu r, mem)) : xCall (d + 1) 169 [.ref 108] (LAY, RFu r, mem) Q := by
  refine c_in rfl rfl rfl fun P hP => b169_0 hP (fun h => b169_12 hP (b169_13 hP (Or.inl rfl) ?_)) (fun h => b169_8 hP (b169_13 hP (Or.inr rfl) ?_))
  · unfold b01 at k; rw [if_neg h] at k; exact k
  · unfold b01 at k; rw [if_pos h] at k; exact k
/-- a fault, if there is none yet -/
theorem c170 {x : Int32} (k : Q none (LAY, RFu r, if mem 108 25 = -1 then xu2 mem 108 25 x else mem)) : xCall (d + 2) 170 [.ref 108, .int x] (LAY, RFu r, mem) Q := by
  refine c_in rfl rfl rfl fun P hP => b170_0 hP (c169 (Bk.i (b170_4 hP (fun h => b170_12 hP ?_) (fun h => b170_7 hP (b170_12 hP ?_)))))
  · by_cases q : mem 108 25 = -1
    · unfold b01 at h; rw [if_pos q] at h; exact absurd h (by decide)
    · rw [if_neg q] at k; exact k
  · by_cases q : mem 108 25 = -1
    · rw [if_pos q] at k; exact k
    · unfold b01 at h; rw [if_neg q] at h; exact absurd rfl h
/-- one sign passed -/
theorem c171 {c : Nat} (hM : RM mem r rc n tp a w g) (hc : c < 128)
    (k0 : ¬ (w = -1 ∧ g a = c) → Q (some (.int (nI 0))) (LAY, RFu r, mem)) (k1 : w = -1 → g a = c → Q (some (.int (nI 1))) (LAY, RFu r, xu2 mem 108 24 (nI (a + 1)))) : xCall (d + 2) 171 [.ref 108, .int (nI c)] (LAY, RFu r, mem) Q := by
  have g7 : mem 108 24 = nI a := hM.2.2.2.2.2.2.1
  have g9 : mem 108 25 = w := hM.2.2.2.2.2.2.2.2.1
  refine c_in rfl rfl rfl fun P hP => b171_0 hP (c169 (Bk.i (b171_4 hP (fun h => b171_15 hP (Or.inl rfl) (k0 (fun q => ?_))) (fun h => b171_7 hP (c168 hM (Bk.i (b171_11 hP (fun h2 => b171_17 hP (Or.inr rfl) ?_) (fun h2 => b171_15 hP (Or.inl rfl) (k0 (fun q => h2 ((hr_eq hc).mpr q.2))))))))))) 
  · unfold b01 at h; rw [g9, if_pos q.1] at h; exact absurd h (by decide)
  · rw [g7, nIs]
    refine k1 ?_ ((hr_eq hc).mp h2)
    by_cases q : w = -1
    · exact q
    · unfold b01 at h; rw [g9, if_neg q] at h; exact absurd rfl h
end C
