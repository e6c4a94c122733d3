/-! what the class's methods of State and Clock do -/
theorem n8 : ¬ nI 8 ≤ nI 0 := by decide
theorem nIz (a : Nat) : nI 0 + nI a = nI a := by rw [nI_add, Nat.zero_add]
theorem pick_s {w : Nat → Int32} {S : Nat → Bool} {n : Nat} : pick w S (n + 1) = (match pick w S n with | none => if S n = true then some n else none | some b => if (S n && decide (w b < w n)) = true then some n else some b) := rfl
theorem c_in {d M : Nat} {As L0 : List Value} {Q : xQr} {σ : xSt} (hh : xHelper M = none) (hl : Nat.ble As.length (xL M) = true) (hL : As ++ List.replicate (xL M - As.length) .null = L0) (h : ∀ P : xPr, Cl d none M P Q → P 0 L0 [] (0, 0) σ) : xCall (d + 1) M As σ Q := c_intro hh (Nat.le_of_ble_eq_true hl) hL h
section C
variable {d r : Nat} {mem : Nat → Nat → Int32} {Q : xQr} {s t q : Nat}
theorem c60 {s1 : Nat} (hs : isState s) (hs1 : isState s1) (k : Q none (LAY, RFu r, xuA mem (s + 1) (va_cpy (mem (s1 + 1)) (mem (s + 1)) 0 0 121))) : xCall (d + 1) 60 [.ref s, .ref s1] (LAY, RFu r, mem) Q :=
  c_in rfl rfl rfl fun P hP => b60_0 hP hs hs1 k
theorem c61 {p : Nat} (hs : isState s) (hp : p < 8) (k : Q (some (.int (mem (s + 1) (8 + p)))) (LAY, RFu r, mem)) : xCall (d + 1) 61 [.ref s, .int (nI p)] (LAY, RFu r, mem) Q :=
  c_in rfl rfl rfl fun P hP => b61_0 hP hs (vpx (by omega) (by decide)) (by rw [nIx (by omega)]; exact k)
theorem c62 {x : Int32} (hs : isState s) (k : Q (some (.int (nI (mkN (fun p => decide (mem (s + 1) (8 + p) = x)) 8)))) (LAY, RFu r, mem)) : xCall (d + 1) 62 [.ref s, .int x] (LAY, RFu r, mem) Q := by
  refine c_in rfl rfl rfl fun P hP => b62_0 hP hs ?_
  refine xloop (N := 8) (G := fun n => P 4 [.ref s, .int x, .int (nI (mkN (fun p => decide (mem (s + 1) (8 + p) = x)) n)), .int (nI n)] [] (0, 0) (LAY, RFu r, mem)) ?_ ?_
  · exact b62_4 hP hs (fun _ => b62_35 hP hs k) (fun h => absurd (nI_le (Nat.le_refl 8) (by decide)) h)
  · intro n hn ih
    refine b62_4 hP hs (fun h => absurd h (nI_ge hn (by decide))) (fun _ => b62_10 hP hs (vpx (by omega) (by decide)) (fun h => ?_) (fun h => b62_23 hP hs ?_))
    · rw [nIx (by omega)] at h
      refine b62_29 hP hs ?_
      rw [nIs]
      rw [mk_f (by simp [h])] at ih
      exact ih
    · rw [nIx (by omega)] at h
      refine b62_29 hP hs ?_
      rw [nIs, mk_t hn (by simp [h])]
      exact ih
theorem c63 {x y : Int32} (hs : isState s) (k : Q (some (.int (nI (mkN (fun p => decide (mem (s + 1) p = x) && decide (mem (s + 1) (8 + p) = y)) 8)))) (LAY, RFu r, mem)) : xCall (d + 1) 63 [.ref s, .int x, .int y] (LAY, RFu r, mem) Q := by
  refine c_in rfl rfl rfl fun P hP => b63_0 hP hs ?_
  refine xloop (N := 8) (G := fun n => P 5 [.ref s, .int x, .int y, .int (nI (mkN (fun p => decide (mem (s + 1) p = x) && decide (mem (s + 1) (8 + p) = y)) n)), .int (nI n)] [] (0, 0) (LAY, RFu r, mem)) ?_ ?_
  · exact b63_5 hP hs (fun _ => b63_52 hP hs k) (fun h => absurd (nI_le (Nat.le_refl 8) (by decide)) h)
  · intro n hn ih
    refine b63_5 hP hs (fun h => absurd h (nI_ge hn (by decide))) (fun _ => b63_12 hP hs (vpx (by omega) (by decide)) (fun h => ?_) (fun h => b63_25 hP hs (vpx (by omega) (by decide)) (fun h2 => ?_) (fun h2 => b63_39 hP hs ?_)))
    · rw [nIx (by omega), Nat.zero_add] at h
      refine b63_46 hP hs ?_
      rw [nIs]
      rw [mk_f (by simp [h])] at ih
      exact ih
    · rw [nIx (by omega)] at h2
      refine b63_46 hP hs ?_
      rw [nIs]
      rw [mk_f (by simp [h2])] at ih
      exact ih
    · rw [nIx (by omega), Nat.zero_add] at h
      rw [nIx (by omega)] at h2
      refine b63_46 hP hs ?_
      rw [nIs, mk_t hn (by simp [h, h2])]
      exact ih
/-- the sum of the first n -/
def sumI (f : Nat → Int32) : Nat → Int32
  | 0 => nI 0
  | n + 1 => sumI f n + f n
theorem c64 (hs : isState s) (k : Q (some (.int (sumI (fun p => mem (s + 1) (40 + p)) 8))) (LAY, RFu r, mem)) : xCall (d + 1) 64 [.ref s] (LAY, RFu r, mem) Q := by
  refine c_in rfl rfl rfl fun P hP => b64_0 hP hs ?_
  refine xloop (N := 8) (G := fun n => P 4 [.ref s, .int (sumI (fun p => mem (s + 1) (40 + p)) n), .int (nI n)] [] (0, 0) (LAY, RFu r, mem)) ?_ ?_
  · exact b64_4 hP hs (fun _ => b64_28 hP hs k) (fun h => absurd (nI_le (Nat.le_refl 8) (by decide)) h)
  · intro n hn ih
    refine b64_4 hP hs (fun h => absurd h (nI_ge hn (by decide))) (fun _ => b64_10 hP hs (vpx (by omega) (by decide)) ?_)
    rw [nIs, nIx (by omega)]
    exact ih
theorem c237 {m : Nat} (hm : m < 256) (k : Q (some (.int (nI (cnt (fun p => m.testBit p) 8)))) (LAY, RFu r, mem)) : xCall (d + 1) 237 [.int (nI m)] (LAY, RFu r, mem) Q := by
  refine c_in rfl rfl rfl fun P hP => b237_0 hP ?_
  refine (congrArg (fun z => Q (some (.int z)) (LAY, RFu r, mem)) ?_).mpr k
  clear k
  revert m
  decide +kernel
theorem c66 {a b : Nat} (hs : isState s) (ha : a < 8) (hb : b < 8) (k : Q (some (.int (b01 (mem (s + 1) (8 + a) = 2 ∧ mem (s + 1) (8 + b) = 2 ∧ mem (s + 1) a = mem (s + 1) b)))) (LAY, RFu r, mem)) : xCall (d + 2) 66 [.ref s, .int (nI a), .int (nI b)] (LAY, RFu r, mem) Q := by
  refine c_in rfl rfl rfl fun P hP => b66_0 hP hs (c61 hs ha (Bk.i ?_))
  have f : ¬ (mem (s + 1) (8 + a) = 2 ∧ mem (s + 1) (8 + b) = 2 ∧ mem (s + 1) a = mem (s + 1) b) → P 41 [.ref s, .int (nI a), .int (nI b)] [] (0, 0) (LAY, RFu r, mem) := fun h => by
    unfold b01 at k
    rw [if_neg h] at k
    exact b66_41 hP hs (b66_42 hP hs (Or.inl rfl) k)
  refine b66_5 hP hs (fun h => f (fun q => h q.1)) (fun h => b66_9 hP hs (c61 hs hb (Bk.i (b66_14 hP hs (fun h2 => f (fun q => h2 q.2.1)) (fun h2 => b66_18 hP hs (vpx (by omega) (by decide)) (vpx (by omega) (by decide)) (fun h3 => f ?_) (fun h3 => ?_))))))
  · rw [nIz, nIz, nIc (by omega), nIc (by omega)] at h3
    exact fun q => h3 q.2.2
  · rw [nIz, nIz, nIc (by omega), nIc (by omega)] at h3
    unfold b01 at k
    rw [if_pos ⟨h, h2, h3⟩] at k
    exact b66_37 hP hs (b66_42 hP hs (Or.inr rfl) k)
end C
