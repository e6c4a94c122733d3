/-- up to d digits from a on: where they end, and the number (v: what was read ahead of them) -/
def numF (g : Nat → Nat) : Nat → Nat → Nat → Nat × Nat
  | 0, a, v => (a, v)
  | d + 1, a, v => if 48 ≤ g a ∧ g a ≤ 57 then numF g d (a + 1) (10 * v + (g a - 48)) else (a, v)
theorem numF_s {g : Nat → Nat} {d a v : Nat} : numF g (d + 1) a v = if 48 ≤ g a ∧ g a ≤ 57 then numF g d (a + 1) (10 * v + (g a - 48)) else (a, v) := rfl
theorem numF_le {g : Nat → Nat} : ∀ {d a v : Nat}, a ≤ (numF g d a v).1 ∧ (numF g d a v).1 ≤ a + d ∧ (numF g d a v).2 < (v + 1) * 10 ^ d
  | 0, a, v => ⟨Nat.le_refl _, Nat.le_refl _, by show v < (v + 1) * 1; omega⟩
  | d + 1, a, v => by
    unfold numF
    have h10 : 0 < 10 ^ d := Nat.pow_pos (by decide)
    split
    · have ih := numF_le (g := g) (d := d) (a := a + 1) (v := 10 * v + (g a - 48))
      refine ⟨by omega, by omega, Nat.lt_of_lt_of_le ih.2.2 ?_⟩
      rw [Nat.pow_succ, ← Nat.mul_assoc, Nat.mul_right_comm]
      exact Nat.mul_le_mul_right _ (by omega)
    · refine ⟨Nat.le_refl _, by omega, ?_⟩
      show v < (v + 1) * 10 ^ (d + 1)
      exact Nat.lt_of_lt_of_le (Nat.lt_succ_self v) (Nat.le_mul_of_pos_right _ (Nat.pow_pos (by decide)))
theorem hr_dv {x : Nat} (h : 48 ≤ x ∧ x ≤ 57) : hr x = nI x := by
  have h' : ∀ x < 58, 48 ≤ x ∧ x ≤ 57 → hr x = nI x := by decide +kernel
  exact h' x (by omega) h
theorem hr_in {x : Nat} (hx : x ≤ 256) : (nI 48 ≤ hr x ∧ hr x ≤ nI 57) ↔ (48 ≤ x ∧ x ≤ 57) := by
  have h : ∀ x < 257, (nI 48 ≤ hr x ∧ hr x ≤ nI 57) ↔ (48 ≤ x ∧ x ≤ 57) := by decide +kernel
  exact h x (by omega)
section C
variable {d r : Nat} {mem : Nat → Nat → Int32} {Q : xQr} {rc n tp a : Nat} {w : Int32} {g : Nat → Nat}
theorem c172 {dd : Nat} (hM : RM mem r rc n tp a (-1) g) (ha : a < 1000) (hd : dd ≤ 3)
    (k : ∀ mem', AgM [] [24, 25] mem mem' → mem' 108 24 = nI (numF g dd a 0).1 → mem' 108 25 = (if (numF g dd a 0).1 = a then nI a else -1) → Q (some (.int (nI (numF g dd a 0).2))) (LAY, RFu r, mem')) : xCall (d + 3) 172 [.ref 108, .int (nI dd)] (LAY, RFu r, mem) Q := by
  have g9 : mem 108 25 = -1 := hM.2.2.2.2.2.2.2.2.1
  have g7 : mem 108 24 = nI a := hM.2.2.2.2.2.2.1
  refine c_in rfl rfl rfl fun P hP => b172_0 hP (c169 (Bk.i (b172_4 hP (fun _ => b172_9 hP ?_) (fun h => ?_))))
  · rw [g7]
    have main : ∀ j m' b v, b + j = a + dd → a ≤ b → v < 10 ^ (dd - j) → AgM [] [24, 25] mem m' → m' 108 25 = -1 → m' 108 24 = nI b → numF g dd a 0 = numF g j b v → P 16 [.ref 108, .int (nI dd), .int (nI a), .int (nI v)] [] (0, 0) (LAY, RFu r, m') := by
      intro j
      induction j with
      | zero =>
        intro m' b v hb hab hv hA h25 h24 hnum
        refine b172_16 hP (fun _ => ?_) (fun h => absurd ?_ h)
        · have hnum : numF g dd a 0 = (b, v) := hnum
          rw [hnum] at k
          refine b172_66 hP (fun h => b172_82 hP (k m' hA h24 ?_)) (fun h => b172_74 hP (c170 (Bk.v (b172_82 hP (k _ ?_ ?_ ?_)))))
          · rw [h24] at h
            rw [if_neg (fun q => h (by rw [show b = a from q])), h25]
          · rw [if_pos h25]; exact hA.us (by simp)
          · rw [if_pos h25, xu2_eq, upd_ne (by decide), h24]
          · rw [h24] at h
            have hba : b = a := nI_inj h (by omega) (by omega)
            rw [if_pos h25, xu2_eq, upd_at, h24, if_pos hba, hba]
        · rw [h24, nI_add]
          exact nI_le (by omega) (by omega)
      | succ j ih =>
        intro m' b v hb hab hv hA h25 h24 hnum
        have hv2 : v < 1000 := Nat.lt_of_lt_of_le hv (Nat.le_trans (Nat.pow_le_pow_right (by decide) (by omega : dd - (j + 1) ≤ 3)) (by decide))
        have hM' := RM_mv hM hA (by simp) (by simp) (by simp) h24 (by omega) h25
        have hgb := RM_le hM b
        have stop : ¬ (48 ≤ g b ∧ g b ≤ 57) → P 66 [.ref 108, .int (nI dd), .int (nI a), .int (nI v)] [] (0, 0) (LAY, RFu r, m') := fun hn => by
          rw [numF_s (d := j), if_neg hn] at hnum
          rw [hnum] at k
          refine b172_66 hP (fun h => b172_82 hP (k m' hA h24 ?_)) (fun h => b172_74 hP (c170 (Bk.v (b172_82 hP (k _ ?_ ?_ ?_)))))
          · rw [h24] at h
            rw [if_neg (fun q => h (by rw [show b = a from q])), h25]
          · rw [if_pos h25]; exact hA.us (by simp)
          · rw [if_pos h25, xu2_eq, upd_ne (by decide), h24]
          · rw [h24] at h
            have hba : b = a := nI_inj h (by omega) (by omega)
            rw [if_pos h25, xu2_eq, upd_at, h24, if_pos hba, hba]
        refine b172_16 hP (fun h => absurd h ?_) (fun _ => b172_26 hP (c168 hM' (Bk.i (b172_30 hP (c158 (Bk.i (b172_37 hP (fun h => stop ?_) (fun h => b172_40 hP (c168 hM' (Bk.i (b172_48 hP ?_)))))))))))
        · rw [h24, nI_add]
          exact nI_ge (by omega) (by omega)
        · intro q
          unfold b01 at h
          rw [if_pos ((hr_in hgb).mpr q)] at h
          exact absurd h (by decide)
        · have q : 48 ≤ g b ∧ g b ≤ 57 := Decidable.by_contra fun q => h (by unfold b01; rw [if_neg (fun z => q ((hr_in hgb).mp z))])
          rw [hr_dv q, nI_mul, nI_add, nI_sub (by omega), h24, nIs]
          rw [numF_s (d := j), if_pos q] at hnum
          rw [show 10 * v + g b - 48 = 10 * v + (g b - 48) by omega]
          refine ih _ (b + 1) _ (by omega) (by omega) ?_ (hA.us (by simp)) (by rw [xu2_eq, upd_ne (by decide), h25]) (by rw [xu2_eq, upd_at]) hnum
          have e : 10 ^ (dd - j) = 10 * 10 ^ (dd - (j + 1)) := by rw [← Nat.pow_succ']; congr 1; omega
          rw [e]
          omega
    exact main dd mem a 0 rfl (Nat.le_refl _) (Nat.pow_pos (by decide)) AgM.rfl' g9 g7 rfl
  · unfold b01 at h
    rw [if_pos g9] at h
    exact absurd h (by decide)
/-- behind a fault nothing is read -/
theorem c172f {x : Int32} (hw : mem 108 25 ≠ -1) (k : Q (some (.int (nI 0))) (LAY, RFu r, mem)) : xCall (d + 2) 172 [.ref 108, .int x] (LAY, RFu r, mem) Q := by
  refine c_in rfl rfl rfl fun P hP => b172_0 hP (c169 (Bk.i (b172_4 hP (fun h => absurd ?_ h) (fun h => b172_7 hP k))))
  unfold b01
  rw [if_neg hw]
end C
