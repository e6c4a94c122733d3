/-! a rule as it is read: modes 0 thing, 1 behind a thing, 2 product, 3 behind a product, 4 sum, 5 all of it -/
def isLet (x : Nat) : Bool := decide (x = 105) || decide (x = 103) || decide (x = 107) || decide (x = 115) || decide (x = 116) || decide (x = 97) || decide (x = 98) || decide (x = 99)
def rd (g : Nat → Nat) : Nat → Nat → Nat → Nat → Nat × Bool × List Int32
  | 0, _, _, a => (a, false, [])
  | f + 1, 0, deep, a =>
    if g a = 45 then ((rd g f 0 deep (a + 1)).1, (rd g f 0 deep (a + 1)).2.1, (rd g f 0 deep (a + 1)).2.2 ++ [nI 3000])
    else if g a = 40 ∧ deep < 4 then
      (if (rd g f 5 (deep + 1) (a + 1)).2.1 = true then (if g (rd g f 5 (deep + 1) (a + 1)).1 = 41 then ((rd g f 5 (deep + 1) (a + 1)).1 + 1, true, (rd g f 5 (deep + 1) (a + 1)).2.2) else ((rd g f 5 (deep + 1) (a + 1)).1, false, [])) else ((rd g f 5 (deep + 1) (a + 1)).1, false, []))
    else if 48 ≤ g a ∧ g a ≤ 57 then ((numF g 3 a 0).1, true, [nI (numF g 3 a 0).2])
    else if isLet (g a) = true then (a + 1, true, [nI (1000 + g a)])
    else (a, false, [])
  | f + 1, 1, deep, a =>
    if g a = 42 ∨ g a = 47 then
      (if (rd g f 0 deep (a + 1)).2.1 = true then ((rd g f 1 deep (rd g f 0 deep (a + 1)).1).1, (rd g f 1 deep (rd g f 0 deep (a + 1)).1).2.1, (rd g f 0 deep (a + 1)).2.2 ++ nI (2000 + g a) :: (rd g f 1 deep (rd g f 0 deep (a + 1)).1).2.2) else ((rd g f 0 deep (a + 1)).1, false, []))
    else (a, true, [])
  | f + 1, 2, deep, a =>
    if (rd g f 0 deep a).2.1 = true then ((rd g f 1 deep (rd g f 0 deep a).1).1, (rd g f 1 deep (rd g f 0 deep a).1).2.1, (rd g f 0 deep a).2.2 ++ (rd g f 1 deep (rd g f 0 deep a).1).2.2) else ((rd g f 0 deep a).1, false, [])
  | f + 1, 3, deep, a =>
    if g a = 43 ∨ g a = 45 then
      (if (rd g f 2 deep (a + 1)).2.1 = true then ((rd g f 3 deep (rd g f 2 deep (a + 1)).1).1, (rd g f 3 deep (rd g f 2 deep (a + 1)).1).2.1, (rd g f 2 deep (a + 1)).2.2 ++ nI (2000 + g a) :: (rd g f 3 deep (rd g f 2 deep (a + 1)).1).2.2) else ((rd g f 2 deep (a + 1)).1, false, []))
    else (a, true, [])
  | f + 1, 4, deep, a =>
    if (rd g f 2 deep a).2.1 = true then ((rd g f 3 deep (rd g f 2 deep a).1).1, (rd g f 3 deep (rd g f 2 deep a).1).2.1, (rd g f 2 deep a).2.2 ++ (rd g f 3 deep (rd g f 2 deep a).1).2.2) else ((rd g f 2 deep a).1, false, [])
  | f + 1, _, deep, a =>
    if (rd g f 4 deep a).2.1 = true then
      (if g (rd g f 4 deep a).1 = 60 ∨ g (rd g f 4 deep a).1 = 62 ∨ g (rd g f 4 deep a).1 = 61 then
        (if (rd g f 4 deep ((rd g f 4 deep a).1 + 1)).2.1 = true then ((rd g f 4 deep ((rd g f 4 deep a).1 + 1)).1, true, (rd g f 4 deep a).2.2 ++ ((rd g f 4 deep ((rd g f 4 deep a).1 + 1)).2.2 ++ [nI (2000 + g (rd g f 4 deep a).1)])) else ((rd g f 4 deep ((rd g f 4 deep a).1 + 1)).1, false, []))
      else rd g f 4 deep a)
    else ((rd g f 4 deep a).1, false, [])
theorem rd_0 {g : Nat → Nat} {f deep a : Nat} : rd g (f + 1) 0 deep a =
    if g a = 45 then ((rd g f 0 deep (a + 1)).1, (rd g f 0 deep (a + 1)).2.1, (rd g f 0 deep (a + 1)).2.2 ++ [nI 3000])
    else if g a = 40 ∧ deep < 4 then
      (if (rd g f 5 (deep + 1) (a + 1)).2.1 = true then (if g (rd g f 5 (deep + 1) (a + 1)).1 = 41 then ((rd g f 5 (deep + 1) (a + 1)).1 + 1, true, (rd g f 5 (deep + 1) (a + 1)).2.2) else ((rd g f 5 (deep + 1) (a + 1)).1, false, [])) else ((rd g f 5 (deep + 1) (a + 1)).1, false, []))
    else if 48 ≤ g a ∧ g a ≤ 57 then ((numF g 3 a 0).1, true, [nI (numF g 3 a 0).2])
    else if isLet (g a) = true then (a + 1, true, [nI (1000 + g a)])
    else (a, false, []) := rfl
theorem rd_1 {g : Nat → Nat} {f deep a : Nat} : rd g (f + 1) 1 deep a =
    if g a = 42 ∨ g a = 47 then
      (if (rd g f 0 deep (a + 1)).2.1 = true then ((rd g f 1 deep (rd g f 0 deep (a + 1)).1).1, (rd g f 1 deep (rd g f 0 deep (a + 1)).1).2.1, (rd g f 0 deep (a + 1)).2.2 ++ nI (2000 + g a) :: (rd g f 1 deep (rd g f 0 deep (a + 1)).1).2.2) else ((rd g f 0 deep (a + 1)).1, false, []))
    else (a, true, []) := rfl
theorem rd_2 {g : Nat → Nat} {f deep a : Nat} : rd g (f + 1) 2 deep a =
    if (rd g f 0 deep a).2.1 = true then ((rd g f 1 deep (rd g f 0 deep a).1).1, (rd g f 1 deep (rd g f 0 deep a).1).2.1, (rd g f 0 deep a).2.2 ++ (rd g f 1 deep (rd g f 0 deep a).1).2.2) else ((rd g f 0 deep a).1, false, []) := rfl
theorem rd_3 {g : Nat → Nat} {f deep a : Nat} : rd g (f + 1) 3 deep a =
    if g a = 43 ∨ g a = 45 then
      (if (rd g f 2 deep (a + 1)).2.1 = true then ((rd g f 3 deep (rd g f 2 deep (a + 1)).1).1, (rd g f 3 deep (rd g f 2 deep (a + 1)).1).2.1, (rd g f 2 deep (a + 1)).2.2 ++ nI (2000 + g a) :: (rd g f 3 deep (rd g f 2 deep (a + 1)).1).2.2) else ((rd g f 2 deep (a + 1)).1, false, []))
    else (a, true, []) := rfl
theorem rd_4 {g : Nat → Nat} {f deep a : Nat} : rd g (f + 1) 4 deep a =
    if (rd g f 2 deep a).2.1 = true then ((rd g f 3 deep (rd g f 2 deep a).1).1, (rd g f 3 deep (rd g f 2 deep a).1).2.1, (rd g f 2 deep a).2.2 ++ (rd g f 3 deep (rd g f 2 deep a).1).2.2) else ((rd g f 2 deep a).1, false, []) := rfl
theorem rd_5 {g : Nat → Nat} {f deep a m : Nat} : rd g (f + 1) (m + 5) deep a =
    if (rd g f 4 deep a).2.1 = true then
      (if g (rd g f 4 deep a).1 = 60 ∨ g (rd g f 4 deep a).1 = 62 ∨ g (rd g f 4 deep a).1 = 61 then
        (if (rd g f 4 deep ((rd g f 4 deep a).1 + 1)).2.1 = true then ((rd g f 4 deep ((rd g f 4 deep a).1 + 1)).1, true, (rd g f 4 deep a).2.2 ++ ((rd g f 4 deep ((rd g f 4 deep a).1 + 1)).2.2 ++ [nI (2000 + g (rd g f 4 deep a).1)])) else ((rd g f 4 deep ((rd g f 4 deep a).1 + 1)).1, false, []))
      else rd g f 4 deep a)
    else ((rd g f 4 deep a).1, false, []) := rfl
theorem numF_lim {g : Nat → Nat} {lim : Nat} (hg : ∀ i, lim ≤ i → g i = 256) : ∀ {d a v : Nat}, a ≤ lim → (numF g d a v).1 ≤ lim
  | 0, a, v, h => h
  | d + 1, a, v, h => by
    rw [numF_s]
    split
    · rename_i q
      exact numF_lim hg (d := d) (Decidable.by_contra fun z => by have := hg a (by omega); omega)
    · exact h
theorem isLet_lt {x : Nat} (h : isLet x = true) : x < 128 := by
  simp only [isLet, Bool.or_eq_true, decide_eq_true_eq] at h
  omega
/-- how far it goes -/
theorem rd_le {g : Nat → Nat} {lim : Nat} (hg : ∀ i, lim ≤ i → g i = 256) : ∀ (f m deep a : Nat), a ≤ lim → a ≤ (rd g f m deep a).1 ∧ (rd g f m deep a).1 ≤ lim ∧ ((rd g f m deep a).2.1 = true → (rd g f m deep a).2.2.length + a ≤ (rd g f m deep a).1 ∧ (m ≠ 1 → m ≠ 3 → a < (rd g f m deep a).1)) := by
  have hl : ∀ {i : Nat}, i ≤ lim → g i < 256 → i + 1 ≤ lim := fun {i} h1 h2 => Decidable.by_contra fun z => by have := hg i (by omega); omega
  intro f
  induction f with
  | zero => intro m deep a ha; exact ⟨Nat.le_refl _, ha, fun h => by cases h⟩
  | succ f ih =>
    intro m deep a ha
    match m with
    | 0 =>
      rw [rd_0]
      split
      · have h1 := ih 0 deep (a + 1) (hl ha (by omega))
        refine ⟨by omega, h1.2.1, fun h => ?_⟩
        have := h1.2.2 h
        simp only [List.length_append, List.length_singleton]
        exact ⟨by omega, fun _ _ => by omega⟩
      · split
        · have h1 := ih 5 (deep + 1) (a + 1) (hl ha (by omega))
          split
          · rename_i q
            have h2 := h1.2.2 q
            split
            · have := hl h1.2.1 (by omega)
              exact ⟨by dsimp only; omega, by dsimp only; omega, fun _ => ⟨by dsimp only; omega, fun _ _ => by dsimp only; omega⟩⟩
            · exact ⟨by dsimp only; omega, h1.2.1, fun h => by cases h⟩
          · exact ⟨by dsimp only; omega, h1.2.1, fun h => by cases h⟩
        · split
          · rename_i q
            have h1 := numF_le (g := g) (d := 3) (a := a) (v := 0)
            have h2 := numF_lim hg (d := 3) (v := 0) ha
            have h3 : a < (numF g 3 a 0).1 := by
              rw [numF_s, if_pos q]
              exact (numF_le (g := g) (d := 2) (a := a + 1)).1
            exact ⟨h1.1, h2, fun _ => ⟨by simp only [List.length_singleton]; omega, fun _ _ => h3⟩⟩
          · split
            · rename_i q
              exact ⟨by dsimp only; omega, hl ha (by have := isLet_lt q; omega), fun _ => ⟨by simp only [List.length_singleton]; omega, fun _ _ => by dsimp only; omega⟩⟩
            · exact ⟨Nat.le_refl _, ha, fun h => by cases h⟩
    | 1 =>
      rw [rd_1]
      split
      · have h1 := ih 0 deep (a + 1) (hl ha (by omega))
        split
        · rename_i q
          have h2 := h1.2.2 q
          have h3 := ih 1 deep _ h1.2.1
          refine ⟨by dsimp only; omega, h3.2.1, fun h => ?_⟩
          have h4 := h3.2.2 h
          simp only [List.length_append, List.length_cons]
          exact ⟨by omega, fun z => absurd rfl z⟩
        · exact ⟨by dsimp only; omega, h1.2.1, fun h => by cases h⟩
      · exact ⟨Nat.le_refl _, ha, fun _ => ⟨by simp, fun z => absurd rfl z⟩⟩
    | 2 =>
      rw [rd_2]
      have h1 := ih 0 deep a ha
      split
      · rename_i q
        have h2 := h1.2.2 q
        have h3 := ih 1 deep _ h1.2.1
        refine ⟨by dsimp only; omega, h3.2.1, fun h => ?_⟩
        have h4 := h3.2.2 h
        have h5 := h2.2 (by decide) (by decide)
        simp only [List.length_append]
        exact ⟨by omega, fun _ _ => by omega⟩
      · exact ⟨h1.1, h1.2.1, fun h => by cases h⟩
    | 3 =>
      rw [rd_3]
      split
      · have h1 := ih 2 deep (a + 1) (hl ha (by omega))
        split
        · rename_i q
          have h2 := h1.2.2 q
          have h3 := ih 3 deep _ h1.2.1
          refine ⟨by dsimp only; omega, h3.2.1, fun h => ?_⟩
          have h4 := h3.2.2 h
          simp only [List.length_append, List.length_cons]
          exact ⟨by omega, fun _ z => absurd rfl z⟩
        · exact ⟨by dsimp only; omega, h1.2.1, fun h => by cases h⟩
      · exact ⟨Nat.le_refl _, ha, fun _ => ⟨by simp, fun _ z => absurd rfl z⟩⟩
    | 4 =>
      rw [rd_4]
      have h1 := ih 2 deep a ha
      split
      · rename_i q
        have h2 := h1.2.2 q
        have h3 := ih 3 deep _ h1.2.1
        refine ⟨by dsimp only; omega, h3.2.1, fun h => ?_⟩
        have h4 := h3.2.2 h
        have h5 := h2.2 (by decide) (by decide)
        simp only [List.length_append]
        exact ⟨by omega, fun _ _ => by omega⟩
      · exact ⟨h1.1, h1.2.1, fun h => by cases h⟩
    | m + 5 =>
      rw [rd_5]
      have h1 := ih 4 deep a ha
      split
      · rename_i q
        have h2 := h1.2.2 q
        have h5 := h2.2 (by decide) (by decide)
        split
        · have h3 := ih 4 deep _ (hl h1.2.1 (by omega))
          split
          · rename_i q2
            have h4 := h3.2.2 q2
            refine ⟨by dsimp only; omega, h3.2.1, fun _ => ?_⟩
            simp only [List.length_append, List.length_singleton]
            exact ⟨by omega, fun _ _ => by omega⟩
          · exact ⟨by dsimp only; omega, h3.2.1, fun h => by cases h⟩
        · exact ⟨h1.1, h1.2.1, fun _ => ⟨h2.1, fun _ _ => h5⟩⟩
      · exact ⟨h1.1, h1.2.1, fun h => by cases h⟩
