/-! what makes the cells: the machine run on lists -/
abbrev xE0 : Type := List (Nat × Nat) × List (List Nat) × List (Nat × Nat × Int32)
def lk : List (Nat × Nat × Int32) → Nat → Nat → Int32
  | [], _, _ => 0
  | (c', j', x) :: t, c, j => if c = c' ∧ j = j' then x else lk t c j
theorem lk_c {t : List (Nat × Nat × Int32)} {c j : Nat} {x : Int32} : lk ((c, j, x) :: t) = xu2 (lk t) c j x := by
  funext a b
  show (if a = c ∧ b = j then x else lk t a b) = if a = c then (if b = j then x else lk t c b) else lk t a b
  by_cases h : a = c
  · subst h
    by_cases h2 : b = j
    · rw [if_pos ⟨rfl, h2⟩, if_pos rfl, if_pos h2]
    · rw [if_neg (fun q => h2 q.2), if_pos rfl, if_neg h2]
  · rw [if_neg (fun q => h q.1), if_neg h]
def lkF (n : Nat) : List (Nat × Nat × Int32) → List (Nat × Nat × Int32)
  | [] => []
  | (c, j, x) :: t => if c < n then (c, j, x) :: lkF n t else lkF n t
theorem lk_f {n : Nat} : ∀ {t : List (Nat × Nat × Int32)}, lk (lkF n t) = xz (lk t) n
  | [] => by
    funext a b
    show (0 : Int32) = if a < n then 0 else 0
    split <;> rfl
  | (c, j, x) :: t => by
    have ih := lk_f (n := n) (t := t)
    funext a b
    have ih' : lk (lkF n t) a b = if a < n then lk t a b else 0 := by rw [ih]; rfl
    show lk (if c < n then (c, j, x) :: lkF n t else lkF n t) a b = if a < n then (if a = c ∧ b = j then x else lk t a b) else 0
    by_cases h : c < n
    · rw [if_pos h]
      show (if a = c ∧ b = j then x else lk (lkF n t) a b) = _
      by_cases h2 : a = c ∧ b = j
      · have ha : a < n := by omega
        rw [if_pos h2, if_pos ha, if_pos h2]
      · rw [if_neg h2, ih', if_neg h2]
    · rw [if_neg h, ih']
      by_cases h2 : a < n
      · rw [if_pos h2, if_pos h2, if_neg (by omega)]
      · rw [if_neg h2, if_neg h2]
def aS (σ : xE0) : xSt := (σ.1, σ.2.1, lk σ.2.2)
def okB (lay : List (Nat × Nat)) (rf : List (List Nat)) (L S : List Value) : Bool := decide (rf.length = lay.length) && rf.all (fun row => row.all (fun r => decide (r ≤ lay.length))) && L.all (xrOK lay.length) && S.all (xrOK lay.length) && decide (lay.length < 99000)
theorem okB_ok {lay : List (Nat × Nat)} {rf : List (List Nat)} {L S : List Value} (h : okB lay rf L S = true) : xOK lay rf L S := by
  simp only [okB, Bool.and_eq_true, decide_eq_true_eq, List.all_eq_true] at h
  exact ⟨h.1.1.1.1, fun row hr r hx => h.1.1.1.2 row hr r hx, h.1.1.2, h.1.2, h.2⟩
def callB (M M' : Nat) (L r : List Value) (u : Nat × Nat) (σ : xE0) : Bool := decide (xThrows M' = false) && decide (M' < 243) && decide ((r.map Value.category).sum ≤ 8) && decide (u.1 + (xAl M').1 ≤ (xAl M).1) && decide (u.2 + (xAl M').2 ≤ (xAl M).2) && decide (xGrow M = true) && okB σ.1 σ.2.1 L r
theorem callB_ok {M M' : Nat} {L r : List Value} {u : Nat × Nat} {σ : xE0} (h : callB M M' L r u σ = true) : xCallOK M M' L r u (aS σ) := by
  simp only [callB, Bool.and_eq_true, decide_eq_true_eq] at h
  obtain ⟨⟨⟨⟨⟨⟨h1, h2⟩, h3⟩, h4⟩, h5⟩, h6⟩, h7⟩ := h
  exact ⟨h1, h2, h3, h4, h5, fun _ => ⟨h6, okB_ok h7⟩⟩
def cndB : Jvm.ClassFile.Cond → Int32 → Int32 → Bool
  | .eq, x, y => decide (x = y)
  | .ne, x, y => decide (¬ x = y)
  | .lt, x, y => decide (x < y)
  | .ge, x, y => decide (y ≤ x)
  | .gt, x, y => decide (y < x)
  | .le, x, y => decide (x ≤ y)
theorem cndB_ok {c : Jvm.ClassFile.Cond} {x y : Int32} : cndB c x y = true ↔ xCnd c x y := by
  cases c <;> simp [cndB, xCnd]
def eI (CW : Nat → List Value → xE0 → Option xE0) (go : Nat → List Value → List Value → Nat × Nat → xE0 → Option xE0) (M pc : Nat) (L S : List Value) (u : Nat × Nat) (σ : xE0) (len : Nat) : Instr → Option xE0
  | .iconst n => if len = 1 then go (pc + 1) L (.int (Int32.ofInt n) :: S) u σ else none
  | .bipush n => if len = 2 then go (pc + 2) L (.int (Int8.ofInt n).toInt32 :: S) u σ else none
  | .sipush n => if len = 3 then go (pc + 3) L (.int (Int16.ofInt n).toInt32 :: S) u σ else none
  | .ldc k => match xKR (xC M) k with
    | some (v, _) => if len = 2 then go (pc + 2) L (.int v :: S) u σ else none
    | none => none
  | .iload_n k => match L[(k : Nat)]? with
    | some (.int x) => if len = 1 then go (pc + 1) L (.int x :: S) u σ else none
    | _ => none
  | .aload_n k => match L[(k : Nat)]? with
    | some (.ref x) => if len = 1 then go (pc + 1) L (.ref x :: S) u σ else none
    | _ => none
  | .istore_n k => match S with
    | .int x :: r => if len = 1 ∧ (k : Nat) < L.length then go (pc + 1) (L.set k (.int x)) r u σ else none
    | _ => none
  | .iinc k n => match L[k]? with
    | some (.int x) => if len = 3 then go (pc + 3) (L.set k (.int (x + Int32.ofInt n))) S u σ else none
    | _ => none
  | .iadd => match S with
    | .int y :: .int x :: r => if len = 1 then go (pc + 1) L (.int (x + y) :: r) u σ else none
    | _ => none
  | .dup => match S with
    | v :: r => if len = 1 ∧ v.category = 1 then go (pc + 1) L (v :: v :: r) u σ else none
    | _ => none
  | .goto off => if len = 3 ∧ 0 ≤ (pc : Int) + off then go ((pc : Int) + off).toNat L S u σ else none
  | .if_icmp c off => match S with
    | .int y :: .int x :: r => if len = 3 ∧ 0 ≤ (pc : Int) + off then (if cndB c x y = true then go ((pc : Int) + off).toNat L r u σ else go (pc + 3) L r u σ) else none
    | _ => none
  | .getfield k => match S with
    | .ref o :: r => match xFR (xC M) k with
      | some (ci, j) => if len = 3 ∧ σ.1[o]? = some (ci, xNF ci) then go (pc + 3) L ((if xRF ci j then xav ((σ.2.1.getD o []).getD j 0) else .int (lk σ.2.2 o j)) :: r) u σ else none
      | none => none
    | _ => none
  | .putfield k => match S with
    | .int x :: .ref o :: r => match xFR (xC M) k with
      | some (ci, j) => if len = 3 ∧ σ.1[o]? = some (ci, xNF ci) ∧ (xFn ci j = true → xInit M = true ∧ ci = xC M) ∧ xRF ci j = false then go (pc + 3) L r u (σ.1, σ.2.1, (o, j, x) :: σ.2.2) else none
      | none => none
    | .ref a :: .ref o :: r => match xFR (xC M) k with
      | some (ci, j) => if len = 3 ∧ σ.1[o]? = some (ci, xNF ci) ∧ (xFn ci j = true → xInit M = true ∧ ci = xC M) ∧ xRF ci j = true ∧ o < σ.2.1.length ∧ j < (σ.2.1.getD o []).length then go (pc + 3) L r u (σ.1, xrs σ.2.1 o j (a + 1), σ.2.2) else none
      | none => none
    | _ => none
  | .iastore => match S with
    | .int x :: .int i :: .ref a :: r => match σ.1[a]? with
      | some (kk, n) => if len = 1 ∧ kk = 13 ∧ ¬ (i < 0 ∨ n ≤ i.toNatClampNeg) then go (pc + 1) L r u (σ.1, σ.2.1, (a, i.toNatClampNeg, x) :: σ.2.2) else none
      | none => none
    | _ => none
  | .newarray t => match S with
    | .int x :: r => if len = 2 ∧ ¬ x < 0 ∧ x.toNatClampNeg ≤ 65536 ∧ xAt t < 99 ∧ xGrow M = true ∧ u.1 + 1 ≤ (xAl M).1 ∧ u.2 + x.toNatClampNeg ≤ (xAl M).2 ∧ okB σ.1 σ.2.1 L r = true then
        go (pc + 2) L (.ref σ.1.length :: r) (u.1 + 1, u.2 + x.toNatClampNeg) (σ.1 ++ [(xAt t, x.toNatClampNeg)], σ.2.1 ++ [[]], lkF σ.1.length σ.2.2) else none
    | _ => none
  | .multianewarray k d => match S with
    | .int y :: .int x :: r => match xAR (xC M) k with
      | some (kk, _) => if d = 2 ∧ len = 4 ∧ ¬ x < 0 ∧ ¬ y < 0 ∧ x.toNatClampNeg ≤ 1000 ∧ y.toNatClampNeg ≤ 65536 ∧ xGrow M = true ∧ u.1 + (1 + x.toNatClampNeg) ≤ (xAl M).1 ∧ u.2 + (x.toNatClampNeg + x.toNatClampNeg * y.toNatClampNeg) ≤ (xAl M).2 ∧ okB σ.1 σ.2.1 L r = true ∧ σ.1.length + x.toNatClampNeg < 90000 then
          go (pc + 4) L (.ref σ.1.length :: r) (u.1 + 1 + x.toNatClampNeg, u.2 + x.toNatClampNeg + x.toNatClampNeg * y.toNatClampNeg) (σ.1 ++ ((kk + 4, x.toNatClampNeg) :: List.replicate x.toNatClampNeg (kk, y.toNatClampNeg)), σ.2.1 ++ ((List.range x.toNatClampNeg).map (fun i => σ.1.length + 2 + i) :: List.replicate x.toNatClampNeg []), lkF σ.1.length σ.2.2) else none
      | none => none
    | _ => none
  | .new k => match xNR (xC M) k with
    | some (ci, _) => if len = 3 ∧ xGrow M = true ∧ u.1 + 1 ≤ (xAl M).1 ∧ u.2 + xNF ci ≤ (xAl M).2 ∧ okB σ.1 σ.2.1 L S = true then go (pc + 3) L (.ref σ.1.length :: S) (u.1 + 1, u.2 + xNF ci) (σ.1 ++ [(ci, xNF ci)], σ.2.1 ++ [List.replicate (xNF ci) 0], lkF σ.1.length σ.2.2) else none
    | none => none
  | .invokespecial k => match xCR (xC M) k with
    | some (z, kd) => if kd = 4 then (match S with
        | .ref _ :: r => if len = 3 ∧ (r.map Value.category).sum ≤ 8 then go (pc + 3) L r u σ else none
        | _ => none)
      else if kd = 2 ∨ kd = 3 then (match S.drop (xN z) with
        | .ref b :: r => if len = 3 ∧ (S.take (xN z)).length = xN z ∧ (S.take (xN z)).all (fun v => decide (v.category = 1)) = true ∧ callB M z L r u σ = true then (match CW z (.ref b :: (S.take (xN z)).reverse) σ with
            | some σ1 => go (pc + 3) L r (u.1 + (xAl z).1, u.2 + (xAl z).2) σ1
            | none => none) else none
        | _ => none)
      else none
    | none => none
  | .return_ => if len = 1 ∧ S.isEmpty = true ∧ (xRt M).isNone = true then some σ else none
  | _ => none
set_option maxHeartbeats 2000000 in
theorem eI_ok {CW : Nat → List Value → xE0 → Option xE0} {go : Nat → List Value → List Value → Nat × Nat → xE0 → Option xE0} {CX : Nat → List Value → xSt → xQr → Prop} {scr : Option (Nat × (Nat → Int32))} {M pc : Nat} {L S : List Value} {u : Nat × Nat} {σ σ' : xE0} {len : Nat} {P : xPr} {Q : xQr} {i : Instr}
    (h : eI CW go M pc L S u σ len i = some σ') (hgo : ∀ pc L S u σ, go pc L S u σ = some σ' → P pc L S u (aS σ)) (hCW : ∀ M' As σ σ1, CW M' As σ = some σ1 → ∀ Q' : xQr, Q' none (aS σ1) → CX M' As (aS σ) Q') (hQ : Q none (aS σ')) : xI CX scr M P Q pc L S u (aS σ) len i := by
  unfold eI at h
  split at h
  · -- iconst
    split at h
    · rename_i e; exact ⟨e, hgo _ _ _ _ _ h⟩
    · cases h
  · split at h
    · rename_i e; exact ⟨e, hgo _ _ _ _ _ h⟩
    · cases h
  · split at h
    · rename_i e; exact ⟨e, hgo _ _ _ _ _ h⟩
    · cases h
  · -- ldc
    split at h
    · rename_i v w e
      split at h
      · rename_i e2; exact ⟨e2, v, w, e, hgo _ _ _ _ _ h⟩
      · cases h
    · cases h
  · -- iload_n
    split at h
    · rename_i x e
      split at h
      · rename_i e2; exact ⟨e2, x, e, hgo _ _ _ _ _ h⟩
      · cases h
    · cases h
  · -- aload_n
    split at h
    · rename_i x e
      split at h
      · rename_i e2; exact ⟨e2, x, e, hgo _ _ _ _ _ h⟩
      · cases h
    · cases h
  · -- istore_n
    split at h
    · rename_i x r
      split at h
      · rename_i e2; exact ⟨e2.1, x, r, rfl, e2.2, hgo _ _ _ _ _ h⟩
      · cases h
    · cases h
  · -- iinc
    split at h
    · rename_i x e
      split at h
      · rename_i e2; exact ⟨e2, x, e, hgo _ _ _ _ _ h⟩
      · cases h
    · cases h
  · -- iadd
    split at h
    · rename_i y x r
      split at h
      · rename_i e2; exact ⟨e2, y, x, r, rfl, hgo _ _ _ _ _ h⟩
      · cases h
    · cases h
  · -- dup
    split at h
    · rename_i v r
      split at h
      · rename_i e2; exact ⟨e2.1, v, r, rfl, e2.2, hgo _ _ _ _ _ h⟩
      · cases h
    · cases h
  · -- goto
    split at h
    · rename_i e2; exact ⟨e2.1, _, (Int.toNat_of_nonneg e2.2).symm, hgo _ _ _ _ _ h⟩
    · cases h
  · -- if_icmp
    split at h
    · rename_i c off y x r
      split at h
      · rename_i e2
        refine ⟨e2.1, y, x, r, rfl, _, (Int.toNat_of_nonneg e2.2).symm, fun hc => ?_, fun hc => ?_⟩
        · rw [if_pos (cndB_ok.mpr hc)] at h
          exact hgo _ _ _ _ _ h
        · rw [if_neg (fun q => hc (cndB_ok.mp q))] at h
          exact hgo _ _ _ _ _ h
      · cases h
    · cases h
  · -- getfield
    split at h
    · rename_i o r
      split at h
      · rename_i ci j e
        split at h
        · rename_i e2; exact ⟨e2.1, o, r, ci, j, rfl, e, e2.2, hgo _ _ _ _ _ h⟩
        · cases h
      · cases h
    · cases h
  · -- putfield
    split at h
    · rename_i x o r
      split at h
      · rename_i ci j e
        split at h
        · rename_i e2
          refine ⟨e2.1, _, o, r, ci, j, rfl, e, e2.2.1, e2.2.2.1, Or.inl ⟨e2.2.2.2, x, rfl, ?_⟩⟩
          have := hgo _ _ _ _ _ h
          unfold aS at this
          dsimp only at this
          rw [lk_c] at this
          exact this
        · cases h
      · cases h
    · rename_i a o r
      split at h
      · rename_i ci j e
        split at h
        · rename_i e2
          exact ⟨e2.1, _, o, r, ci, j, rfl, e, e2.2.1, e2.2.2.1, Or.inr ⟨e2.2.2.2.1, e2.2.2.2.2.1, e2.2.2.2.2.2, a, rfl, hgo _ _ _ _ _ h⟩⟩
        · cases h
      · cases h
    · cases h
  · -- iastore
    split at h
    · rename_i x i a r
      split at h
      · rename_i kk n e
        split at h
        · rename_i e2
          obtain ⟨e3, e4, e5⟩ := e2
          subst e4
          refine ⟨e3, x, i, a, r, n, rfl, e5, e, ?_⟩
          have := hgo _ _ _ _ _ h
          unfold aS at this
          dsimp only at this
          rw [lk_c] at this
          exact this
        · cases h
      · cases h
    · cases h
  · -- newarray
    split at h
    · rename_i x r
      split at h
      · rename_i e
        obtain ⟨e1, e2, e3, e4, e5, e6, e7, e8⟩ := e
        refine ⟨e1, x, r, _, rfl, e2, rfl, e3, e4, e5, e6, e7, okB_ok e8, ?_⟩
        have := hgo _ _ _ _ _ h
        unfold aS at this
        dsimp only at this
        rw [lk_f] at this
        exact this
      · cases h
    · cases h
  · -- multianewarray
    split at h
    · rename_i y x r
      split at h
      · rename_i kk w e0
        split at h
        · rename_i e
          obtain ⟨e1, e2, e3, e4, e5, e6, e7, e8, e9, e10, e11⟩ := e
          refine ⟨e1, e2, y, x, r, _, _, kk, w, rfl, e3, e4, rfl, rfl, e5, e6, e0, e7, e8, e9, okB_ok e10, e11, ?_⟩
          have := hgo _ _ _ _ _ h
          unfold aS at this
          dsimp only at this
          rw [lk_f] at this
          exact this
        · cases h
      · cases h
    · cases h
  · -- new
    split at h
    · rename_i ci w e0
      split at h
      · rename_i e
        obtain ⟨e1, e2, e3, e4, e5⟩ := e
        refine ⟨e1, Or.inl ⟨ci, w, e0, e2, e3, e4, okB_ok e5, ?_⟩⟩
        have := hgo _ _ _ _ _ h
        unfold aS at this
        dsimp only at this
        rw [lk_f] at this
        exact this
      · cases h
    · cases h
  · -- invokespecial
    split at h
    · rename_i z kd e0
      split at h
      · rename_i e4
        subst e4
        split at h
        · rename_i o r
          split at h
          · rename_i e; exact ⟨e.1, Or.inl ⟨z, o, r, e0, rfl, e.2, hgo _ _ _ _ _ h⟩⟩
          · cases h
        · cases h
      · split at h
        · rename_i _ e23
          split at h
          · rename_i b r ed
            split at h
            · rename_i e
              obtain ⟨e1, e2, e3, e5⟩ := e
              split at h
              · rename_i σ1 e6
                refine ⟨e1, Or.inr ⟨z, kd, (S.take (xN z)).reverse, b, r, e0, e23, by rw [List.length_reverse]; exact e2, fun v hv => ?_, ?_, callB_ok e5, hCW _ _ _ _ e6 _ ⟨(fun q => by cases q), hgo _ _ _ _ _ h⟩⟩⟩
                · exact of_decide_eq_true (List.all_eq_true.mp e3 v (List.mem_reverse.mp hv))
                · rw [List.reverse_reverse, ← ed, List.take_append_drop]
              · cases h
            · cases h
          · cases h
        · cases h
    · cases h
  · -- return
    split at h
    · rename_i e
      obtain ⟨e1, e2, e3⟩ := e
      cases h
      exact ⟨e1, List.isEmpty_iff.mp e2, Option.isNone_iff_eq_none.mp e3, hQ⟩
    · cases h
  · cases h
def evg (CW : Nat → List Value → xE0 → Option xE0) (M : Nat) : Nat → Nat → List Value → List Value → Nat × Nat → xE0 → Option xE0
  | 0, _, _, _, _, _ => none
  | f + 1, pc, L, S, u, σ => match decode (xB M) pc with
    | .ok (i, len) => eI CW (evg CW M f) M pc L S u σ len i
    | _ => none
def ev : Nat → Nat → List Value → xE0 → Option xE0
  | 0, _, _, _ => none
  | d + 1, M, As, σ => if (xHelper M).isNone = true ∧ As.length ≤ xL M then evg (ev d) M 400 0 (As ++ List.replicate (xL M - As.length) .null) [] (0, 0) σ else none
theorem evg_ok {CW : Nat → List Value → xE0 → Option xE0} {CX : Nat → List Value → xSt → xQr → Prop} {scr : Option (Nat × (Nat → Int32))} {M : Nat} {σ' : xE0} {P : xPr} {Q : xQr} (hCW : ∀ M' As σ σ1, CW M' As σ = some σ1 → ∀ Q' : xQr, Q' none (aS σ1) → CX M' As (aS σ) Q') (hQ : Q none (aS σ')) (hP : ∀ pc L S u σ, xStep CX scr M P Q pc L S u σ → P pc L S u σ) :
    ∀ f pc L S u σ, evg CW M f pc L S u σ = some σ' → P pc L S u (aS σ) := by
  intro f
  induction f with
  | zero => intro pc L S u σ h; cases h
  | succ f ih =>
    intro pc L S u σ h
    refine hP _ _ _ _ _ ?_
    have hx : (match decode (xB M) pc with
      | .ok (i, len) => eI CW (evg CW M f) M pc L S u σ len i
      | _ => none) = some σ' := h
    obtain ⟨i, len, hd⟩ : ∃ i len, decode (xB M) pc = .ok (i, len) := by
      cases hd : decode (xB M) pc with
      | error z => rw [hd] at hx; cases hx
      | ok q => exact ⟨q.1, q.2, rfl⟩
    have he : eI CW (evg CW M f) M pc L S u σ len i = some σ' := by
      rw [hd] at hx
      exact hx
    have hg : xI CX scr M P Q pc L S u (aS σ) len i := eI_ok he ih hCW hQ
    show (match decode (xB M) pc with
      | .ok (i, len) => xI CX scr M P Q pc L S u (aS σ) len i
      | _ => False)
    rw [hd]
    exact hg
theorem ev_ok : ∀ d M As σ σ', ev d M As σ = some σ' → ∀ Q : xQr, Q none (aS σ') → xCall d M As (aS σ) Q := by
  intro d
  induction d with
  | zero => intro M As σ σ' h; cases h
  | succ d ih =>
    intro M As σ σ' h Q hQ
    unfold ev at h
    split at h
    · rename_i e
      exact Or.inl ⟨Option.isNone_iff_eq_none.mp e.1, e.2, fun P hP => evg_ok ih hQ hP _ _ _ _ _ _ h⟩
    · cases h
def al97 : List (Nat × Nat × Int32) := [(95, 2, nI 1), (96, 0, nI 1116), (83, 7, (-1)), (83, 6, (-1)), (83, 5, (-1)), (83, 4, (-1)), (83, 3, (-1)), (83, 2, (-1)), (83, 1, (-1)), (83, 0, (-1)), (77, 1, (-1)), (77, 0, (-1)), (50, 7, (-1)), (50, 6, (-1)), (50, 5, (-1)), (50, 4, (-1)), (50, 3, (-1)), (50, 2, (-1)), (50, 1, (-1)), (50, 0, (-1)), (48, 7, (-1)), (48, 6, (-1)), (48, 5, (-1)), (48, 4, (-1)), (48, 3, (-1)), (48, 2, (-1)), (48, 1, (-1)), (48, 0, (-1)), (44, 2, nI 1), (45, 0, nI 1115), (41, 2, nI 1), (42, 0, nI 1116), (23, 2, nI 1), (24, 0, nI 1115), (20, 2, nI 1), (21, 0, nI 1116)]
def alM : List (Nat × Nat × Int32) := [(108, 32, (-1)), (128, 7, nI 99), (128, 6, nI 99), (128, 5, nI 99), (128, 4, nI 99), (128, 3, nI 99), (128, 2, nI 99), (128, 1, nI 99), (128, 0, nI 99), (108, 28, (-1))] ++ al97
set_option maxRecDepth 100000 in
theorem ev_97 : ev 300 97 [.ref 0] ([(11, 17)], [List.replicate 17 0], []) = some (LAY.take 108, (RFu 0).take 108, al97) := by decide +kernel
set_option maxRecDepth 100000 in
theorem ev_156 : ev 300 156 [.ref 108] (LAY.take 108 ++ [(12, 51)], (RFu 0).take 108 ++ [List.replicate 51 0], al97) = some (LAY.take 144, (RFu 0).take 144, alM) := by decide +kernel
def mem0 : Nat → Nat → Int32 := lk alM
theorem lk_hi {n c i : Nat} : ∀ {al : List (Nat × Nat × Int32)}, al.all (fun e => decide (e.2.1 < n)) = true → n ≤ i → lk al c i = 0
  | [], _, _ => rfl
  | (c', j', x) :: t, h, hi => by
    simp only [List.all_cons, Bool.and_eq_true, decide_eq_true_eq] at h
    show (if c = c' ∧ i = j' then x else lk t c i) = 0
    rw [if_neg (by omega)]
    exact lk_hi h.2 hi
theorem mem0_hi {c i : Nat} (hi : 121 ≤ i) : mem0 c i = 0 := lk_hi (n := 121) (by decide +kernel) hi
theorem mem0_48 {i : Nat} (h : 8 ≤ i) : mem0 48 i = 0 := by
  by_cases q : i < 121
  · have : ∀ i < 121, 8 ≤ i → mem0 48 i = 0 := by decide +kernel
    exact this i q h
  · exact mem0_hi (by omega)
theorem RRc_0 : RRc mem0 0 0 0 := by
  refine ⟨⟨0, fun _ => 0, ⟨by decide +kernel, by decide, fun i hi => absurd hi (Nat.not_lt_zero i)⟩, ⟨by decide +kernel, by decide, fun i hi => absurd hi (Nat.not_lt_zero i)⟩⟩, ⟨[], ⟨by decide, by decide +kernel, fun k hk => absurd hk (Nat.not_lt_zero k)⟩, RwM_nil (by decide +kernel)⟩, ?_, ⟨?_, ?_⟩, RUn_0 (fr := 0) (by decide +kernel) (by decide +kernel) (by decide) (by decide +kernel), ⟨0, by decide, by decide +kernel, by decide +kernel, fun k hk => absurd hk (Nat.not_lt_zero k)⟩, ⟨0, Nat.le_refl _, ⟨by decide +kernel, by decide +kernel⟩, Or.inl ⟨by decide +kernel, by decide +kernel⟩, Or.inl ⟨by decide +kernel, by decide +kernel⟩⟩, fun c _ i hi => mem0_hi hi⟩
  · refine RTo_of ⟨by decide +kernel, by decide, by decide +kernel, by decide, by decide +kernel, by decide +kernel⟩ (fun r hr => ⟨0, by decide, ?_, fun z => absurd z (Nat.not_lt_zero r)⟩) (fun p hp => absurd hp (Nat.not_lt_zero p)) (fun p hp => ⟨0, by decide, ?_, fun _ => rfl, fun z => absurd z (Nat.not_lt_zero p)⟩) ⟨fun p hp => ?_, by decide +kernel, by decide +kernel⟩ ⟨0, fun _ => 0, ⟨by decide, by decide +kernel, fun i hi => absurd hi (Nat.not_lt_zero i), fun z => absurd z (by decide)⟩, ?_⟩ ⟨0, fun _ => 0, ⟨by decide, by decide +kernel, fun i hi => absurd hi (Nat.not_lt_zero i), fun z => absurd z (by decide)⟩, ?_⟩
    · have : ∀ r < 4, mem0 6 r = nI 0 := by decide +kernel
      exact this r hr
    · have : ∀ r < 8, mem0 18 r = nI 0 := by decide +kernel
      exact this p hp
    · have : ∀ r < 8, mem0 19 r = 0 ∧ mem0 128 r = nI 99 ∧ mem0 129 r = 0 := by decide +kernel
      exact this p hp
    · refine ⟨by decide, by decide +kernel, fun k hk => ?_, fun e => ⟨e (nI 116), rst_let (env := e) (st := []) (x := 116) (by decide)⟩⟩
      have e0 : k = 0 := by have hk : k < 1 := hk; omega
      subst e0
      decide +kernel
    · refine ⟨by decide, by decide +kernel, fun k hk => ?_, fun e => ⟨e (nI 115), rst_let (env := e) (st := []) (x := 115) (by decide)⟩⟩
      have e0 : k = 0 := by have hk : k < 1 := hk; omega
      subst e0
      decide +kernel
  · refine ⟨fun p hp => absurd hp (Nat.not_lt_zero p), fun g hg => ?_, by decide +kernel⟩
    rw [mem0_48 (by omega)]
    have : ∀ g < 64, mem0 121 g = 0 := by decide +kernel
    exact this g hg
  · refine ⟨fun p hp => absurd hp (Nat.not_lt_zero p), by decide, fun p hp => absurd hp (Nat.not_lt_zero p), fun p _ hp => ⟨?_, fun t h1 h2 => mem0_48 (by omega)⟩, fun x y _ _ _ => mem0_48 (by omega), fun i hi => mem0_48 (by omega), ⟨0, Nat.le_refl _, mem0_48 (by decide)⟩, fun p hp => absurd hp (Nat.not_lt_zero p), fun p hp => ?_, ?_⟩
    · have : ∀ p < 8, mem0 48 p = -1 := by decide +kernel
      exact this p hp
    · rw [mem0_48 (by omega)]; decide
    · decide +kernel
