/-! AN ABSTRACT MACHINE: cells by their numbers; ints in 'mem', references in 'rf' (0: null, k + 1: cell k) -/
abbrev xSt : Type := List (Nat × Nat) × List (List Nat) × (Nat → Nat → Int32)
abbrev xG : Type := ClassId × ClassId × ClassId × ClassId × ClassId × ClassId
def xav : Nat → Value
  | 0 => .null
  | k + 1 => .ref k
def xcv (α : Nat → Nat) : Value → Value
  | .ref k => .ref (α k)
  | v => v
def xo (α : Nat → Nat) : Nat → Option Nat
  | 0 => none
  | k + 1 => some (α k)
theorem xo_rf (α : Nat → Nat) (r : Nat) : va_rf (xo α r) = xcv α (xav r) := by cases r <;> rfl
theorem xcv_cat (α : Nat → Nat) (v : Value) : (xcv α v).category = v.category := by cases v <;> rfl
def xAc (G : xG) : Nat → ClassId
  | 13 => G.1
  | 14 => G.2.1
  | 15 => G.2.2.1
  | 16 => G.2.2.2.1
  | 17 => G.2.2.2.2.1
  | _ => G.2.2.2.2.2
def xTys (G : xG) : List (ClassId × FieldType) := [(G.1, .int), (G.2.1, .byte), (G.2.2.1, .boolean), (G.2.2.2.1, .long), (G.2.2.2.2.1, .array .int), (G.2.2.2.2.2, .array .byte)]
def xFs (α : Nat → Nat) (kd : Nat × Nat) (r : List Nat) (f : Nat → Int32) : List Value := (List.range kd.2).map (fun j => if xRF kd.1 j then xcv α (xav (r.getD j 0)) else .int (f j))
/-- what a cell is: an object of class 0 .. 12, ints (13), bytes (14), booleans (15), longs (16: of ints), rows of ints (17), of bytes (18) -/
def xE (G : xG) (α : Nat → Nat) (kd : Nat × Nat) (r : List Nat) (f : Nat → Int32) : va_E :=
  if kd.1 < 13 then .inr (kd.1, xFs α kd r f)
  else if kd.1 < 16 then .inl (xAc G kd.1, kd.2, .inl f)
  else if kd.1 = 16 then .inl (xAc G 16, kd.2, .inr (.inl (fun j => (f j).toInt64)))
  else .inl (xAc G kd.1, kd.2, .inr (.inr (.inr (.inr (fun j => xo α (r.getD j 0))))))
def xW (G : xG) (α : Nat → Nat) (σ : xSt) : va_W := (List.range σ.1.length).map (fun k => (α k, xE G α (σ.1.getD k (0, 0)) (σ.2.1.getD k []) (σ.2.2 k)))
theorem xW_get {G : xG} {α : Nat → Nat} {σ : xSt} {k : Nat} {kd : Nat × Nat} (h : σ.1[k]? = some kd) : (xW G α σ)[k]? = some (α k, xE G α kd (σ.2.1.getD k []) (σ.2.2 k)) := by
  have hl : k < σ.1.length := (List.getElem?_eq_some_iff.mp h).1
  unfold xW
  rw [List.getElem?_map, List.getElem?_range hl]
  show some (α k, xE G α (σ.1.getD k (0, 0)) (σ.2.1.getD k []) (σ.2.2 k)) = _
  rw [List.getD_eq_getElem?_getD, h]
  rfl
theorem xW_len {G : xG} {α : Nat → Nat} {σ : xSt} : (xW G α σ).length = σ.1.length := by simp [xW]
theorem xW_obj {G : xG} {α : Nat → Nat} {σ : xSt} {k ci n : Nat} (h : σ.1[k]? = some (ci, n)) (hc : ci < 13) : (xW G α σ)[k]? = some (α k, .inr (ci, xFs α (ci, n) (σ.2.1.getD k []) (σ.2.2 k))) := by
  rw [xW_get h]
  unfold xE
  rw [if_pos hc]
theorem xW_int {G : xG} {α : Nat → Nat} {σ : xSt} {k kk n : Nat} (h : σ.1[k]? = some (kk, n)) (h1 : 13 ≤ kk) (h2 : kk < 16) : (xW G α σ)[k]? = some (α k, .inl (xAc G kk, n, .inl (σ.2.2 k))) := by
  rw [xW_get h]
  unfold xE
  rw [if_neg (by show ¬ kk < 13; omega), if_pos h2]
theorem xW_long {G : xG} {α : Nat → Nat} {σ : xSt} {k n : Nat} (h : σ.1[k]? = some (16, n)) : (xW G α σ)[k]? = some (α k, .inl (xAc G 16, n, .inr (.inl (fun j => (σ.2.2 k j).toInt64)))) := by
  rw [xW_get h]
  rfl
theorem xW_ref {G : xG} {α : Nat → Nat} {σ : xSt} {k kk n : Nat} (h : σ.1[k]? = some (kk, n)) (h1 : 17 ≤ kk) : (xW G α σ)[k]? = some (α k, .inl (xAc G kk, n, .inr (.inr (.inr (.inr (fun j => xo α ((σ.2.1.getD k []).getD j 0))))))) := by
  rw [xW_get h]
  unfold xE
  rw [if_neg (by show ¬ kk < 13; omega), if_neg (by show ¬ kk < 16; omega), if_neg (by show ¬ kk = 16; omega)]
/-- one cell's contents changed -/
theorem xW_set {G : xG} {α : Nat → Nat} {lay : List (Nat × Nat)} {rf rf' : List (List Nat)} {mem mem' : Nat → Nat → Int32} {k : Nat} {kd : Nat × Nat} {e : va_E} (h : lay[k]? = some kd) (he : e = xE G α kd (rf'.getD k []) (mem' k)) (ho : ∀ j, j ≠ k → rf'.getD j [] = rf.getD j [] ∧ mem' j = mem j) :
    (xW G α (lay, rf, mem)).set k (α k, e) = xW G α (lay, rf', mem') := by
  have hl : k < lay.length := (List.getElem?_eq_some_iff.mp h).1
  apply List.ext_getElem?
  intro j
  by_cases hj : j = k
  · subst hj
    rw [List.getElem?_set_self (by rw [xW_len]; exact hl), xW_get (σ := (lay, rf', mem')) h, he]
  · rw [List.getElem?_set_ne (fun q => hj q.symm)]
    unfold xW
    rw [List.getElem?_map, List.getElem?_map]
    by_cases hjl : j < lay.length
    · rw [List.getElem?_range hjl]
      show some (α j, xE G α (lay.getD j (0, 0)) (rf.getD j []) (mem j)) = some (α j, xE G α (lay.getD j (0, 0)) (rf'.getD j []) (mem' j))
      rw [(ho j hj).1, (ho j hj).2]
    · rw [List.getElem?_eq_none (by simp; omega)]
      rfl
def xu2 (mem : Nat → Nat → Int32) (a i : Nat) (x : Int32) : Nat → Nat → Int32 := fun c j => if c = a then (if j = i then x else mem a j) else mem c j
def xuA (mem : Nat → Nat → Int32) (a : Nat) (f : Nat → Int32) : Nat → Nat → Int32 := fun c j => if c = a then f j else mem c j
theorem xu2_ne {mem : Nat → Nat → Int32} {a i c : Nat} {x : Int32} (h : c ≠ a) : xu2 mem a i x c = mem c := by funext j; simp [xu2, h]
theorem xu2_eq {mem : Nat → Nat → Int32} {a i : Nat} {x : Int32} : xu2 mem a i x a = upd (mem a) i x := by funext j; simp [xu2, upd]
theorem xuA_ne {mem : Nat → Nat → Int32} {a c : Nat} {f : Nat → Int32} (h : c ≠ a) : xuA mem a f c = mem c := by funext j; simp [xuA, h]
theorem xuA_eq {mem : Nat → Nat → Int32} {a : Nat} {f : Nat → Int32} : xuA mem a f a = f := by funext j; simp [xuA]
def xrs (rf : List (List Nat)) (a i r : Nat) : List (List Nat) := rf.set a ((rf.getD a []).set i r)
theorem xrs_ne {rf : List (List Nat)} {a i r c : Nat} (h : c ≠ a) : (xrs rf a i r).getD c [] = rf.getD c [] := by
  unfold xrs
  rw [List.getD_eq_getElem?_getD, List.getElem?_set_ne (fun q => h q.symm), ← List.getD_eq_getElem?_getD]
theorem xrs_eq {rf : List (List Nat)} {a i r : Nat} (h : a < rf.length) : (xrs rf a i r).getD a [] = (rf.getD a []).set i r := by
  unfold xrs
  rw [List.getD_eq_getElem?_getD, List.getElem?_set_self h]
  rfl
/-- references that stand for cells -/
def xrOK (n : Nat) : Value → Bool
  | .ref k => decide (k < n) || decide (k = 100000)
  | _ => true
def xOK (lay : List (Nat × Nat)) (rf : List (List Nat)) (L S : List Value) : Prop := rf.length = lay.length ∧ (∀ row ∈ rf, ∀ r ∈ row, r ≤ lay.length) ∧ (∀ v ∈ L, xrOK lay.length v = true) ∧ (∀ v ∈ S, xrOK lay.length v = true) ∧ lay.length < 99000
theorem xcv_ext {α α' : Nat → Nat} {n : Nat} (h : ∀ k, k < n ∨ k = 100000 → α' k = α k) {v : Value} (hv : xrOK n v = true) : xcv α' v = xcv α v := by
  cases v <;> try rfl
  rename_i k
  simp only [xrOK, Bool.or_eq_true, decide_eq_true_eq] at hv
  show Value.ref (α' k) = Value.ref (α k)
  rw [h k hv]
theorem xo_ext {α α' : Nat → Nat} {n : Nat} (h : ∀ k, k < n ∨ k = 100000 → α' k = α k) {r : Nat} (hr : r ≤ n) : xo α' r = xo α r := by
  cases r with
  | zero => rfl
  | succ k => show some (α' k) = some (α k); rw [h k (Or.inl hr)]
theorem xE_ext {G : xG} {α α' : Nat → Nat} {n : Nat} (h : ∀ k, k < n ∨ k = 100000 → α' k = α k) {kd : Nat × Nat} {r : List Nat} {f : Nat → Int32} (hr : ∀ z ∈ r, z ≤ n) : xE G α' kd r f = xE G α kd r f := by
  have hg : ∀ j, r.getD j 0 ≤ n := fun j => by
    rw [List.getD_eq_getElem?_getD]
    cases hj : r[j]? with
    | none => exact Nat.zero_le _
    | some z => exact hr z (List.mem_of_getElem? hj)
  have h1 : xFs α' kd r f = xFs α kd r f := by
    unfold xFs
    apply List.map_congr_left
    intro j _
    split
    · rw [← xo_rf, ← xo_rf, xo_ext h (hg j)]
    · rfl
  have h2 : (fun j => xo α' (r.getD j 0)) = (fun j => xo α (r.getD j 0)) := funext fun j => xo_ext h (hg j)
  unfold xE
  rw [h1, h2]
theorem xW_ext {G : xG} {α α' : Nat → Nat} {lay : List (Nat × Nat)} {rf : List (List Nat)} {mem : Nat → Nat → Int32} (h : ∀ k, k < lay.length ∨ k = 100000 → α' k = α k) (hr : ∀ row ∈ rf, ∀ r ∈ row, r ≤ lay.length) : xW G α' (lay, rf, mem) = xW G α (lay, rf, mem) := by
  unfold xW
  apply List.map_congr_left
  intro k hk
  rw [h k (Or.inl (List.mem_range.mp hk))]
  rw [xE_ext h (fun z hz => ?_)]
  have hz' : z ∈ rf.getD k [] := hz
  rw [List.getD_eq_getElem?_getD] at hz'
  cases hj : rf[k]? with
  | none => rw [hj] at hz'; cases hz'
  | some row => rw [hj] at hz'; exact hr row (List.mem_of_getElem? hj) z hz'
/-- new cells behind the others -/
theorem xW_app {G : xG} {α : Nat → Nat} {lay new : List (Nat × Nat)} {rf rn : List (List Nat)} {mem : Nat → Nat → Int32} (hl : rf.length = lay.length) :
    xW G α (lay ++ new, rf ++ rn, mem) = xW G α (lay, rf, mem) ++ (List.range new.length).map (fun i => (α (lay.length + i), xE G α (new.getD i (0, 0)) (rn.getD i []) (mem (lay.length + i)))) := by
  unfold xW
  simp only [List.length_append, List.range_add, List.map_append, List.map_map]
  congr 1
  · apply List.map_congr_left
    intro k hk
    have hk := List.mem_range.mp hk
    rw [List.getD_eq_getElem?_getD, List.getElem?_append_left hk, ← List.getD_eq_getElem?_getD, List.getD_eq_getElem?_getD (l := rf ++ rn), List.getElem?_append_left (by omega), ← List.getD_eq_getElem?_getD]
  · apply List.map_congr_left
    intro i _
    show (α (lay.length + i), xE G α ((lay ++ new).getD (lay.length + i) (0, 0)) ((rf ++ rn).getD (lay.length + i) []) (mem (lay.length + i))) = _
    rw [List.getD_eq_getElem?_getD, List.getElem?_append_right (by omega), Nat.add_sub_cancel_left, ← List.getD_eq_getElem?_getD, List.getD_eq_getElem?_getD (l := rf ++ rn), List.getElem?_append_right (by omega), hl, Nat.add_sub_cancel_left, ← List.getD_eq_getElem?_getD]
/-! locals -/
def xLv (α : Nat → Nat) (ls : Array Slot) (L : List Value) : Prop := ls.size = L.length ∧ lv_wf ls ∧ ∀ (k : Nat) (v : Value), L[k]? = some v → v ≠ .null → v.category = 1 ∧ ls[k]? = some (.val (xcv α v))
theorem xLv_ext {α α' : Nat → Nat} {n : Nat} {ls : Array Slot} {L : List Value} (h : ∀ k, k < n ∨ k = 100000 → α' k = α k) (hL : ∀ v ∈ L, xrOK n v = true) (hl : xLv α ls L) : xLv α' ls L :=
  ⟨hl.1, hl.2.1, fun k v hk hv => ⟨(hl.2.2 k v hk hv).1, by rw [xcv_ext h (hL v (List.mem_of_getElem? hk))]; exact (hl.2.2 k v hk hv).2⟩⟩
theorem xmap_ext {α α' : Nat → Nat} {n : Nat} {S : List Value} (h : ∀ k, k < n ∨ k = 100000 → α' k = α k) (hS : ∀ v ∈ S, xrOK n v = true) : S.map (xcv α') = S.map (xcv α) := List.map_congr_left fun v hv => xcv_ext h (hS v hv)
theorem xLv_has {α : Nat → Nat} {ls : Array Slot} {L : List Value} (h : xLv α ls L) : ∃ lv : List (Nat × Value), lv_has ls L.length lv ∧ (∀ q ∈ lv, q.2.category = 1) ∧ ∀ (k : Nat) (v : Value), L[k]? = some v → v ≠ .null → (k, xcv α v) ∈ lv := by
  refine ⟨(List.range L.length).filterMap (fun k => if L.getD k .null = .null then none else some (k, xcv α (L.getD k .null))), ⟨h.1, h.2.1, fun q hq => ?_⟩, fun q hq => ?_, fun k v hk hv => ?_⟩
  · obtain ⟨k, hk, hq⟩ := List.mem_filterMap.mp hq
    have hk := List.mem_range.mp hk
    have hg : L[k]? = some (L.getD k .null) := by rw [List.getD_eq_getElem?_getD, List.getElem?_eq_getElem hk]; rfl
    by_cases e : L.getD k .null = .null
    · rw [if_pos e] at hq; cases hq
    · rw [if_neg e] at hq
      cases hq
      exact (h.2.2 k _ hg e).2
  · obtain ⟨k, hk, hq⟩ := List.mem_filterMap.mp hq
    have hk := List.mem_range.mp hk
    have hg : L[k]? = some (L.getD k .null) := by rw [List.getD_eq_getElem?_getD, List.getElem?_eq_getElem hk]; rfl
    by_cases e : L.getD k .null = .null
    · rw [if_pos e] at hq; cases hq
    · rw [if_neg e] at hq
      cases hq
      show (xcv α _).category = 1
      rw [xcv_cat]
      exact (h.2.2 k _ hg e).1
  · have hl : k < L.length := (List.getElem?_eq_some_iff.mp hk).1
    refine List.mem_filterMap.mpr ⟨k, List.mem_range.mpr hl, ?_⟩
    have hg : L.getD k .null = v := by rw [List.getD_eq_getElem?_getD, hk]; rfl
    rw [hg, if_neg hv]
theorem xLv_store {α : Nat → Nat} {ls ls' : Array Slot} {L : List Value} {lv : List (Nat × Value)} {i : Nat} {x : Value} (h2 : ∀ q ∈ lv, q.2.category = 1) (h3 : ∀ (k : Nat) (v : Value), L[k]? = some v → v ≠ .null → (k, xcv α v) ∈ lv) (hx : x.category = 1) (h0 : xLv α ls L)
    (h' : lv_has ls' L.length ((i, xcv α x) :: lv.filter (fun q => !(q.1 == i) && !(q.1 + 1 == i && q.2.category == 2)))) : xLv α ls' (L.set i x) := by
  refine ⟨by rw [List.length_set]; exact h'.1, h'.2.1, fun k v hk hv => ?_⟩
  by_cases e : k = i
  · subst e
    have hl : k < L.length := by
      have := (List.getElem?_eq_some_iff.mp hk).1
      rw [List.length_set] at this
      exact this
    rw [List.getElem?_set_self hl] at hk
    cases hk
    exact ⟨hx, h'.2.2 (k, xcv α x) List.mem_cons_self⟩
  · rw [List.getElem?_set_ne (fun q => e q.symm)] at hk
    have hm := h3 k v hk hv
    refine ⟨(h0.2.2 k v hk hv).1, h'.2.2 (k, xcv α v) (List.mem_cons_of_mem _ (List.mem_filter.mpr ⟨hm, ?_⟩))⟩
    have hc := h2 _ hm
    simp only [hc]
    simp [e]
theorem xlg_sl : ∀ (vs : List Value), (∀ v ∈ vs, v.category = 1) → lg_sl vs = vs.map Slot.val
  | [], _ => rfl
  | v :: vs, h => by
    have e := xlg_sl vs (fun w hw => h w (List.mem_cons_of_mem _ hw))
    unfold lg_sl at e ⊢
    rw [List.flatMap_cons, e, h v List.mem_cons_self]
    rfl
theorem xlv_args : ∀ (vs : List Value) (i : Nat), (∀ v ∈ vs, v.category = 1) → ∀ (k : Nat) (v : Value), vs[k]? = some v → (i + k, v) ∈ lv_args i vs
  | [], _, _, _, _, h => by cases h
  | w :: vs, i, hc, k, v, h => by
    unfold lv_args
    cases k with
    | zero =>
      cases h
      exact List.mem_cons_self
    | succ k =>
      have hw := hc w List.mem_cons_self
      have := xlv_args vs (i + 1) (fun z hz => hc z (List.mem_cons_of_mem _ hz)) k v h
      rw [if_neg (by rw [hw]; decide)]
      rw [show i + (k + 1) = i + 1 + k by omega]
      exact List.mem_cons_of_mem _ this
theorem xLv_entry {α : Nat → Nat} {As : List Value} {n : Nat} (hc : ∀ v ∈ As, v.category = 1) (hn : As.length ≤ n) : xLv α ((lg_sl (As.map (xcv α)) ++ List.replicate (n - (lg_sl (As.map (xcv α))).length) Slot.unset).toArray) (As ++ List.replicate (n - As.length) .null) := by
  have hc' : ∀ v ∈ As.map (xcv α), v.category = 1 := fun v hv => by
    obtain ⟨w, hw, rfl⟩ := List.mem_map.mp hv
    rw [xcv_cat]
    exact hc w hw
  have hln : (lg_sl (As.map (xcv α))).length = As.length := by rw [xlg_sl _ hc']; simp
  have h := lv_entry (As.map (xcv α)) (n := n) (by rw [hln]; exact hn)
  refine ⟨by rw [h.1]; simp; omega, h.2.1, fun k v hk hv => ?_⟩
  by_cases hk2 : k < As.length
  · rw [List.getElem?_append_left hk2] at hk
    refine ⟨hc v (List.mem_of_getElem? hk), ?_⟩
    have h3 := xlv_args (As.map (xcv α)) 0 hc' k (xcv α v) (by rw [List.getElem?_map, hk]; rfl)
    rw [Nat.zero_add] at h3
    exact h.2.2 (k, xcv α v) h3
  · rw [List.getElem?_append_right (by omega)] at hk
    have := List.eq_of_mem_replicate (List.mem_of_getElem? hk)
    exact absurd this hv
