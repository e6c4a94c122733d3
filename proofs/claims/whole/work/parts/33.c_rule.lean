/-! more of numbers; the value of a rule -/
theorem nI_mul (a b : Nat) : nI a * nI b = nI (a * b) := (Int32.ofNat_mul a b).symm
theorem nI_sub {a b : Nat} (h : b ≤ a) : nI a - nI b = nI (a - b) := by
  have e : nI a = nI (a - b) + nI b := by rw [nI_add, Nat.sub_add_cancel h]
  rw [e, Int32.add_sub_cancel]
theorem nI_inj {a b : Nat} (h : nI a = nI b) (ha : a < 2147483648) (hb : b < 2147483648) : a = b := (nI_eq ha hb).mp h
theorem nI_div {a b : Nat} (ha : a < 2147483648) (hb : b < 2147483648) (h0 : 0 < b) : nI a / nI b = nI (a / b) := by
  apply Int32.toInt_inj.mp
  have hd : a / b < 2 ^ 31 := Nat.lt_of_le_of_lt (Nat.div_le_self a b) ha
  rw [nI_toInt hd, Int32.toInt_div_of_ne_right, nI_toInt ha, nI_toInt hb]
  · exact Int.ofNat_tdiv a b
  · intro q
    have := congrArg Int32.toInt q
    rw [nI_toInt hb] at this
    have h1 : (-1 : Int32).toInt = -1 := by decide
    omega
theorem nI_rem {a b : Nat} (ha : a < 2147483648) (hb : b < 2147483648) (h0 : 0 < b) : nI a - nI a / nI b * nI b = nI (a % b) := by
  have hm := Nat.div_add_mod a b
  have hc := Nat.mul_comm b (a / b)
  rw [nI_div ha hb h0, nI_mul, nI_sub (by omega)]
  congr 1
  omega
theorem nI_xor {a b : Nat} (ha : a < 2147483648) (hb : b < 2147483648) : nI a ^^^ nI b = nI (a ^^^ b) := by
  apply Int32.toBitVec_inj.mp
  rw [Int32.toBitVec_xor]
  show BitVec.ofNat 32 a ^^^ BitVec.ofNat 32 b = BitVec.ofNat 32 (a ^^^ b)
  apply BitVec.eq_of_toNat_eq
  rw [BitVec.toNat_xor, BitVec.toNat_ofNat, BitVec.toNat_ofNat, BitVec.toNat_ofNat, Nat.mod_eq_of_lt (by omega), Nat.mod_eq_of_lt (by omega), Nat.mod_eq_of_lt (Nat.lt_of_lt_of_le (Nat.xor_lt_two_pow (n := 31) ha hb) (by decide))]
theorem nI_fmod {a b : Nat} (ha : a < 2147483648) (hb : b < 2147483648) (h0 : 0 < b) : Jvm.Free.MCB.fmod (nI a) (nI b) = nI (a % b) := by
  have hx : a ^^^ b < 2 ^ 31 := Nat.xor_lt_two_pow ha hb
  unfold Jvm.Free.MCB.fmod Jvm.Free.MCB.remI
  rw [nI_rem ha hb h0, nI_xor ha hb, if_pos (nI_pos' hx)]
theorem i_to {x : Int32} {z : Nat} (hz : z < 2147483648) (h : x.toInt = (z : Int)) : x = nI z := Int32.toInt_inj.mp (by rw [h, nI_toInt hz])
/-- what a letter stands for -/
def envF (ag sk c : Nat → Int32) (p : Nat) (l : Int32) : Int32 :=
  if l.toInt = 105 then nI p else if l.toInt = 103 then ag p else if l.toInt = 107 then sk p else if l.toInt = 115 then c (16 + p) else if l.toInt = 116 then c (24 + p) else if l.toInt = 97 then c (32 + p) else if l.toInt = 98 then c (40 + p) else c (48 + p)
def jn (g a b : Int32) : Int32 :=
  if g.toInt = 43 then a + b else if g.toInt = 45 then a - b else if g.toInt = 42 then a * b else if g.toInt = 47 then (if b = 0 then 0 else a / b) else if g.toInt = 60 then b01 (a < b) else if g.toInt = 62 then b01 (b < a) else b01 (a = b)
/-- one step of a rule -/
def rst (env : Int32 → Int32) (st : List Int32) (x : Int32) : List Int32 :=
  if x < nI 2000 then (if x < nI 1000 then x else env (x - nI 1000)) :: st
  else if x = nI 3000 then (match st with | a :: t => (-a) :: t | [] => [])
  else (match st with | b :: a :: t => jn (x - nI 2000) a b :: t | _ => st)
def rrun (env : Int32 → Int32) (st : List Int32) (xs : List Int32) : List Int32 := xs.foldl (rst env) st
def rv (env : Int32 → Int32) (xs : List Int32) : Int32 := (rrun env [] xs).headD 0
/-- a rule, as the class keeps it -/
def RuL (mem : Nat → Nat → Int32) (q : Nat) (xs : List Int32) : Prop := xs.length ≤ 40 ∧ mem q 2 = nI xs.length ∧ (∀ k, k < xs.length → mem (q + 1) k = xs.getD k 0) ∧ ∀ env, ∃ v, rrun env [] xs = [v]
theorem rrun_len {env : Int32 → Int32} : ∀ {xs st : List Int32}, (rrun env st xs).length ≤ st.length + xs.length
  | [], st => Nat.le_refl _
  | x :: xs, st => by
    have h : (rst env st x).length ≤ st.length + 1 := by
      unfold rst
      split
      · exact Nat.le_refl _
      · split
        · cases st <;> simp
        · match st with
          | [] => simp
          | [a] => simp
          | b :: a :: t => simp
    have ih := rrun_len (env := env) (xs := xs) (st := rst env st x)
    show (rrun env (rst env st x) xs).length ≤ _
    simp only [List.length_cons]
    omega
theorem rrun_take {env : Int32 → Int32} {xs : List Int32} {n : Nat} (h : n < xs.length) : rrun env [] (xs.take (n + 1)) = rst env (rrun env [] (xs.take n)) (xs.getD n 0) := by
  unfold rrun
  rw [List.take_add_one, List.getElem?_eq_getElem h, List.foldl_append, List.getD_eq_getElem?_getD, List.getElem?_eq_getElem h]
  rfl
/-- the stack, as the class keeps it -/
def VS (m : Nat → Int32) (st : List Int32) : Prop := ∀ j, j < st.length → m (st.length - 1 - j) = st.getD j 0
theorem VS_push {m : Nat → Int32} {st : List Int32} {x : Int32} (h : VS m st) : VS (upd m st.length x) (x :: st) := by
  intro j hj
  simp only [List.length_cons] at hj ⊢
  cases j with
  | zero => exact upd_at
  | succ j =>
    rw [upd_ne (by omega), show st.length + 1 - 1 - (j + 1) = st.length - 1 - j by omega, h j (by omega)]
    rfl
theorem VS_tail {m : Nat → Int32} {st : List Int32} {x : Int32} (h : VS m (x :: st)) : VS m st := by
  intro j hj
  have := h (j + 1) (by simp only [List.length_cons]; omega)
  simp only [List.length_cons] at this
  rw [show st.length - 1 - j = st.length + 1 - 1 - (j + 1) by omega, this]
  rfl
theorem VS_top {m : Nat → Int32} {st : List Int32} {x : Int32} (h : VS m (x :: st)) : m st.length = x := h 0 (by simp)
theorem topI {n : Nat} : nI (n + 1) + (-1) = nI n := by rw [← nIs, Int32.add_assoc, show nI 1 + (-1 : Int32) = 0 by decide, Int32.add_zero]
theorem topJ {n : Nat} : nI n + (-1) + nI 1 = nI n := by rw [Int32.add_assoc, show (-1 : Int32) + nI 1 = 0 by decide, Int32.add_zero]
section C
variable {d r : Nat} {mem : Nat → Nat → Int32} {Q : xQr} {s t q p : Nat}
theorem c41 {l : Int32} (ht : isTown t) (hs : isState s) (hp : p < 8) (k : Q (some (.int (envF (mem (t + 2)) (mem (t + 3)) (mem (s + 1)) p l))) (LAY, RFu r, mem)) : xCall (d + 1) 41 [.int l, .ref t, .ref s, .int (nI p)] (LAY, RFu r, mem) Q := by
  refine c_in rfl rfl rfl fun P hP => ?_
  have kd : l.toInt ≠ 97 → l.toInt ≠ 98 → l.toInt ≠ 103 → l.toInt ≠ 105 → l.toInt ≠ 107 → l.toInt ≠ 115 → l.toInt ≠ 116 → P 152 [.int l, .ref t, .ref s, .int (nI p)] [] (0, 0) (LAY, RFu r, mem) := fun h1 h2 h3 h4 h5 h6 h7 => by
    refine b41_152 hP ht hs (vpx (by omega) (by decide)) ?_
    unfold envF at k
    rw [if_neg h4, if_neg h3, if_neg h5, if_neg h6, if_neg h7, if_neg h1, if_neg h2] at k
    rw [nIx (by omega)]
    exact k
  have kx : ∀ z : Int, l.toInt = z → z ≠ 97 → z ≠ 98 → z ≠ 103 → z ≠ 105 → z ≠ 107 → z ≠ 115 → z ≠ 116 → P 152 [.int l, .ref t, .ref s, .int (nI p)] [] (0, 0) (LAY, RFu r, mem) := fun z h h1 h2 h3 h4 h5 h6 h7 => by
    rw [← h] at h1 h2 h3 h4 h5 h6 h7
    exact kd h1 h2 h3 h4 h5 h6 h7
  refine b41_0 hP ht hs (fun h => kd (by omega) (by omega) (by omega) (by omega) (by omega) (by omega) (by omega)) (fun h => ?_) (fun h => ?_) (fun h => kx _ h (by decide) (by decide) (by decide) (by decide) (by decide) (by decide) (by decide)) (fun h => kx _ h (by decide) (by decide) (by decide) (by decide) (by decide) (by decide) (by decide)) (fun h => kx _ h (by decide) (by decide) (by decide) (by decide) (by decide) (by decide) (by decide)) (fun h => kx _ h (by decide) (by decide) (by decide) (by decide) (by decide) (by decide) (by decide)) (fun h => ?_) (fun h => kx _ h (by decide) (by decide) (by decide) (by decide) (by decide) (by decide) (by decide)) (fun h => ?_) (fun h => kx _ h (by decide) (by decide) (by decide) (by decide) (by decide) (by decide) (by decide)) (fun h => ?_) (fun h => kx _ h (by decide) (by decide) (by decide) (by decide) (by decide) (by decide) (by decide)) (fun h => kx _ h (by decide) (by decide) (by decide) (by decide) (by decide) (by decide) (by decide)) (fun h => kx _ h (by decide) (by decide) (by decide) (by decide) (by decide) (by decide) (by decide)) (fun h => kx _ h (by decide) (by decide) (by decide) (by decide) (by decide) (by decide) (by decide)) (fun h => kx _ h (by decide) (by decide) (by decide) (by decide) (by decide) (by decide) (by decide)) (fun h => kx _ h (by decide) (by decide) (by decide) (by decide) (by decide) (by decide) (by decide)) (fun h => kx _ h (by decide) (by decide) (by decide) (by decide) (by decide) (by decide) (by decide)) (fun h => ?_) (fun h => ?_)
  all_goals unfold envF at k; rw [h] at k
  · exact b41_132 hP ht hs (vpx (by omega) (by decide)) (by rw [nIx (by omega)]; exact k)
  · exact b41_142 hP ht hs (vpx (by omega) (by decide)) (by rw [nIx (by omega)]; exact k)
  · exact b41_98 hP ht hs (vpn (by omega) (by decide)) (by rw [nIc (by omega)]; exact k)
  · exact b41_96 hP ht hs k
  · exact b41_105 hP ht hs (vpn (by omega) (by decide)) (by rw [nIc (by omega)]; exact k)
  · exact b41_112 hP ht hs (vpx (by omega) (by decide)) (by rw [nIx (by omega)]; exact k)
  · exact b41_122 hP ht hs (vpx (by omega) (by decide)) (by rw [nIx (by omega)]; exact k)
theorem c42 {g a b : Int32} (k : Q (some (.int (jn g a b))) (LAY, RFu r, mem)) : xCall (d + 1) 42 [.int g, .int a, .int b] (LAY, RFu r, mem) Q := by
  refine c_in rfl rfl rfl fun P hP => ?_
  refine b42_0 hP (fun h1 h2 h3 h4 h5 h6 => ?_) (fun h => ?_) (fun h => ?_) (fun h => ?_) (fun h => ?_) (fun h => ?_) (fun h => ?_)
  · unfold jn at k
    rw [if_neg h2, if_neg h3, if_neg h1, if_neg h4, if_neg h5, if_neg h6] at k
    unfold b01 at k
    refine b42_106 hP (fun h => b42_115 hP (b42_116 hP ?_)) (fun h => b42_111 hP (b42_116 hP ?_))
    · rw [if_neg h] at k; exact k
    · rw [if_pos h] at k; exact k
  all_goals unfold jn at k; rw [h] at k
  · exact b42_68 hP k
  · exact b42_60 hP k
  · exact b42_64 hP k
  · replace k : Q (some (.int (if b = 0 then 0 else a / b))) (LAY, RFu r, mem) := k
    refine b42_72 hP (fun h => b42_80 hP h (b42_83 hP ?_)) (fun h => b42_76 hP (b42_83 hP ?_))
    · rw [if_neg h] at k; exact k
    · rw [if_pos h] at k; exact k
  · replace k : Q (some (.int (if a < b then 1 else 0))) (LAY, RFu r, mem) := k
    refine b42_84 hP (fun h => b42_93 hP (b42_94 hP ?_)) (fun h => b42_89 hP (b42_94 hP ?_))
    · rw [if_neg (Int32.not_lt.mpr h)] at k; exact k
    · rw [if_pos (Int32.not_le.mp h)] at k; exact k
  · replace k : Q (some (.int (if b < a then 1 else 0))) (LAY, RFu r, mem) := k
    refine b42_95 hP (fun h => b42_104 hP (b42_105 hP ?_)) (fun h => b42_100 hP (b42_105 hP ?_))
    · rw [if_neg (Int32.not_lt.mpr h)] at k; exact k
    · rw [if_pos (Int32.not_le.mp h)] at k; exact k
theorem isR_ne (hq : isRule q) (ht : isTown t) (hs : isState s) : q + 1 ≠ q + 2 ∧ t + 2 ≠ q + 2 ∧ t + 3 ≠ q + 2 ∧ s + 1 ≠ q + 2 ∧ q ≠ q + 2 := by
  unfold isRule at hq
  unfold isTown at ht
  unfold isState at hs
  omega
theorem c40 {xs : List Int32} (hq : isRule q) (ht : isTown t) (hs : isState s) (hp : p < 8) (hr : RuL mem q xs) (k : ∀ mem', Ag [q + 2] mem mem' → Q (some (.int (rv (envF (mem (t + 2)) (mem (t + 3)) (mem (s + 1)) p) xs))) (LAY, RFu r, mem')) : xCall (d + 2) 40 [.ref q, .ref t, .ref s, .int (nI p)] (LAY, RFu r, mem) Q := by
  obtain ⟨hl, h2, h1, hv⟩ := hr
  obtain ⟨e1, e2, e3, e4, e5⟩ := isR_ne hq ht hs
  obtain ⟨v, hv⟩ := hv (envF (mem (t + 2)) (mem (t + 3)) (mem (s + 1)) p)
  rw [show rv (envF (mem (t + 2)) (mem (t + 3)) (mem (s + 1)) p) xs = v by unfold rv; rw [hv]; rfl] at k
  generalize he : envF (mem (t + 2)) (mem (t + 3)) (mem (s + 1)) p = env at hv
  refine c_in rfl rfl rfl fun P hP => b40_0 hP hq ht hs ?_
  have key := xloop (N := xs.length) (G := fun n => ∀ m' v6, Ag [q + 2] mem m' → VS (m' (q + 2)) (rrun env [] (xs.take n)) → P 6 [.ref q, .ref t, .ref s, .int (nI p), .int (nI (rrun env [] (xs.take n)).length + (-1)), .int (nI n), v6] [] (0, 0) (LAY, RFu r, m')) ?_ ?_
  · have e : nI 0 + (-1) = (-1 : Int32) := by decide
    have := key mem .null Ag.rfl' (fun j hj => absurd hj (Nat.not_lt_zero j))
    rw [List.take_zero] at this
    change P 6 [.ref q, .ref t, .ref s, .int (nI p), .int (nI 0 + (-1)), .int (nI 0), .null] [] (0, 0) (LAY, RFu r, mem) at this
    rw [e] at this
    exact this
  · intro m' v6 hA hVS
    have hm : m' q 2 = nI xs.length := by rw [hA q (by simp [e5]), h2]
    rw [List.take_length, hv] at hVS ⊢
    refine b40_6 hP hq ht hs (fun _ => b40_160 hP hq ht hs (vpn (by decide) (by decide)) ?_) (fun h => absurd (by rw [hm]; exact Int32.le_refl _) h)
    rw [nIc (by decide), show m' (q + 2) 0 = v from VS_top hVS]
    exact k m' hA
  · intro n hn ih m' v6 hA hVS
    have hm : m' q 2 = nI xs.length := by rw [hA q (by simp [e5]), h2]
    have hx : m' (q + 1) n = xs.getD n 0 := by rw [hA (q + 1) (fun z => e1 (List.mem_singleton.mp z)), h1 n hn]
    have hen : envF (m' (t + 2)) (m' (t + 3)) (m' (s + 1)) p = env := by rw [hA (t + 2) (fun z => e2 (List.mem_singleton.mp z)), hA (t + 3) (fun z => e3 (List.mem_singleton.mp z)), hA (s + 1) (fun z => e4 (List.mem_singleton.mp z)), he]
    rw [rrun_take hn] at ih
    have hL := rrun_len (env := env) (xs := xs.take n) (st := [])
    rw [List.length_take] at hL
    simp only [List.length_nil, Nat.zero_add] at hL
    generalize rrun env [] (xs.take n) = st at ih hVS hL ⊢
    generalize xs.getD n 0 = x at ih hx
    have hL : st.length < 40 := by omega
    have fin : ∀ m'' v6, Ag [q + 2] mem m'' → VS (m'' (q + 2)) (rst env st x) → P 154 [.ref q, .ref t, .ref s, .int (nI p), .int (nI (rst env st x).length + (-1)), .int (nI n), v6] [] (0, 0) (LAY, RFu r, m'') := fun m'' v6 g1 g2 => b40_154 hP hq ht hs (by rw [nIs]; exact ih m'' v6 g1 g2)
    refine b40_6 hP hq ht hs (fun h => absurd h (by rw [hm]; exact nI_ge hn (by omega))) (fun _ => b40_15 hP hq ht hs (vpn (by omega) (by decide)) (fun h => ?_) (fun h => ?_))
    · rw [nIc (by omega), hx] at h ⊢
      have hx2 : ¬ x < nI 2000 := Int32.not_lt.mpr h
      have e113 : (∀ b a t, st = b :: a :: t → rst env st x = jn (x - nI 2000) a b :: t) → ((∀ b a t, st ≠ b :: a :: t) → rst env st x = st) → P 113 [.ref q, .ref t, .ref s, .int (nI p), .int (nI st.length + (-1)), .int (nI n), .int x] [] (0, 0) (LAY, RFu r, m') := fun f1 f2 => by
        match st, hVS, hL, fin, f1, f2 with
        | [], hVS, hL, fin, f1, f2 =>
          rw [f2 (fun b a t q => by cases q)] at fin
          exact b40_113 hP hq ht hs (fun _ => fin m' _ hA hVS) (fun h => absurd (by decide) h)
        | [a], hVS, hL, fin, f1, f2 =>
          rw [f2 (fun b a t q => by cases q)] at fin
          exact b40_113 hP hq ht hs (fun _ => fin m' _ hA hVS) (fun h => absurd (by show nI 1 + (-1) < nI 1; decide) h)
        | b :: a :: t', hVS, hL, fin, f1, f2 =>
          rw [f1 b a t' rfl] at fin
          simp only [List.length_cons] at hL ⊢ fin
          rw [topI]
          refine b40_113 hP hq ht hs (fun h => absurd h (nI_nlt (by omega) (by omega))) (fun _ => b40_119 hP hq ht hs (by rw [topI]; exact vpn (by omega) (by decide)) (by rw [topI, nIs]; exact vpn (by omega) (by decide)) ?_)
          rw [topI, nIs, nIc (by omega), nIc (by omega), show m' (q + 2) (t'.length + 1) = b from VS_top hVS, VS_top (VS_tail hVS)]
          refine c42 (Bk.i (b40_153 hP hq ht hs (vpn (by omega) (by decide)) ?_))
          rw [nIc (by omega)]
          have := fin (xu2 m' (q + 2) t'.length (jn (x - nI 2000) a b)) (.int x) (hA.u2 (by simp)) (by rw [xu2_eq]; exact VS_push (VS_tail (VS_tail hVS)))
          rw [topI] at this
          exact this
      refine b40_82 hP hq ht hs (fun h3 => e113 (fun b a t q => ?_) (fun q => ?_)) (fun h3 => b40_90 hP hq ht hs (fun h4 => e113 (fun b a t q => ?_) (fun q => ?_)) (fun h4 => ?_))
      · unfold rst; rw [if_neg hx2, if_neg h3, q]
      · unfold rst; rw [if_neg hx2, if_neg h3]
        match st, q with
        | [], _ => rfl
        | [a], _ => rfl
        | b :: a :: t, q => exact absurd rfl (q b a t)
      · rw [q] at h4 hL
        simp only [List.length_cons] at h4 hL
        rw [topI] at h4
        exact absurd h4 (nI_pos (by omega))
      · cases st with
        | nil => unfold rst; rw [if_neg hx2, if_pos h3]
        | cons a t =>
          simp only [List.length_cons] at h4 hL
          rw [topI] at h4
          exact absurd h4 (nI_pos (by omega))
      · cases st with
        | nil => exact absurd (by show nI 0 + (-1) < 0; decide) h4
        | cons a t' =>
          rw [show rst env (a :: t') x = (-a) :: t' by unfold rst; rw [if_neg hx2, if_pos h3]] at fin
          simp only [List.length_cons] at hL ⊢ fin
          rw [topI] at fin ⊢
          refine b40_95 hP hq ht hs (vpn (by omega) (by decide)) (vpn (by omega) (by decide)) ?_
          rw [nIc (by omega), VS_top hVS]
          exact fin _ _ (hA.u2 (by simp)) (by rw [xu2_eq]; exact VS_push (VS_tail hVS))
    · rw [nIc (by omega), hx] at h ⊢
      have hx2 : x < nI 2000 := Int32.not_le.mp h
      have e : rst env st x = (if x < nI 1000 then x else env (x - nI 1000)) :: st := by unfold rst; rw [if_pos hx2]
      rw [e] at fin
      simp only [List.length_cons, topI] at fin
      refine b40_32 hP hq ht hs (fun _ => b40_47 hP hq ht hs (fun h5 => b40_66 hP hq ht hs (c41 ht hs hp (Bk.i (b40_78 hP hq ht hs (by rw [topJ]; exact vpn (by omega) (by decide)) ?_)))) (fun h5 => b40_61 hP hq ht hs (b40_78 hP hq ht hs (by rw [topJ]; exact vpn (by omega) (by decide)) ?_))) (fun h5 => absurd (by rw [topJ]; exact nI_lt hL (by decide)) h5)
      · rw [topJ, nIc (by omega), hen]
        rw [if_neg (Int32.not_lt.mpr h5)] at fin
        exact fin _ _ (hA.u2 (by simp)) (by rw [xu2_eq]; exact VS_push hVS)
      · rw [topJ, nIc (by omega)]
        rw [if_pos (Int32.not_le.mp h5)] at fin
        exact fin _ _ (hA.u2 (by simp)) (by rw [xu2_eq]; exact VS_push hVS)
end C
