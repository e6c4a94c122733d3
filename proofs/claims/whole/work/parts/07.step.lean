/-! one step of the abstract machine, as what must hold for it: P of where it goes, Q of where it ends (none: void; some .null: thrown) -/
def xInit (M : Nat) : Bool := decide ((xY M).name = "<init>")
def xGrow (M : Nat) : Bool := xInit M || decide (M = 242)
def xThrows (M : Nat) : Bool := decide (M = 104) || decide (M = 118) || decide (M = 143) || decide (M = 150)
def xThr (M pc : Nat) : Bool := (decide (M = 104) && (decide (pc = 11) || decide (pc = 235))) || (decide (M = 118) && decide (pc = 21)) || (decide (M = 143) && decide (pc = 21)) || (decide (M = 150) && decide (pc = 11))
/-- what a call may make: cells and slots -/
def xAl (M : Nat) : Nat × Nat :=
  if M = 242 then (601024, 7293033)
  else if M = 97 then (600, 40000)
  else if M = 156 then (100, 90000)
  else if M = 35 then (5, 100)
  else if M = 59 then (5, 130)
  else if xInit M then (40, 2000)
  else if xThrows M || decide (xC M = 13) then (1, 6)
  else (0, 0)
abbrev xPr : Type := Nat → List Value → List Value → Nat × Nat → xSt → Prop
abbrev xQr : Type := Option Value → xSt → Prop
def xCnd : Jvm.ClassFile.Cond → Int32 → Int32 → Prop
  | .eq, x, y => x = y
  | .ne, x, y => ¬ x = y
  | .lt, x, y => x < y
  | .ge, x, y => y ≤ x
  | .gt, x, y => y < x
  | .le, x, y => x ≤ y
def xz (mem : Nat → Nat → Int32) (n : Nat) : Nat → Nat → Int32 := fun c j => if c < n then mem c j else 0
def xBin (S : List Value) (f : Int32 → Int32 → Int32) (K : List Value → Prop) : Prop := ∃ y x r, S = .int y :: .int x :: r ∧ K (.int (f x y) :: r)
def xUn (S : List Value) (f : Int32 → Value) (K : List Value → Prop) : Prop := ∃ x r, S = .int x :: r ∧ K (f x :: r)
def xTo (pc : Nat) (off : Int) (K : Nat → Prop) : Prop := ∃ t : Nat, (pc : Int) + off = (t : Int) ∧ K t
def xCallOK (M M' : Nat) (L r : List Value) (u : Nat × Nat) (σ : xSt) : Prop :=
  xThrows M' = false ∧ M' < 243 ∧ (r.map Value.category).sum ≤ 8 ∧ u.1 + (xAl M').1 ≤ (xAl M).1 ∧ u.2 + (xAl M').2 ≤ (xAl M).2 ∧ (xGrow M' = true → xGrow M = true ∧ xOK σ.1 σ.2.1 L r)
def xBack (P : xPr) (M' pc : Nat) (L r : List Value) (u : Nat × Nat) : xQr := fun v σ' => v ≠ some .null ∧ P (pc + 3) L (v.toList ++ r) (u.1 + (xAl M').1, u.2 + (xAl M').2) σ'
def xAt : ArrayType → Nat
  | .int => 13
  | .byte => 14
  | .boolean => 15
  | .long => 16
  | _ => 99
def xNar : Nat → Int32 → Int32
  | 14, x => vp_nar .byte x
  | 15, x => vp_nar .boolean x
  | _, x => x
def xI (CW : Nat → List Value → xSt → xQr → Prop) (scr : Option (Nat × (Nat → Int32))) (M : Nat) (P : xPr) (Q : xQr) (pc : Nat) (L S : List Value) (u : Nat × Nat) (σ : xSt) (len : Nat) : Instr → Prop
  | .iconst n => len = 1 ∧ P (pc + 1) L (.int (Int32.ofInt n) :: S) u σ
  | .bipush n => len = 2 ∧ P (pc + 2) L (.int (Int8.ofInt n).toInt32 :: S) u σ
  | .sipush n => len = 3 ∧ P (pc + 3) L (.int (Int16.ofInt n).toInt32 :: S) u σ
  | .ldc k => len = 2 ∧ ∃ v w, xKR (xC M) k = some (v, w) ∧ P (pc + 2) L (.int v :: S) u σ
  | .ldc_w k => len = 3 ∧ ∃ v w, xKR (xC M) k = some (v, w) ∧ P (pc + 3) L (.int v :: S) u σ
  | .iload_n k => len = 1 ∧ ∃ x, L[(k : Nat)]? = some (.int x) ∧ P (pc + 1) L (.int x :: S) u σ
  | .iload k => len = 2 ∧ ∃ x, L[k]? = some (.int x) ∧ P (pc + 2) L (.int x :: S) u σ
  | .aload_n k => len = 1 ∧ ∃ x, L[(k : Nat)]? = some (.ref x) ∧ P (pc + 1) L (.ref x :: S) u σ
  | .aload k => len = 2 ∧ ∃ x, L[k]? = some (.ref x) ∧ P (pc + 2) L (.ref x :: S) u σ
  | .istore_n k => len = 1 ∧ ∃ x r, S = .int x :: r ∧ (k : Nat) < L.length ∧ P (pc + 1) (L.set k (.int x)) r u σ
  | .istore k => len = 2 ∧ ∃ x r, S = .int x :: r ∧ k < L.length ∧ P (pc + 2) (L.set k (.int x)) r u σ
  | .astore_n k => len = 1 ∧ ∃ x r, S = .ref x :: r ∧ (k : Nat) < L.length ∧ P (pc + 1) (L.set k (.ref x)) r u σ
  | .astore k => len = 2 ∧ ∃ x r, S = .ref x :: r ∧ k < L.length ∧ P (pc + 2) (L.set k (.ref x)) r u σ
  | .iinc k n => len = 3 ∧ ∃ x, L[k]? = some (.int x) ∧ P (pc + 3) (L.set k (.int (x + Int32.ofInt n))) S u σ
  | .iadd => len = 1 ∧ xBin S (fun x y => x + y) (fun S' => P (pc + 1) L S' u σ)
  | .isub => len = 1 ∧ xBin S (fun x y => x - y) (fun S' => P (pc + 1) L S' u σ)
  | .imul => len = 1 ∧ xBin S (fun x y => x * y) (fun S' => P (pc + 1) L S' u σ)
  | .iand => len = 1 ∧ xBin S (fun x y => x &&& y) (fun S' => P (pc + 1) L S' u σ)
  | .ior => len = 1 ∧ xBin S (fun x y => x ||| y) (fun S' => P (pc + 1) L S' u σ)
  | .ixor => len = 1 ∧ xBin S (fun x y => x ^^^ y) (fun S' => P (pc + 1) L S' u σ)
  | .ishl => len = 1 ∧ xBin S (fun x y => x <<< (y &&& 31)) (fun S' => P (pc + 1) L S' u σ)
  | .ishr => len = 1 ∧ xBin S (fun x y => x >>> (y &&& 31)) (fun S' => P (pc + 1) L S' u σ)
  | .iushr => len = 1 ∧ xBin S (fun x y => (x.toUInt32 >>> (y.toUInt32 &&& Int32.toUInt32 31)).toInt32) (fun S' => P (pc + 1) L S' u σ)
  | .idiv => len = 1 ∧ ∃ y x r, S = .int y :: .int x :: r ∧ ¬ y = 0 ∧ P (pc + 1) L (.int (x / y) :: r) u σ
  | .irem => len = 1 ∧ ∃ y x r, S = .int y :: .int x :: r ∧ ¬ y = 0 ∧ P (pc + 1) L (.int (x - x / y * y) :: r) u σ
  | .ineg => len = 1 ∧ xUn S (fun x => .int (-x)) (fun S' => P (pc + 1) L S' u σ)
  | .i2l => len = 1 ∧ xUn S (fun x => .long x.toInt64) (fun S' => P (pc + 1) L S' u σ)
  | .i2b => len = 1 ∧ xUn S (fun x => .int x.toInt8.toInt32) (fun S' => P (pc + 1) L S' u σ)
  | .i2s => len = 1 ∧ xUn S (fun x => .int x.toInt16.toInt32) (fun S' => P (pc + 1) L S' u σ)
  | .lcmp => len = 1 ∧ ∃ y x r, S = .long y :: .long x :: r ∧ P (pc + 1) L (.int (lg_cmp x y) :: r) u σ
  | .dup => len = 1 ∧ ∃ v r, S = v :: r ∧ v.category = 1 ∧ P (pc + 1) L (v :: v :: r) u σ
  | .dup_x1 => len = 1 ∧ ∃ v w r, S = v :: w :: r ∧ v.category = 1 ∧ w.category = 1 ∧ P (pc + 1) L (v :: w :: v :: r) u σ
  | .dup2 => len = 1 ∧ ∃ v w r, S = v :: w :: r ∧ v.category = 1 ∧ w.category = 1 ∧ P (pc + 1) L (v :: w :: v :: w :: r) u σ
  | .pop => len = 1 ∧ ∃ v r, S = v :: r ∧ v.category = 1 ∧ P (pc + 1) L r u σ
  | .goto off => len = 3 ∧ xTo pc off (fun t => P t L S u σ)
  | .ifCond c off => len = 3 ∧ ∃ x r, S = .int x :: r ∧ xTo pc off (fun t => (xCnd c x 0 → P t L r u σ) ∧ (¬ xCnd c x 0 → P (pc + 3) L r u σ))
  | .if_icmp c off => len = 3 ∧ ∃ y x r, S = .int y :: .int x :: r ∧ xTo pc off (fun t => (xCnd c x y → P t L r u σ) ∧ (¬ xCnd c x y → P (pc + 3) L r u σ))
  | .tableswitch d lo hi offs => ∃ x r, S = .int x :: r ∧ (hi - lo + 1).toNat ≤ offs.size ∧ ((x.toInt < lo ∨ hi < x.toInt) → xTo pc d (fun t => P t L r u σ)) ∧ (¬ x.toInt < lo → ¬ hi < x.toInt → ∀ off, offs[(x.toInt - lo).toNat]? = some off → xTo pc off (fun t => P t L r u σ))
  | .lookupswitch d ps => ∃ x r, S = .int x :: r ∧ (ps.toList.zip (ps.toList.drop 1)).all (fun (a, next) => a.1 < next.1) = true ∧ xTo pc (Op.lookupswitch.offset ps.toList d x.toInt) (fun t => P t L r u σ)
  | .getfield k => len = 3 ∧ ∃ o r ci j, S = .ref o :: r ∧ xFR (xC M) k = some (ci, j) ∧ σ.1[o]? = some (ci, xNF ci) ∧ P (pc + 3) L ((if xRF ci j then xav ((σ.2.1.getD o []).getD j 0) else .int (σ.2.2 o j)) :: r) u σ
  | .putfield k => len = 3 ∧ ∃ v o r ci j, S = v :: .ref o :: r ∧ xFR (xC M) k = some (ci, j) ∧ σ.1[o]? = some (ci, xNF ci) ∧ (xFn ci j = true → xInit M = true ∧ ci = xC M) ∧
      ((xRF ci j = false ∧ ∃ x, v = .int x ∧ P (pc + 3) L r u (σ.1, σ.2.1, xu2 σ.2.2 o j x)) ∨ (xRF ci j = true ∧ o < σ.2.1.length ∧ j < (σ.2.1.getD o []).length ∧ ∃ a, v = .ref a ∧ P (pc + 3) L r u (σ.1, xrs σ.2.1 o j (a + 1), σ.2.2)))
  | .iaload => len = 1 ∧ ∃ i a r n, S = .int i :: .ref a :: r ∧ vp_in i n ∧ ((σ.1[a]? = some (13, n) ∧ P (pc + 1) L (.int (σ.2.2 a i.toNatClampNeg) :: r) u σ) ∨ (a = 100000 ∧ ∃ xs, scr = some (n, xs) ∧ P (pc + 1) L (.int (xs i.toNatClampNeg) :: r) u σ))
  | .baload => len = 1 ∧ ∃ i a r n kk, S = .int i :: .ref a :: r ∧ vp_in i n ∧ (kk = 14 ∨ kk = 15) ∧ σ.1[a]? = some (kk, n) ∧ P (pc + 1) L (.int (σ.2.2 a i.toNatClampNeg) :: r) u σ
  | .laload => len = 1 ∧ ∃ i a r n, S = .int i :: .ref a :: r ∧ vp_in i n ∧ σ.1[a]? = some (16, n) ∧ P (pc + 1) L (.long (σ.2.2 a i.toNatClampNeg).toInt64 :: r) u σ
  | .aaload => len = 1 ∧ ∃ i a r n kk, S = .int i :: .ref a :: r ∧ vp_in i n ∧ (kk = 17 ∨ kk = 18) ∧ σ.1[a]? = some (kk, n) ∧ P (pc + 1) L (xav ((σ.2.1.getD a []).getD i.toNatClampNeg 0) :: r) u σ
  | .iastore => len = 1 ∧ ∃ x i a r n, S = .int x :: .int i :: .ref a :: r ∧ vp_in i n ∧ σ.1[a]? = some (13, n) ∧ P (pc + 1) L r u (σ.1, σ.2.1, xu2 σ.2.2 a i.toNatClampNeg x)
  | .bastore => len = 1 ∧ ∃ x i a r n kk, S = .int x :: .int i :: .ref a :: r ∧ vp_in i n ∧ (kk = 14 ∨ kk = 15) ∧ σ.1[a]? = some (kk, n) ∧ P (pc + 1) L r u (σ.1, σ.2.1, xu2 σ.2.2 a i.toNatClampNeg (xNar kk x))
  | .lastore => len = 1 ∧ ∃ x i a r n, S = .long (Int32.toInt64 x) :: .int i :: .ref a :: r ∧ vp_in i n ∧ σ.1[a]? = some (16, n) ∧ P (pc + 1) L r u (σ.1, σ.2.1, xu2 σ.2.2 a i.toNatClampNeg x)
  | .arraylength => len = 1 ∧ ∃ a r n, S = .ref a :: r ∧ ((∃ kk, 13 ≤ kk ∧ kk ≤ 18 ∧ σ.1[a]? = some (kk, n)) ∨ (a = 100000 ∧ ∃ xs, scr = some (n, xs))) ∧ P (pc + 1) L (.int (Int32.ofNat n) :: r) u σ
  | .newarray t => len = 2 ∧ ∃ x r N, S = .int x :: r ∧ ¬ x < 0 ∧ x.toNatClampNeg = N ∧ N ≤ 65536 ∧ xAt t < 99 ∧ xGrow M = true ∧ u.1 + 1 ≤ (xAl M).1 ∧ u.2 + N ≤ (xAl M).2 ∧ xOK σ.1 σ.2.1 L r ∧ P (pc + 2) L (.ref σ.1.length :: r) (u.1 + 1, u.2 + N) (σ.1 ++ [(xAt t, N)], σ.2.1 ++ [[]], xz σ.2.2 σ.1.length)
  | .multianewarray k d => d = 2 ∧ len = 4 ∧ ∃ y x r N K kk w, S = .int y :: .int x :: r ∧ ¬ x < 0 ∧ ¬ y < 0 ∧ x.toNatClampNeg = N ∧ y.toNatClampNeg = K ∧ N ≤ 1000 ∧ K ≤ 65536 ∧ xAR (xC M) k = some (kk, w) ∧ xGrow M = true ∧ u.1 + (1 + N) ≤ (xAl M).1 ∧ u.2 + (N + N * K) ≤ (xAl M).2 ∧ xOK σ.1 σ.2.1 L r ∧ σ.1.length + N < 90000 ∧
      P (pc + 4) L (.ref σ.1.length :: r) (u.1 + 1 + N, u.2 + N + N * K) (σ.1 ++ ((kk + 4, N) :: List.replicate N (kk, K)), σ.2.1 ++ ((List.range N).map (fun i => σ.1.length + 2 + i) :: List.replicate N []), xz σ.2.2 σ.1.length)
  | .new k => len = 3 ∧ ((∃ ci w, xNR (xC M) k = some (ci, w) ∧ xGrow M = true ∧ u.1 + 1 ≤ (xAl M).1 ∧ u.2 + xNF ci ≤ (xAl M).2 ∧ xOK σ.1 σ.2.1 L S ∧ P (pc + 3) L (.ref σ.1.length :: S) (u.1 + 1, u.2 + xNF ci) (σ.1 ++ [(ci, xNF ci)], σ.2.1 ++ [List.replicate (xNF ci) 0], xz σ.2.2 σ.1.length)) ∨ (xThr M pc = true ∧ S = [] ∧ u = (0, 0) ∧ Q (some .null) σ))
  | .invokevirtual k => len = 3 ∧ ∃ M' As b r n, xCR (xC M) k = some (M', 0) ∧ As.length = xN M' ∧ (∀ v ∈ As, v.category = 1) ∧ S = As.reverse ++ .ref b :: r ∧ σ.1[b]? = some (xC M', n) ∧ xCallOK M M' L r u σ ∧ CW M' (.ref b :: As) σ (xBack P M' pc L r u)
  | .invokestatic k => len = 3 ∧ ((∃ M' As r, xCR (xC M) k = some (M', 1) ∧ As.length = xN M' ∧ (∀ v ∈ As, v.category = 1) ∧ S = As.reverse ++ r ∧ xCallOK M M' L r u σ ∧ CW M' As σ (xBack P M' pc L r u)) ∨
      (∃ z y x r, xCR (xC M) k = some (z, 6) ∧ S = .int y :: .int x :: r ∧ (r.map Value.category).sum ≤ 8 ∧ P (pc + 3) L (.int (if x < y then y else x) :: r) u σ) ∨
      (∃ z y x r, xCR (xC M) k = some (z, 7) ∧ S = .int y :: .int x :: r ∧ (r.map Value.category).sum ≤ 8 ∧ P (pc + 3) L (.int (if y < x then y else x) :: r) u σ) ∨
      (∃ z y x r, xCR (xC M) k = some (z, 8) ∧ S = .int y :: .int x :: r ∧ y ≠ 0 ∧ (r.map Value.category).sum ≤ 8 ∧ P (pc + 3) L (.int (Jvm.Free.MCB.fmod x y) :: r) u σ) ∨
      (∃ z n dp a sp a0 r n0 n1, xCR (xC M) k = some (z, 5) ∧ S = .int n :: .int dp :: .ref a :: .int sp :: .ref a0 :: r ∧ σ.1[a0]? = some (13, n0) ∧ σ.1[a]? = some (13, n1) ∧ ¬ sp < 0 ∧ ¬ dp < 0 ∧ ¬ n < 0 ∧ sp.toNatClampNeg + n.toNatClampNeg ≤ n0 ∧ dp.toNatClampNeg + n.toNatClampNeg ≤ n1 ∧ (r.map Value.category).sum ≤ 8 ∧
        P (pc + 3) L r u (σ.1, σ.2.1, xuA σ.2.2 a (va_cpy (σ.2.2 a0) (σ.2.2 a) sp.toNatClampNeg dp.toNatClampNeg n.toNatClampNeg))))
  | .invokespecial k => len = 3 ∧ ((∃ z o r, xCR (xC M) k = some (z, 4) ∧ S = .ref o :: r ∧ (r.map Value.category).sum ≤ 8 ∧ P (pc + 3) L r u σ) ∨
      (∃ M' kd As b r, xCR (xC M) k = some (M', kd) ∧ (kd = 2 ∨ kd = 3) ∧ As.length = xN M' ∧ (∀ v ∈ As, v.category = 1) ∧ S = As.reverse ++ .ref b :: r ∧ xCallOK M M' L r u σ ∧ CW M' (.ref b :: As) σ (xBack P M' pc L r u)))
  | .ireturn => len = 1 ∧ ∃ v, S = [.int v] ∧ (xRt M = some .int ∨ (xRt M = some .boolean ∧ (v = 0 ∨ v = 1))) ∧ Q (some (.int v)) σ
  | .return_ => len = 1 ∧ S = [] ∧ xRt M = none ∧ Q none σ
  | _ => False
def xStep (CW : Nat → List Value → xSt → xQr → Prop) (scr : Option (Nat × (Nat → Int32))) (M : Nat) (P : xPr) (Q : xQr) (pc : Nat) (L S : List Value) (u : Nat × Nat) (σ : xSt) : Prop := match decode (xB M) pc with
  | .ok (i, len) => xI CW scr M P Q pc L S u σ len i
  | _ => False
/-- the law's four methods that catch: which method of the class each calls -/
def xHelper (M : Nat) : Option Nat := if M = 238 then some 104 else if M = 239 then some 118 else if M = 240 then some 143 else if M = 241 then some 150 else none
/-- a call, at most d deep: from here the method ends, with Q -/
def xCall : Nat → Nat → List Value → xSt → xQr → Prop
  | 0, _, _, _, _ => False
  | d + 1, M, As, σ, Q =>
    (xHelper M = none ∧ As.length ≤ xL M ∧ ∀ P : xPr, (∀ pc L S u σ, xStep (xCall d) none M P Q pc L S u σ → P pc L S u σ) → P 0 (As ++ List.replicate (xL M - As.length) .null) [] (0, 0) σ) ∨
    (∃ T b Is o n n', xHelper M = some T ∧ As = .ref b :: (List.map Value.int Is ++ [.ref o]) ∧ Is.length = xN T ∧ σ.1[b]? = some (11, n') ∧ σ.1[o]? = some (16, n) ∧ 0 < n ∧ xCall d T (.ref b :: List.map Value.int Is) σ (fun v σ' => (v = some .null ∧ Q (some (.int 1)) σ') ∨ ∃ x, v = some (.int x) ∧ Q (some (.int 0)) (σ'.1, σ'.2.1, xu2 σ'.2.2 o 0 x)))
