/-! calls that look ahead -/
def gD (mem : Nat → Nat → Int32) : xCf := cfD (D0 mem)
theorem RRc_g {mem : Nat → Nat → Int32} {N R B : Nat} (h : RRc mem N R B) : fN (gD mem) = N ∧ fR (gD mem) = R ∧ TC mem 5 ∧ CfE (cfC mem 5) (gD mem) ∧ CfM mem (gD mem) ∧ fPok (gD mem) R ∧ DOk (D0 mem) ∧ TwD mem 5 (D0 mem) ∧ MwD mem (D0 mem) := by
  obtain ⟨e1, e2, d, t, m⟩ := RTo_D h.2.2.1
  obtain ⟨q1, q2⟩ := TwD_TC t d
  have := fPok_D d
  rw [e1] at this
  exact ⟨e2, e1, q1, q2, MwD_Cf m d, this, d, t, m⟩
theorem SV.now {N R B : Nat} {c : Nat → Int32} (h : SV N R B c) : ∃ now, now ≤ B ∧ c 120 = nI now := h.2.2.2.2.2.2.1
def fuW : List Nat := [22, 25, 50, 52, 53, 54]
/-- j quarters ahead, in the class -/
def FI (mem : Nat → Nat → Int32) (j : Nat) (m' : Nat → Nat → Int32) : Prop := Ag fuW mem m' ∧ m' 50 = qtrs (gD mem) (mem 48) j
theorem FI_Z {mem m' : Nat → Nat → Int32} {N R B j : Nat} (h : RRc mem N R B) (f : FI mem j m') : RZe m' := by
  obtain ⟨hN, -⟩ := RRc_g h
  refine h.2.2.2.2.2.2.2.mv fun c hc => ?_
  by_cases q : c = 50
  · refine Or.inr fun i hi => ?_
    rw [q, f.2, qtrs_121 (by rw [hN]; exact h.2.2.2.1.2.2.1) hi]
    exact h.2.2.2.1.2.2.2.2.2.2.1 i hi
  · refine Or.inl (f.1 c ?_)
    have : ∀ c ∈ zC, c ∉ fuW ∨ c = 50 := by decide
    exact (this c hc).resolve_right q
section C
variable {d r j N R B : Nat} {mem m' m1 m2 : Nat → Nat → Int32} {Q : xQr} {g : xCf} {c : Nat → Int32}
theorem c60i (h : RRc mem N R B) (k : ∀ m', FI mem 0 m' → Q none (LAY, RFu r, m')) : xCall (d + 1) 60 [.ref 49, .ref 47] (LAY, RFu r, mem) Q :=
  c60f (fun i hi => h.2.2.2.2.2.2.2 48 (by decide) i hi) (fun i hi => h.2.2.2.2.2.2.2 50 (by decide) i hi) fun m' a e => k m' ⟨a.mono (by decide), e⟩
theorem c8f (h : RRc mem N R B) (hB : B < 500000000) (hj : j < 1000) (f : FI mem j m') (k : ∀ m2 y, FI mem (j + 1) m2 → Q (some (.int y)) (LAY, RFu r, m2)) : xCall (d + 5) 8 [.ref 51, .ref 5, .ref 49] (LAY, RFu r, m') Q := by
  obtain ⟨e1, e2, q1, q2, -⟩ := RRc_g h
  obtain ⟨f1, f2⟩ := f
  obtain ⟨now, n1, n2⟩ := h.2.2.2.1.2.now
  have hN : fN (gD mem) ≤ 8 := by rw [e1]; exact h.2.2.2.1.2.2.1
  have hO : OKc (fN (gD mem)) (mem 48) := by rw [e1]; exact h.2.2.2.1.2.ok
  have ht : ∀ k, k ∈ tCells → m' (5 + k) = mem (5 + k) := fun k hk => f1 _ (by
    have : ∀ k ∈ tCells, 5 + k ∉ fuW := by decide
    exact this k hk)
  refine c8g (s := 49) (g := gD mem) (now := now + j) (Or.inl rfl) (Or.inr (Or.inl rfl)) (TC_eq ht q1) (by rw [cf_eq ht]; exact q2) (by rw [f2]; exact OKc_qtrs hN hO j) (by rw [f2]; exact qtrs_120 hN n2 j) (by omega) fun m2 a e _ => k m2 _ ⟨f1.trans (a.mono (by decide)), ?_⟩
  rw [show (50 : Nat) = 49 + 1 from rfl, e, f2]
  rfl
/-- what the reference's quarters need -/
def MB (m1 : Nat → Nat → Int32) (g : xCf) (c : Nat → Int32) : Prop := CfM m1 g ∧ PV (fN g) c ∧ MV m1 (fN g) c ∧ ∃ now, now < 500000000 ∧ c 120 = nI now
def MI (m1 : Nat → Nat → Int32) (g : xCf) (c : Nat → Int32) (j : Nat) (m' : Nat → Nat → Int32) : Prop := AgM (133 :: mqW) mqV m1 m' ∧ LV (m' 133) 0 (fN g) c ∧ MV m' (fN g) (qtrs g c j)
theorem m191 (b : MB m1 g c) (k : ∀ m2, MI m1 g c 0 m2 → Q none (LAY, RFu r, m2)) : xCall (d + 1) 191 [.ref 108, .ref 133, .int (nI 0)] (LAY, RFu r, m1) Q :=
  c191 (k := 0) (np := 121) (Or.inr (Or.inl rfl)) rfl (by decide) (by decide) b.1.2.2.2.1 b.2.2.1 fun m2 a2 l _ => k m2 ⟨a2.mono (by decide) (by simp), l, b.2.2.1.ag a2 (by decide) (by simp)⟩
theorem MB20 {x : Int32} (b : MB m1 g c) : MB (xu2 m1 108 20 x) g c := ⟨b.1.ag th20 (by simp) (by decide), b.2.1, b.2.2.1.ag th20 (by simp) (by decide), b.2.2.2⟩
theorem t20 {W V : List Nat} {x : Int32} (a : AgM W V (xu2 m1 108 20 x) m2) : AgM W (20 :: V) m1 m2 := (th20.mono (by simp) (by simp)).trans (a.mono (fun _ h => h) (fun _ h => List.mem_cons_of_mem _ h))
theorem m190 (b : MB m1 g c) (i : MI m1 g c j m') (hj : j < 1000) (k : ∀ r2 m2 y, MI m1 g c (j + 1) m2 → Q (some (.int y)) (LAY, RFu r2, m2)) : xCall (d + 73) 190 [.ref 108] (LAY, RFu r, m') Q := by
  obtain ⟨hC, hPV, hM, now, n1, n2⟩ := b
  obtain ⟨a, l, v⟩ := i
  have hN := hC.2.2.2.1
  refine c190 (now := now + j) (hC.ag a (by decide) (by decide)) (qtrs_PV hN hC.2.1 hPV j) v (qtrs_120 hN n2 j) (by omega) fun r2 m2 a2 v2 _ _ => k r2 m2 _ ⟨a.trans (a2.mono (by decide) (by decide)), ?_, v2⟩
  rw [a2.1 133 (by decide) (by decide)]
  exact l
theorem m192 (b : MB m1 g c) (i : MI m1 g c j m') (k : ∀ m2, AgM (133 :: mqW) mqV m1 m2 → MV m2 (fN g) c → Q none (LAY, RFu r, m2)) : xCall (d + 1) 192 [.ref 108, .ref 133, .int (nI 0)] (LAY, RFu r, m') Q := by
  obtain ⟨hC, hPV, hM, now, n1, n2⟩ := b
  obtain ⟨a, l, v⟩ := i
  exact c192 (k := 0) (np := 121) (Or.inr (Or.inl rfl)) rfl (by decide) (by decide) hC.2.2.2.1 (by rw [a.2 2 (by decide), hC.2.2.1]) l fun m2 a2 v2 => k m2 (a.trans (a2.mono (by decide) (by decide))) v2
theorem RRc_MB {W : List Nat} (h : RRc mem N R B) (hB : B < 500000000) (a : Ag W mem m1) (d : (cfCells ++ mvC).all (fun c => decide (c ∉ W)) = true) (d2 : 108 ∉ W) : MB m1 (gD mem) (mem 48) := by
  obtain ⟨e1, e2, q1, q2, q3, -⟩ := RRc_g h
  obtain ⟨now, n1, n2⟩ := h.2.2.2.1.2.now
  have d := List.all_eq_true.mp d
  have e : ∀ c, c ∈ cfCells ++ mvC → m1 c = mem c := fun c hc => a c (of_decide_eq_true (d c hc))
  have aM : AgM W [] mem m1 := ⟨fun c hc _ => a c hc, fun j _ => by rw [a 108 d2]⟩
  refine ⟨q3.ag aM (fun x hx => of_decide_eq_true (d x (List.mem_append.mpr (Or.inl hx)))) (by simp), by rw [e1]; exact h.2.2.2.1.2.1, ?_, now, by omega, n2⟩
  rw [e1]
  exact h.2.2.2.1.1.ag aM (fun x hx => of_decide_eq_true (d x (List.mem_append.mpr (Or.inr hx)))) (by simp)
/-- the end of a call that looked ahead -/
theorem kR0 {W1 : List Nat} {m0 : Nat → Nat → Int32} (h : RRc mem N R B) (f : FI mem j m0) (a1 : Ag W1 m0 m1) (w1 : W1 = [] ∨ W1 = [144]) (a2 : AgM (133 :: mqW) (20 :: mqV) m1 m2) (v : MV m2 N (mem 48)) : RRc m2 N R B := by
  obtain ⟨xs, x1, x2⟩ := h.2.1
  have a1 : Ag [144] m0 m1 := a1.mono (by rcases w1 with q | q <;> rw [q] <;> simp)
  refine RR_ro (xs := xs) h ((f.1.mono (by decide)).trans (a1.mono (by decide))) (RZe_ag (FI_Z h f) a1 (by decide)) ?_ (a2.mono (by decide) (by decide)) v ?_
  · refine x1.mv ⟨fun c hc => ?_, fun j hj => by cases hj⟩
    have : ∀ c ∈ [3, 4], c ∉ [144] ∧ c ∉ fuW := by decide
    rw [a1 c (this c hc).1, f.1 c (this c hc).2]
  · unfold RwM at x2 ⊢
    rw [a2.2 19 (by decide), a2.1 123 (by decide) (by decide), a1 123 (by decide), a1 108 (by decide), f.1 123 (by decide), f.1 108 (by decide)]
    exact x2
theorem kR1 {m0 : Nat → Nat → Int32} {xs : List Int32} (h : RRc mem N R B) (f : FI mem j m0) (a1 : Ag [3, 4] m0 m1) (w : RwC m1 xs) (a2 : AgM (123 :: 133 :: mqW) (20 :: 19 :: mqV) m1 m2) (v : MV m2 N (mem 48)) (w2 : RwM m2 xs) : RRc m2 N R B :=
  RR_ro (xs := xs) h ((f.1.mono (by decide)).trans (a1.mono (by decide))) (RZe_ag (FI_Z h f) a1 (by decide)) w (a2.mono (by decide) (by decide)) v w2
/-- the row told behind it -/
theorem m161 {x : Int32} (a : AgM (133 :: mqW) mqV m1 m') (v : MV m' N c) (k : ∀ m2, AgM (123 :: 133 :: mqW) (19 :: mqV) m1 m2 → MV m2 N c → RwM m2 [x] → Q none (LAY, RFu r, m2)) : xCall (d + 1) 161 [.ref 108, .int x] (LAY, RFu r, xu2 m' 108 19 (nI 0)) Q := by
  have a19 : AgM [] [19] m' (xu2 m' 108 19 (nI 0)) := AgM.rfl'.us (by simp)
  exact c161 (xs := []) (RwM_nil (by rw [xu2_eq, upd_at])) (by decide) fun m2 a2 w2 => k m2 (((a.mono (fun _ h => List.mem_cons_of_mem _ h) (fun _ h => List.mem_cons_of_mem _ h)).trans (a19.mono (by simp) (by simp))).trans (a2.mono (by simp) (by simp))) ((v.ag a19 (by simp) (by decide)).ag a2 (by decide) (by decide)) w2
end C
/-! the calls themselves: the ones that throw -/
def M2n (Mm : Nat) (As : List Value) (B : Nat) (x : Int32) (r1 : Nat) (m1 : Nat → Nat → Int32) : Prop := ∀ Q2 : xQr, (∀ r2 mem2, RR B mem2 → mem2 108 20 = nI 0 → mem2 144 0 = x → Q2 (some (.int x)) (LAY, RFu r2, mem2)) → xCall 300 Mm (.ref 108 :: As) (LAY, RFu r1, xu2 m1 144 0 x) Q2
def M2t (Mm : Nat) (As : List Value) (B : Nat) (r1 : Nat) (m1 : Nat → Nat → Int32) : Prop := ∀ Q2 : xQr, (∀ r2 mem2 y, RR B mem2 → mem2 108 20 = nI 1 → Q2 (some (.int y)) (LAY, RFu r2, mem2)) → xCall 300 Mm (.ref 108 :: As) (LAY, RFu r1, m1) Q2
def TkT (Mc Mm : Nat) (As : List Value) : Prop := ∀ (N R B r : Nat) (mem : Nat → Nat → Int32) (Q : xQr), RRc mem N R B → B + 20000 < 500000000 → (∀ m1, M2t Mm As (B + 20000) r m1 → Q (some .null) (LAY, RFu r, m1)) → (∀ x m1, M2n Mm As (B + 20000) x r m1 → Q (some (.int x)) (LAY, RFu r, m1)) → xCall 299 Mc (.ref 0 :: As) (LAY, RFu r, mem) Q
theorem c160 {d r : Nat} {mem : Nat → Nat → Int32} {Q : xQr} (k : Q (some (.int (nI 0))) (LAY, RFu r, xu2 mem 108 20 (nI 1))) : xCall (d + 1) 160 [.ref 108] (LAY, RFu r, mem) Q := c_in rfl rfl rfl fun P hP => b160_0 hP k
theorem kLost {mem : Nat → Nat → Int32} {N R B : Nat} (h : RRc mem N R B) : RRc (xu2 (xu2 mem 108 20 (nI 0)) 108 20 (nI 1)) N R B := kM20 (kM20 h)
def wbits (F : Nat → Nat → Int32) (i : Nat) : Nat → Int32
  | 0 => nI 0
  | k + 1 => if F (k + 1) (8 + i) = 1 then wbits F i k ||| (nI 1 <<< (nI k &&& 31)) else wbits F i k
theorem tk_will (x y : Int32) : TkT 118 203 [.int x, .int y] := by
  intro N R B r mem Q h hB KT K
  obtain ⟨hR, hR4, hN, hN8, hR2, hN2⟩ := (RTo_parts h.2.2.1).1
  obtain ⟨hM, hS⟩ := h.2.2.2.1
  obtain ⟨g1, g2, g3, g4, g5, g6, g7⟩ := RRc_g h
  have no : ((∀ p, p < N → x ≠ nI p) ∨ (∀ s, 0 ≤ s → s ≤ 30 → y ≠ nI s)) → Q (some .null) (LAY, RFu r, mem) := fun hno => by
    refine KT _ ?_
    intro Q2 k2
    refine c_in rfl rfl rfl fun P hP => ?_
    have f : ∀ v1 v2 v3 v4, P 23 [.ref 108, v1, v2, v3, v4] [] (0, 0) (LAY, RFu r, xu2 mem 108 20 (nI 0)) := fun v1 v2 v3 v4 => b203_23 hP (c160 (Bk.i (b203_27 hP (k2 _ _ _ (kEnd (kLost h) hB) (by rw [xu2_eq, upd_at])))))
    refine b203_0 hP (c162 (N := N) (by rw [e20 (by decide), hN2]) (by omega) (fun _ => Bk.i (b203_10 hP (fun _ => f _ _ _ _) (fun z => absurd rfl z))) (fun p hp ep => Bk.i (b203_10 hP (fun z => absurd z (by decide)) (fun _ => b203_13 hP (c158r (a := 0) (b := 30) (by decide) (by decide) (fun _ => Bk.i (b203_20 hP (fun z => absurd rfl z) (fun _ => f _ _ _ _))) (fun s hs1 hs2 es => ?_))))))
    rcases hno with q | q
    · exact absurd ep (q p hp)
    · exact absurd es (q s hs1 hs2)
  refine c_in rfl rfl rfl fun P hP => b118_0 hP (c83 (Or.inl rfl) hN (by omega) (fun hp => Bk.i (b118_8 hP (fun _ => b118_21 hP (no (Or.inl hp))) (fun z => absurd rfl z))) (fun i hi ei => Bk.i (b118_8 hP (fun z => absurd z (by decide)) (fun _ => b118_11 hP (c151 (a := 0) (b := 30) (by decide) (by decide) (fun hs => Bk.i (b118_18 hP (fun z => absurd rfl z) (fun _ => b118_21 hP (no (Or.inr hs))))) (fun n hn1 hn2 en => Bk.i (b118_18 hP (fun _ => b118_29 hP (c60i h fun m0 f0 => Bk.v (b118_42 hP ?_))) (fun z => absurd z (by decide)))))))))
  subst ei
  subst en
  generalize hF : qtrs (gD mem) (mem 48) = F
  have key := xloop (N := n) (G := fun j => ∀ m', FI mem j m' → P 45 [.ref 0, .int (nI i), .int (nI n), .int (wbits F i j), .int (nI j)] [] (0, 0) (LAY, RFu r, m')) ?_ ?_
  · exact key m0 f0
  · intro m' f'
    refine b118_45 hP (fun _ => b118_92 hP (K _ _ ?_)) (fun z => absurd (Int32.le_refl _) z)
    intro Q2 k2
    generalize hm1 : xu2 m' 144 0 (wbits F i n) = m1
    have a1 : Ag [144] m' m1 := by rw [← hm1]; exact Ag.rfl'.u2 (by simp)
    have aa : Ag (144 :: fuW) mem m1 := (f'.1.mono (fun _ h => List.mem_cons_of_mem _ h)).trans (a1.mono (by decide))
    have hMB := RRc_MB h (by omega) aa (by decide) (by decide)
    refine c_in rfl rfl rfl fun P hP => b203_0 hP (c162 (N := N) (by rw [e20 (by decide), aa 108 (by decide), hN2]) (by omega) (fun q => absurd rfl (q i hi)) (fun _ _ _ => Bk.i (b203_10 hP (fun z => absurd z (by decide)) (fun _ => b203_13 hP (c158r (a := 0) (b := 30) (by decide) (by decide) (fun q => absurd rfl (q n hn1 hn2)) (fun _ _ _ _ => Bk.i (b203_20 hP (fun _ => b203_28 hP (m191 (MB20 hMB) fun m2 i2 => Bk.v (b203_37 hP ?_))) (fun z => absurd z (by decide)))))))))
    have key2 := xloop (N := n) (G := fun j => ∀ r' m', MI (xu2 m1 108 20 (nI 0)) (gD mem) (mem 48) j m' → P 42 [.ref 108, .int (nI i), .int (nI n), .int (wbits F i j), .int (nI j)] [] (0, 0) (LAY, RFu r', m')) ?_ ?_
    · exact key2 r m2 i2
    · intro r' m' i'
      refine b203_42 hP (fun _ => b203_78 hP (m192 (MB20 hMB) i' fun m2 a2 v2 => Bk.v (b203_87 hP (k2 _ _ (kEnd (kR0 h f' a1 (Or.inr rfl) (t20 a2) (by rw [← g1]; exact v2)) hB) ?_ ?_)))) (fun z => absurd (Int32.le_refl _) z)
      · rw [a2.2 20 (by decide), xu2_eq, upd_at]
      · rw [a2.1 144 (by decide) (by decide), xu2_ne (by decide), ← hm1, xu2_eq, upd_at]
    · intro j hj ih r' m' i'
      refine b203_42 hP (fun z => absurd z (nI_ge hj (by omega))) (fun _ => b203_48 hP (m190 (MB20 hMB) i' (by omega) fun r2 m2 y i2 => Bk.i (b203_52 hP (c193 (N := fN (gD mem)) i2.2.2 (qtrs_PV (by omega) (by omega) (by rw [g1]; exact hS.1) _) (by omega) (by omega) (Bk.i (b203_59 hP (fun z => b203_69 hP (b203_70 hP ?_)) (fun z => b203_62 hP (b203_70 hP ?_))))))))
      · have := ih r2 m2 i2
        rw [hF] at z
        rw [show wbits F i (j + 1) = wbits F i j from if_neg (b01_0.mp z)] at this
        rw [nIs, show nI 0 = 0 from rfl, Int32.or_zero]
        exact this
      · have := ih r2 m2 i2
        rw [hF] at z
        rw [show wbits F i (j + 1) = wbits F i j ||| (nI 1 <<< (nI j &&& 31)) from if_pos (Decidable.by_contra fun q => z (b01_f q))] at this
        rw [nIs]
        exact this
  · intro j hj ih m' f'
    refine b118_45 hP (fun z => absurd z (nI_ge hj (by omega))) (fun _ => b118_51 hP (c8f h (by omega) (by omega) f' fun m2 y f2 => Bk.i (b118_66 hP (c61 (Or.inr (Or.inl rfl)) (by omega) (Bk.i (b118_75 hP (fun z => b118_86 hP ?_) (fun z => b118_79 hP (b118_86 hP ?_))))))))
    · rw [show m2 (49 + 1) = _ from f2.2, hF, n1] at z
      have := ih m2 f2
      rw [show wbits F i (j + 1) = wbits F i j from if_neg z] at this
      rw [nIs]
      exact this
    · rw [show m2 (49 + 1) = _ from f2.2, hF, n1] at z
      have := ih m2 f2
      rw [show wbits F i (j + 1) = wbits F i j ||| (nI 1 <<< (nI j &&& 31)) from if_pos z] at this
      rw [nIs]
      exact this
