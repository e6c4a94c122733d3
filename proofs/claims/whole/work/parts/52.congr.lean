/-! configurations that come to the same -/
def CfE (f g : xCf) : Prop := fR f = fR g ∧ fN f = fN g ∧ fN f ≤ 8 ∧ (∀ r, r < fR f → fH f r = fH g r) ∧ (∀ p, p < fN f → fK f p = fK g p) ∧ (∀ now p, p < fN f → now < 1073741824 → fP f (nI now) p = fP g (nI now) p) ∧ ∀ c p, p < fN f → fA f c p = fA g c p ∧ fG f c p = fG g c p
theorem CfE.rfl' {f : xCf} (h : fN f ≤ 8) : CfE f f := ⟨rfl, rfl, h, fun _ _ => rfl, fun _ _ => rfl, fun _ _ _ _ => rfl, fun _ _ _ => ⟨rfl, rfl⟩⟩
theorem CfE.tr {f g h : xCf} (h1 : CfE f g) (h2 : CfE g h) : CfE f h := by
  obtain ⟨a1, a2, a3, a4, a5, a6, a7⟩ := h1
  obtain ⟨b1, b2, b3, b4, b5, b6, b7⟩ := h2
  exact ⟨a1.trans b1, a2.trans b2, a3, fun r hr => (a4 r hr).trans (b4 r (by omega)), fun p hp => (a5 p hp).trans (b5 p (by omega)), fun now p hp hn => (a6 now p hp hn).trans (b6 now p (by omega) hn), fun c p hp => ⟨(a7 c p hp).1.trans (b7 c p (by omega)).1, (a7 c p hp).2.trans (b7 c p (by omega)).2⟩⟩
section Q
variable {f g : xCf} {c : Nat → Int32}
theorem goP_congr (h : CfE f g) {now : Nat} (hw : c 120 = nI now) (hw2 : now < 1073741824) : goP f c = goP g c := by
  obtain ⟨-, h2, h3, -, -, h6, -⟩ := h
  have e : ∀ p, p < fN f → fP f (c 120) p = fP g (c 120) p := fun p hp => by rw [hw]; exact h6 now p hp hw2
  unfold goP goPn
  rw [← h2]
  rw [wr_congr (k := 8) (g' := fun p => if fP g (c 120) p = -1 then 0 else if fP g (c 120) p ≠ c p then 1 else c (8 + p)) (fun p hp => by rw [e p hp])]
  exact wr_congr (fun p hp => e p hp)
theorem rm1_congr (h : CfE f g) {r : Nat} (hr : r < fR f) : rm1 f c r = rm1 g c r := by
  obtain ⟨h1, h2, h3, h4, h5, h6, h7⟩ := h
  unfold rm1
  rw [h4 r hr, ← h2]
  split
  · exact posW_congr (fun _ _ => rfl) (fun p hp hs => lf_congr (fun _ _ => rfl) (fun q hq hs => (h7 c q (psS_lt hs)).2) _ p hp)
  · exact posW_congr (fun _ _ => rfl) (fun p hp hs => lf_congr (fun _ _ => rfl) (fun q hq hs => (h7 c q (psS_lt hs)).1) _ p hp)
theorem askR_congr (h : CfE f g) {r : Nat} : askR f c r = askR g c r := by
  obtain ⟨h1, h2, h3, h4, h5, h6, h7⟩ := h
  have eA : ∀ p, asS f c r p = asS g c r p := fun p => by unfold asS; rw [h2]
  have eG : ∀ p, giS f c r p = giS g c r p := fun p => by
    unfold giS
    rw [← h2]
    by_cases q : psS (fN f) c r 2 p = true
    · rw [h5 p (psS_lt q)]
    · rw [bfalse q]; rfl
  have e1 : pick (fA f c) (asS f c r) 8 = pick (fA g c) (asS g c r) 8 := pick_congr (fun p _ => eA p) (fun p _ hs => (h7 c p (asS_lt hs).1).1)
  have e2 : pick (fG f c) (giS f c r) 8 = pick (fG g c) (giS g c r) 8 := pick_congr (fun p _ => eG p) (fun p _ hs => (h7 c p (giS_lt hs).1).2)
  unfold askR
  rw [e1, e2]
theorem rmG_congr (h : CfE f g) {r : Nat} : rmG f c r = rmG g c r := by unfold rmG; rw [askR_congr h]
theorem rms_congr (h : CfE f g) : ∀ n, n ≤ fR f → rms f c n = rms g c n
  | 0, _ => rfl
  | n + 1, hn => by
    show rmG f (rm1 f (rms f c n) n) n = rmG g (rm1 g (rms g c n) n) n
    rw [rms_congr h n (by omega), rm1_congr h (by omega), rmG_congr h]
theorem rmA_congr (h : CfE f g) {r : Nat} (hr : r < fR f) : rmA f c r = rmA g c r := by
  unfold rmA
  rw [rms_congr h r (by omega), rm1_congr h hr, askR_congr h]
theorem nAsk_congr (h : CfE f g) : ∀ n, n ≤ fR f → nAsk f c n = nAsk g c n := fun n hn => cnt_congr n (fun r hr => by rw [rmA_congr h (by omega)])
theorem qtr_congr (h : CfE f g) {now : Nat} (hw : c 120 = nI now) (hw2 : now < 1073741824) : qtr f c = qtr g c ∧ qAsk f c = qAsk g c := by
  have e := goP_congr h hw hw2
  refine ⟨?_, ?_⟩
  · unfold qtr
    rw [e, ← h.1, ← h.2.1, rms_congr h _ (Nat.le_refl _)]
  · unfold qAsk
    rw [e, ← h.1, nAsk_congr h _ (Nat.le_refl _)]
theorem qtrs_congr (h : CfE f g) {now : Nat} (hw : c 120 = nI now) : ∀ n, now + n < 1073741824 → qtrs f c n = qtrs g c n
  | 0, _ => rfl
  | n + 1, hn => by
    show qtr f (qtrs f c n) = qtr g (qtrs g c n)
    rw [(qtr_congr h (qtrs_120 h.2.2.1 hw n) (by omega)).1, qtrs_congr h hw n (by omega)]
theorem qAsks_congr (h : CfE f g) {now : Nat} (hw : c 120 = nI now) : ∀ n, now + n < 1073741824 → qAsks f c n = qAsks g c n
  | 0, _ => rfl
  | n + 1, hn => by
    show qAsks f c n + qAsk f (qtrs f c n) = qAsks g c n + qAsk g (qtrs g c n)
    rw [qAsks_congr h hw n (by omega), (qtr_congr h (qtrs_120 h.2.2.1 hw n) (by omega)).2, qtrs_congr h hw n (by omega)]
theorem stD_congr (h : CfE f g) {now : Nat} (hw : c 120 = nI now) {n : Nat} (hn : now + n < 1073741824) : stD f c n = stD g c n := by
  unfold stD; rw [qtrs_congr h hw n hn]
theorem stA_congr (h : CfE f g) {now : Nat} (hw : c 120 = nI now) {n : Nat} (hn : now + n < 1073741824) : stA f c n = stA g c n := by
  unfold stA; rw [stD_congr h hw hn, h.2.1]
end Q
/-! the parts of what holds between the class and the reference -/
def Eqs (C S : List Nat) (m m' : Nat → Nat → Int32) : Prop := (∀ c, c ∈ C → m' c = m c) ∧ ∀ j, j ∈ S → m' 108 j = m 108 j
theorem Eqs.tr {C S : List Nat} {m m1 m2 : Nat → Nat → Int32} (h1 : Eqs C S m m1) (h2 : Eqs C S m1 m2) : Eqs C S m m2 := ⟨fun c hc => (h2.1 c hc).trans (h1.1 c hc), fun j hj => (h2.2 j hj).trans (h1.2 j hj)⟩
theorem Ag.eqs {W C S : List Nat} {m m' : Nat → Nat → Int32} (h : Ag W m m') (hC : ∀ c, c ∈ C → c ∉ W) (h8 : 108 ∉ W) : Eqs C S m m' := ⟨fun c hc => h c (hC c hc), fun j _ => by rw [h 108 h8]⟩
theorem AgM.eqs {W V C S : List Nat} {m m' : Nat → Nat → Int32} (h : AgM W V m m') (hC : ∀ c, c ∈ C → c ∉ W ∧ c ≠ 108) (hS : ∀ c, c ∈ S → c ∉ V) : Eqs C S m m' := ⟨fun c hc => h.1 c (hC c hc).1 (hC c hc).2, fun j hj => h.2 j (hS j hj)⟩
theorem AgM.drop {W V : List Nat} {m m' : Nat → Nat → Int32} {x : Nat} (h : AgM (x :: W) V m m') (e : m' x = m x) : AgM W V m m' := ⟨fun c hc h8 => by
  by_cases q : c = x
  · rw [q, e]
  · exact h.1 c (fun z => (List.mem_cons.mp z).elim q hc) h8, h.2⟩
theorem AgM.drops {W V : List Nat} {m m' : Nat → Nat → Int32} {x : Nat} (h : AgM W (x :: V) m m') (e : m' 108 x = m 108 x) : AgM W V m m' := ⟨h.1, fun j hj => by
  by_cases q : j = x
  · rw [q, e]
  · exact h.2 j (fun z => (List.mem_cons.mp z).elim q hj)⟩
/-- the text -/
def RTx (mem : Nat → Nat → Int32) : Prop := ∃ len tx, TxC mem len tx ∧ TxM mem len tx
theorem RTx.mv {m m' : Nat → Nat → Int32} (h : RTx m) (e : Eqs [1, 2, 122] [17] m m') : RTx m' := by
  unfold RTx TxC TxM at h ⊢
  rw [e.1 1 (by decide), e.1 2 (by decide), e.1 122 (by decide), e.2 17 (by decide)]
  exact h
/-- the row -/
def RwM (mem : Nat → Nat → Int32) (xs : List Int32) : Prop := mem 108 19 = nI xs.length ∧ ∀ k, k < xs.length → mem 123 k = xs.getD k 0
def RRw (mem : Nat → Nat → Int32) : Prop := ∃ xs, RwC mem xs ∧ RwM mem xs
theorem RwC.mv {m m' : Nat → Nat → Int32} {xs : List Int32} (h : RwC m xs) (e : Eqs [3, 4] [] m m') : RwC m' xs := by
  unfold RwC at h ⊢
  rw [e.1 3 (by decide), e.1 4 (by decide)]
  exact h
theorem RRw.mv {m m' : Nat → Nat → Int32} (h : RRw m) (e : Eqs [3, 4, 123] [19] m m') : RRw m' := by
  unfold RRw RwC RwM at h ⊢
  rw [e.1 3 (by decide), e.1 4 (by decide), e.1 123 (by decide), e.2 19 (by decide)]
  exact h
/-- the town: N of PEOPLE, R ROOMS -/
def RTo (mem : Nat → Nat → Int32) (N R : Nat) : Prop :=
  mem 5 0 = nI R ∧ R ≤ 4 ∧ mem 5 1 = nI N ∧ N ≤ 8 ∧ mem 108 0 = nI R ∧ mem 108 2 = nI N ∧
  (∀ r, r < 4 → ∃ h, h ≤ 8 ∧ mem 6 r = nI h ∧ (r < R → mem 109 r = nI h)) ∧
  (∀ p, p < N → mem 7 p = mem 110 p ∧ mem 8 p = mem 111 p ∧ (mem 8 p = 0 ∨ mem 8 p = 1)) ∧
  (∀ p, p < 8 → ∃ L, L ≤ 24 ∧ mem 18 p = nI L ∧ (N ≤ p → L = 0) ∧ (p < N → mem 113 p = nI L ∧ ∀ k, k < L → mem (10 + p) k = mem 112 (24 * p + k) ∧ (mem (10 + p) k = -1 ∨ ∃ rm, rm < R ∧ mem (10 + p) k = nI rm))) ∧
  (∀ p, p < 8 → mem 19 p = 0 ∧ mem 128 p = nI 99 ∧ mem 129 p = 0) ∧ mem 108 29 = nI 0 ∧ mem 108 32 = -1 ∧
  (∃ n tx, RmT mem 0 n tx ∧ RuL mem 20 (rsM 0 n tx)) ∧ ∃ n tx, RmT mem 1 n tx ∧ RuL mem 23 (rsM 1 n tx)
def toC : List Nat := [5, 6, 7, 8, 10, 11, 12, 13, 14, 15, 16, 17, 18, 19, 20, 21, 23, 24]
def toM : List Nat := [109, 110, 111, 112, 113, 125, 126, 127, 128, 129]
def toS : List Nat := [0, 2, 29, 32]
theorem RTo.mv {m m' : Nat → Nat → Int32} {N R : Nat} (h : RTo m N R) (e : Eqs (toC ++ toM) toS m m') : RTo m' N R := by
  unfold RTo RmT RuL at h ⊢
  have hp : ∀ p, p < 8 → m' (10 + p) = m (10 + p) := fun p hp => e.1 _ (by
    have : ∀ p < 8, 10 + p ∈ toC ++ toM := by decide
    exact this p hp)
  obtain ⟨h1, h2, h3, h4, h5, h6, h7, h8, h9, h10, h11, h12, h13, h14⟩ := h
  rw [e.1 5 (by decide), e.1 6 (by decide), e.1 7 (by decide), e.1 8 (by decide), e.1 18 (by decide), e.1 19 (by decide), e.1 20 (by decide), e.1 (20 + 1) (by decide), e.1 23 (by decide), e.1 (23 + 1) (by decide), e.1 109 (by decide), e.1 110 (by decide), e.1 111 (by decide), e.1 112 (by decide), e.1 113 (by decide), e.1 (125 + 0) (by decide), e.1 (125 + 1) (by decide), e.1 127 (by decide), e.1 128 (by decide), e.1 129 (by decide), e.2 0 (by decide), e.2 2 (by decide), e.2 29 (by decide), e.2 32 (by decide)]
  refine ⟨h1, h2, h3, h4, h5, h6, h7, h8, fun p hp8 => ?_, h10, h11, h12, h13, h14⟩
  rw [hp p hp8]
  exact h9 p hp8
/-- how all are -/
def RSt (mem : Nat → Nat → Int32) (N R B : Nat) : Prop := MV mem N (mem 48) ∧ SV N R B (mem 48)
theorem MV.eqs {mem m' : Nat → Nat → Int32} {N : Nat} {c : Nat → Int32} (h : MV mem N c) (e : Eqs mvC [15] mem m') : MV m' N c := by
  unfold MV at h ⊢
  rw [e.1 114 (by decide), e.1 115 (by decide), e.1 116 (by decide), e.1 117 (by decide), e.1 118 (by decide), e.1 119 (by decide), e.1 120 (by decide), e.1 121 (by decide), e.2 15 (by decide)]
  exact h
theorem RSt.mv {m m' : Nat → Nat → Int32} {N R B : Nat} (h : RSt m N R B) (e : Eqs (48 :: mvC) [15] m m') : RSt m' N R B := by
  refine ⟨?_, ?_⟩
  · rw [e.1 48 (by decide)]
    exact h.1.eqs ⟨fun c hc => e.1 c (List.mem_cons_of_mem _ hc), e.2⟩
  · rw [e.1 48 (by decide)]
    exact h.2
/-- what can be undone -/
def RUn (mem : Nat → Nat → Int32) (N R B : Nat) : Prop := ∃ u fr, mem 55 0 = nI u ∧ u ≤ 10 ∧ mem 55 2 = nI fr ∧ fr < 10 ∧ mem 108 37 = nI u ∧ ∀ k, k < u → LV (mem 132) (121 * k) N (mem (57 + (fr + 10 - u + k) % 10)) ∧ SV N R B (mem (57 + (fr + 10 - u + k) % 10))
def unC : List Nat := [55, 57, 58, 59, 60, 61, 62, 63, 64, 65, 66]
theorem RUn.mv {m m' : Nat → Nat → Int32} {N R B : Nat} (h : RUn m N R B) (e : Eqs (132 :: unC) [37] m m') : RUn m' N R B := by
  obtain ⟨u, fr, h1, h2, h3, h4, h5, h6⟩ := h
  refine ⟨u, fr, by rw [e.1 55 (by decide), h1], h2, by rw [e.1 55 (by decide), h3], h4, by rw [e.2 37 (by decide), h5], fun k hk => ?_⟩
  have : ∀ x < 10, 57 + x ∈ 132 :: unC := by decide
  rw [e.1 132 (by decide), e.1 (57 + (fr + 10 - u + k) % 10) (this _ (Nat.mod_lt _ (by decide)))]
  exact h6 k hk
/-- what was told -/
def ROl (mem : Nat → Nat → Int32) (N : Nat) : Prop := ∃ T, T ≤ 8 ∧ mem 0 14 = nI T ∧ mem 108 45 = nI T ∧ ∀ k, k < T → ∃ p s, p < N ∧ s ≤ 100 ∧ mem 104 k = nI p ∧ mem 138 k = nI p ∧ mem 105 k = nI s ∧ mem 139 k = nI s
theorem ROl.mv {m m' : Nat → Nat → Int32} {N : Nat} (h : ROl m N) (e : Eqs [0, 104, 105, 138, 139] [45] m m') : ROl m' N := by
  unfold ROl at h ⊢
  rw [e.1 0 (by decide), e.1 104 (by decide), e.1 105 (by decide), e.1 138 (by decide), e.1 139 (by decide), e.2 45 (by decide)]
  exact h
/-- what is kept under i -/
def RK1 (mem : Nat → Nat → Int32) (N R B came i : Nat) : Prop := (mem 77 i = -1 ∧ mem 142 i = 0) ∨ (mem 142 i = 1 ∧ ∃ n' r' kc, mem 77 i = nI n' ∧ mem 76 i = nI r' ∧ mem 143 i = nI kc ∧ kc ≤ came ∧ n' ≤ N ∧ r' ≤ R ∧ (kc = came ↔ n' = N ∧ r' = R) ∧
  (kc = came → LV (mem 141) (133 * i) N (mem (68 + i)) ∧ SV N R B (mem (68 + i)) ∧ (∀ p, p < N → mem (71 + i) p = mem 141 (133 * i + 121 + p) ∧ (mem (71 + i) p = 0 ∨ mem (71 + i) p = 1)) ∧ (∀ r, r < 4 → ∃ h, h ≤ 8 ∧ mem (74 + i) r = nI h ∧ (r < R → mem 141 (133 * i + 129 + r) = nI h))))
def RKe (mem : Nat → Nat → Int32) (N R B : Nat) : Prop := ∃ came, came ≤ B ∧ (mem 108 47 = nI came ∧ mem 91 0 = 0) ∧ RK1 mem N R B came 0 ∧ RK1 mem N R B came 1
theorem RKe.mv {m m' : Nat → Nat → Int32} {N R B : Nat} (h : RKe m N R B) (e : Eqs [68, 69, 71, 72, 74, 75, 76, 77, 91, 141, 142, 143] [47] m m') : RKe m' N R B := by
  unfold RKe RK1 at h ⊢
  rw [e.1 91 (by decide), e.1 76 (by decide), e.1 77 (by decide), e.1 141 (by decide), e.1 142 (by decide), e.1 143 (by decide), e.2 47 (by decide), e.1 (68 + 0) (by decide), e.1 (68 + 1) (by decide), e.1 (71 + 0) (by decide), e.1 (71 + 1) (by decide), e.1 (74 + 0) (by decide), e.1 (74 + 1) (by decide)]
  exact h
/-- nothing stands behind the cells of a state -/
def zC : List Nat := [48, 50, 57, 58, 59, 60, 61, 62, 63, 64, 65, 66, 68, 69, 83, 85, 86, 87, 88, 89, 90]
def RZe (mem : Nat → Nat → Int32) : Prop := ∀ c, c ∈ zC → ∀ i, 121 ≤ i → mem c i = 0
theorem RZe.mv {m m' : Nat → Nat → Int32} (h : RZe m) (e : ∀ c, c ∈ zC → m' c = m c ∨ ∀ i, 121 ≤ i → m' c i = 0) : RZe m' := fun c hc i hi => by
  rcases e c hc with q | q
  · rw [q]; exact h c hc i hi
  · exact q i hi
/-- all of it -/
def RRc (mem : Nat → Nat → Int32) (N R B : Nat) : Prop := RTx mem ∧ RRw mem ∧ RTo mem N R ∧ RSt mem N R B ∧ RUn mem N R B ∧ ROl mem N ∧ RKe mem N R B ∧ RZe mem
def RR (B : Nat) (mem : Nat → Nat → Int32) : Prop := B < 500000000 ∧ ∃ N R, RRc mem N R B
theorem RUn.mono {m : Nat → Nat → Int32} {N R B B' : Nat} (h : RUn m N R B) (hB : B ≤ B') : RUn m N R B' := by
  obtain ⟨u, fr, h1, h2, h3, h4, h5, h6⟩ := h
  exact ⟨u, fr, h1, h2, h3, h4, h5, fun k hk => ⟨(h6 k hk).1, (h6 k hk).2.mono (Nat.le_refl _) hB⟩⟩
theorem RK1.mono {m : Nat → Nat → Int32} {N R B B' came i : Nat} (h : RK1 m N R B came i) (hB : B ≤ B') : RK1 m N R B' came i := by
  rcases h with h | ⟨h1, n', r', kc, h2, h3, h4, h5, h6, h7, h8, h9⟩
  · exact Or.inl h
  · exact Or.inr ⟨h1, n', r', kc, h2, h3, h4, h5, h6, h7, h8, fun z => ⟨(h9 z).1, (h9 z).2.1.mono (Nat.le_refl _) hB, (h9 z).2.2⟩⟩
theorem RKe.mono {m : Nat → Nat → Int32} {N R B B' : Nat} (h : RKe m N R B) (hB : B ≤ B') : RKe m N R B' := by
  obtain ⟨came, h1, h2, h3, h4⟩ := h
  exact ⟨came, by omega, h2, h3.mono hB, h4.mono hB⟩
theorem RRc.mono {m : Nat → Nat → Int32} {N R B B' : Nat} (h : RRc m N R B) (hB : B ≤ B') : RRc m N R B' := ⟨h.1, h.2.1, h.2.2.1, ⟨h.2.2.2.1.1, h.2.2.2.1.2.mono (Nat.le_refl _) hB⟩, h.2.2.2.2.1.mono hB, h.2.2.2.2.2.1, h.2.2.2.2.2.2.1.mono hB, h.2.2.2.2.2.2.2⟩
